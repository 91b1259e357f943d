/-! words of one list among another's, by their places, one by one -/
def GW (big : List Cond) (w : Cond) : Prop := w ∈ big ∧ ((w.onTables && w.keeps) = true ∨ ∃ ty, w = .arrayClass ty)
theorem gI_c {big l : List Cond} {a : Cond} (h : GW big a) (t : GoodIn big l) : GoodIn big (a :: l) := fun w hw => (List.mem_cons.mp hw).elim (fun e => by rw [e]; exact h) (t w)
theorem gI_n {big : List Cond} : GoodIn big [] := fun _ h => absurd h List.not_mem_nil
theorem gw {big : List Cond} (i : Nat) {w : Cond} (h : big[i]? = some w) (hg : goodWord w = true) : GW big w := ⟨List.mem_of_getElem? h, good_of_word hg⟩
theorem mI_c {big l : List Cond} {a : Cond} (h : a ∈ big) (t : ∀ w ∈ l, w ∈ big) : ∀ w ∈ a :: l, w ∈ big := fun w hw => (List.mem_cons.mp hw).elim (fun e => by rw [e]; exact h) (t w)
theorem mI_n {big : List Cond} : ∀ w ∈ ([] : List Cond), w ∈ big := fun _ h => absurd h List.not_mem_nil
theorem mI_i {big : List Cond} (i : Nat) {w : Cond} (h : big[i]? = some w) : w ∈ big := List.mem_of_getElem? h
set_option maxRecDepth 20000 in
theorem ggX0_init_J7_fill_53178 : GoodIn wsX0_init wsJ7_fill_53178 := (by refine gI_c (gw 20 rfl rfl) ?_; exact gI_n)
set_option maxRecDepth 20000 in
theorem gX0_init_J7_fill_53178 : GoodIn wsX0_init (va_wsS RX0 49 yJ7_fill_53178 wsJ7_fill_53178) := goodIn_app (goodIn_of _ (by decide +kernel)) ggX0_init_J7_fill_53178
theorem dX0_init_0 : decode cX0_init 0 = .ok (.aload_n 0, 1) := by decide +kernel
theorem dX0_init_1 : decode cX0_init 1 = .ok (.invokespecial 3, 3) := by decide +kernel
theorem dX0_init_4 : decode cX0_init 4 = .ok (.aload_n 0, 1) := by decide +kernel
theorem dX0_init_5 : decode cX0_init 5 = .ok (.iconst 2, 1) := by decide +kernel
theorem dX0_init_6 : decode cX0_init 6 = .ok (.putfield 9, 3) := by decide +kernel
theorem dX0_init_9 : decode cX0_init 9 = .ok (.aload_n 0, 1) := by decide +kernel
theorem dX0_init_10 : decode cX0_init 10 = .ok (.iconst 5, 1) := by decide +kernel
theorem dX0_init_11 : decode cX0_init 11 = .ok (.newarray .int, 2) := by decide +kernel
theorem dX0_init_13 : decode cX0_init 13 = .ok (.dup, 1) := by decide +kernel
theorem dX0_init_14 : decode cX0_init 14 = .ok (.iconst 0, 1) := by decide +kernel
theorem dX0_init_15 : decode cX0_init 15 = .ok (.bipush 100, 2) := by decide +kernel
theorem dX0_init_17 : decode cX0_init 17 = .ok (.iastore, 1) := by decide +kernel
theorem dX0_init_18 : decode cX0_init 18 = .ok (.dup, 1) := by decide +kernel
theorem dX0_init_19 : decode cX0_init 19 = .ok (.iconst 1, 1) := by decide +kernel
theorem dX0_init_20 : decode cX0_init 20 = .ok (.bipush 90, 2) := by decide +kernel
theorem dX0_init_22 : decode cX0_init 22 = .ok (.iastore, 1) := by decide +kernel
theorem dX0_init_23 : decode cX0_init 23 = .ok (.dup, 1) := by decide +kernel
theorem dX0_init_24 : decode cX0_init 24 = .ok (.iconst 2, 1) := by decide +kernel
theorem dX0_init_25 : decode cX0_init 25 = .ok (.bipush 10, 2) := by decide +kernel
theorem dX0_init_27 : decode cX0_init 27 = .ok (.iastore, 1) := by decide +kernel
theorem dX0_init_28 : decode cX0_init 28 = .ok (.dup, 1) := by decide +kernel
theorem dX0_init_29 : decode cX0_init 29 = .ok (.iconst 3, 1) := by decide +kernel
theorem dX0_init_30 : decode cX0_init 30 = .ok (.iconst 0, 1) := by decide +kernel
theorem dX0_init_31 : decode cX0_init 31 = .ok (.iastore, 1) := by decide +kernel
theorem dX0_init_32 : decode cX0_init 32 = .ok (.dup, 1) := by decide +kernel
theorem dX0_init_33 : decode cX0_init 33 = .ok (.iconst 4, 1) := by decide +kernel
theorem dX0_init_34 : decode cX0_init 34 = .ok (.iconst 5, 1) := by decide +kernel
theorem dX0_init_35 : decode cX0_init 35 = .ok (.iastore, 1) := by decide +kernel
theorem dX0_init_36 : decode cX0_init 36 = .ok (.putfield 15, 3) := by decide +kernel
theorem dX0_init_39 : decode cX0_init 39 = .ok (.aload_n 0, 1) := by decide +kernel
theorem dX0_init_40 : decode cX0_init 40 = .ok (.iconst 0, 1) := by decide +kernel
theorem dX0_init_41 : decode cX0_init 41 = .ok (.putfield 19, 3) := by decide +kernel
theorem dX0_init_44 : decode cX0_init 44 = .ok (.aload_n 0, 1) := by decide +kernel
theorem dX0_init_45 : decode cX0_init 45 = .ok (.bipush 10, 2) := by decide +kernel
theorem dX0_init_47 : decode cX0_init 47 = .ok (.newarray .int, 2) := by decide +kernel
theorem dX0_init_49 : decode cX0_init 49 = .ok (.putfield 22, 3) := by decide +kernel
theorem dX0_init_52 : decode cX0_init 52 = .ok (.aload_n 0, 1) := by decide +kernel
theorem dX0_init_53 : decode cX0_init 53 = .ok (.bipush 6, 2) := by decide +kernel
theorem dX0_init_55 : decode cX0_init 55 = .ok (.newarray .int, 2) := by decide +kernel
theorem dX0_init_57 : decode cX0_init 57 = .ok (.putfield 25, 3) := by decide +kernel
theorem dX0_init_60 : decode cX0_init 60 = .ok (.aload_n 0, 1) := by decide +kernel
theorem dX0_init_61 : decode cX0_init 61 = .ok (.bipush 6, 2) := by decide +kernel
theorem dX0_init_63 : decode cX0_init 63 = .ok (.newarray .int, 2) := by decide +kernel
theorem dX0_init_65 : decode cX0_init 65 = .ok (.putfield 28, 3) := by decide +kernel
theorem dX0_init_68 : decode cX0_init 68 = .ok (.aload_n 0, 1) := by decide +kernel
theorem dX0_init_69 : decode cX0_init 69 = .ok (.bipush 6, 2) := by decide +kernel
theorem dX0_init_71 : decode cX0_init 71 = .ok (.newarray .int, 2) := by decide +kernel
theorem dX0_init_73 : decode cX0_init 73 = .ok (.putfield 31, 3) := by decide +kernel
theorem dX0_init_76 : decode cX0_init 76 = .ok (.aload_n 0, 1) := by decide +kernel
theorem dX0_init_77 : decode cX0_init 77 = .ok (.bipush 6, 2) := by decide +kernel
theorem dX0_init_79 : decode cX0_init 79 = .ok (.newarray .int, 2) := by decide +kernel
theorem dX0_init_81 : decode cX0_init 81 = .ok (.putfield 34, 3) := by decide +kernel
theorem dX0_init_84 : decode cX0_init 84 = .ok (.aload_n 0, 1) := by decide +kernel
theorem dX0_init_85 : decode cX0_init 85 = .ok (.bipush 6, 2) := by decide +kernel
theorem dX0_init_87 : decode cX0_init 87 = .ok (.newarray .int, 2) := by decide +kernel
theorem dX0_init_89 : decode cX0_init 89 = .ok (.putfield 37, 3) := by decide +kernel
theorem dX0_init_92 : decode cX0_init 92 = .ok (.aload_n 0, 1) := by decide +kernel
theorem dX0_init_93 : decode cX0_init 93 = .ok (.bipush 6, 2) := by decide +kernel
theorem dX0_init_95 : decode cX0_init 95 = .ok (.newarray .int, 2) := by decide +kernel
theorem dX0_init_97 : decode cX0_init 97 = .ok (.putfield 40, 3) := by decide +kernel
theorem dX0_init_100 : decode cX0_init 100 = .ok (.aload_n 0, 1) := by decide +kernel
theorem dX0_init_101 : decode cX0_init 101 = .ok (.bipush 6, 2) := by decide +kernel
theorem dX0_init_103 : decode cX0_init 103 = .ok (.newarray .int, 2) := by decide +kernel
theorem dX0_init_105 : decode cX0_init 105 = .ok (.putfield 43, 3) := by decide +kernel
theorem dX0_init_108 : decode cX0_init 108 = .ok (.aload_n 0, 1) := by decide +kernel
theorem dX0_init_109 : decode cX0_init 109 = .ok (.bipush 6, 2) := by decide +kernel
theorem dX0_init_111 : decode cX0_init 111 = .ok (.newarray .int, 2) := by decide +kernel
theorem dX0_init_113 : decode cX0_init 113 = .ok (.putfield 46, 3) := by decide +kernel
theorem dX0_init_116 : decode cX0_init 116 = .ok (.aload_n 0, 1) := by decide +kernel
theorem dX0_init_117 : decode cX0_init 117 = .ok (.getfield 25, 3) := by decide +kernel
theorem dX0_init_120 : decode cX0_init 120 = .ok (.iconst 5, 1) := by decide +kernel
theorem dX0_init_121 : decode cX0_init 121 = .ok (.invokestatic 49, 3) := by decide +kernel
theorem dX0_init_124 : decode cX0_init 124 = .ok (.aload_n 0, 1) := by decide +kernel
theorem dX0_init_125 : decode cX0_init 125 = .ok (.getfield 34, 3) := by decide +kernel
theorem dX0_init_128 : decode cX0_init 128 = .ok (.bipush 50, 2) := by decide +kernel
theorem dX0_init_130 : decode cX0_init 130 = .ok (.invokestatic 49, 3) := by decide +kernel
theorem dX0_init_133 : decode cX0_init 133 = .ok (.return_, 1) := by decide +kernel
theorem dX0_copyFrom_0 : decode cX0_copyFrom 0 = .ok (.aload_n 0, 1) := by decide +kernel
theorem dX0_copyFrom_1 : decode cX0_copyFrom 1 = .ok (.aload_n 1, 1) := by decide +kernel
theorem dX0_copyFrom_2 : decode cX0_copyFrom 2 = .ok (.getfield 9, 3) := by decide +kernel
theorem dX0_copyFrom_5 : decode cX0_copyFrom 5 = .ok (.putfield 9, 3) := by decide +kernel
theorem dX0_copyFrom_8 : decode cX0_copyFrom 8 = .ok (.aload_n 0, 1) := by decide +kernel
theorem dX0_copyFrom_9 : decode cX0_copyFrom 9 = .ok (.aload_n 1, 1) := by decide +kernel
theorem dX0_copyFrom_10 : decode cX0_copyFrom 10 = .ok (.getfield 19, 3) := by decide +kernel
theorem dX0_copyFrom_13 : decode cX0_copyFrom 13 = .ok (.putfield 19, 3) := by decide +kernel
theorem dX0_copyFrom_16 : decode cX0_copyFrom 16 = .ok (.aload_n 1, 1) := by decide +kernel
theorem dX0_copyFrom_17 : decode cX0_copyFrom 17 = .ok (.getfield 15, 3) := by decide +kernel
theorem dX0_copyFrom_20 : decode cX0_copyFrom 20 = .ok (.iconst 0, 1) := by decide +kernel
theorem dX0_copyFrom_21 : decode cX0_copyFrom 21 = .ok (.aload_n 0, 1) := by decide +kernel
theorem dX0_copyFrom_22 : decode cX0_copyFrom 22 = .ok (.getfield 15, 3) := by decide +kernel
theorem dX0_copyFrom_25 : decode cX0_copyFrom 25 = .ok (.iconst 0, 1) := by decide +kernel
theorem dX0_copyFrom_26 : decode cX0_copyFrom 26 = .ok (.iconst 5, 1) := by decide +kernel
theorem dX0_copyFrom_27 : decode cX0_copyFrom 27 = .ok (.invokestatic 55, 3) := by decide +kernel
theorem dX0_copyFrom_30 : decode cX0_copyFrom 30 = .ok (.aload_n 1, 1) := by decide +kernel
theorem dX0_copyFrom_31 : decode cX0_copyFrom 31 = .ok (.getfield 22, 3) := by decide +kernel
theorem dX0_copyFrom_34 : decode cX0_copyFrom 34 = .ok (.iconst 0, 1) := by decide +kernel
theorem dX0_copyFrom_35 : decode cX0_copyFrom 35 = .ok (.aload_n 0, 1) := by decide +kernel
theorem dX0_copyFrom_36 : decode cX0_copyFrom 36 = .ok (.getfield 22, 3) := by decide +kernel
theorem dX0_copyFrom_39 : decode cX0_copyFrom 39 = .ok (.iconst 0, 1) := by decide +kernel
theorem dX0_copyFrom_40 : decode cX0_copyFrom 40 = .ok (.bipush 10, 2) := by decide +kernel
theorem dX0_copyFrom_42 : decode cX0_copyFrom 42 = .ok (.invokestatic 55, 3) := by decide +kernel
theorem dX0_copyFrom_45 : decode cX0_copyFrom 45 = .ok (.aload_n 1, 1) := by decide +kernel
theorem dX0_copyFrom_46 : decode cX0_copyFrom 46 = .ok (.getfield 25, 3) := by decide +kernel
theorem dX0_copyFrom_49 : decode cX0_copyFrom 49 = .ok (.iconst 0, 1) := by decide +kernel
theorem dX0_copyFrom_50 : decode cX0_copyFrom 50 = .ok (.aload_n 0, 1) := by decide +kernel
theorem dX0_copyFrom_51 : decode cX0_copyFrom 51 = .ok (.getfield 25, 3) := by decide +kernel
theorem dX0_copyFrom_54 : decode cX0_copyFrom 54 = .ok (.iconst 0, 1) := by decide +kernel
theorem dX0_copyFrom_55 : decode cX0_copyFrom 55 = .ok (.bipush 6, 2) := by decide +kernel
theorem dX0_copyFrom_57 : decode cX0_copyFrom 57 = .ok (.invokestatic 55, 3) := by decide +kernel
theorem dX0_copyFrom_60 : decode cX0_copyFrom 60 = .ok (.aload_n 1, 1) := by decide +kernel
theorem dX0_copyFrom_61 : decode cX0_copyFrom 61 = .ok (.getfield 28, 3) := by decide +kernel
theorem dX0_copyFrom_64 : decode cX0_copyFrom 64 = .ok (.iconst 0, 1) := by decide +kernel
theorem dX0_copyFrom_65 : decode cX0_copyFrom 65 = .ok (.aload_n 0, 1) := by decide +kernel
theorem dX0_copyFrom_66 : decode cX0_copyFrom 66 = .ok (.getfield 28, 3) := by decide +kernel
theorem dX0_copyFrom_69 : decode cX0_copyFrom 69 = .ok (.iconst 0, 1) := by decide +kernel
theorem dX0_copyFrom_70 : decode cX0_copyFrom 70 = .ok (.bipush 6, 2) := by decide +kernel
theorem dX0_copyFrom_72 : decode cX0_copyFrom 72 = .ok (.invokestatic 55, 3) := by decide +kernel
theorem dX0_copyFrom_75 : decode cX0_copyFrom 75 = .ok (.aload_n 1, 1) := by decide +kernel
theorem dX0_copyFrom_76 : decode cX0_copyFrom 76 = .ok (.getfield 31, 3) := by decide +kernel
theorem dX0_copyFrom_79 : decode cX0_copyFrom 79 = .ok (.iconst 0, 1) := by decide +kernel
theorem dX0_copyFrom_80 : decode cX0_copyFrom 80 = .ok (.aload_n 0, 1) := by decide +kernel
theorem dX0_copyFrom_81 : decode cX0_copyFrom 81 = .ok (.getfield 31, 3) := by decide +kernel
theorem dX0_copyFrom_84 : decode cX0_copyFrom 84 = .ok (.iconst 0, 1) := by decide +kernel
theorem dX0_copyFrom_85 : decode cX0_copyFrom 85 = .ok (.bipush 6, 2) := by decide +kernel
theorem dX0_copyFrom_87 : decode cX0_copyFrom 87 = .ok (.invokestatic 55, 3) := by decide +kernel
theorem dX0_copyFrom_90 : decode cX0_copyFrom 90 = .ok (.aload_n 1, 1) := by decide +kernel
theorem dX0_copyFrom_91 : decode cX0_copyFrom 91 = .ok (.getfield 34, 3) := by decide +kernel
theorem dX0_copyFrom_94 : decode cX0_copyFrom 94 = .ok (.iconst 0, 1) := by decide +kernel
theorem dX0_copyFrom_95 : decode cX0_copyFrom 95 = .ok (.aload_n 0, 1) := by decide +kernel
theorem dX0_copyFrom_96 : decode cX0_copyFrom 96 = .ok (.getfield 34, 3) := by decide +kernel
theorem dX0_copyFrom_99 : decode cX0_copyFrom 99 = .ok (.iconst 0, 1) := by decide +kernel
theorem dX0_copyFrom_100 : decode cX0_copyFrom 100 = .ok (.bipush 6, 2) := by decide +kernel
theorem dX0_copyFrom_102 : decode cX0_copyFrom 102 = .ok (.invokestatic 55, 3) := by decide +kernel
theorem dX0_copyFrom_105 : decode cX0_copyFrom 105 = .ok (.aload_n 1, 1) := by decide +kernel
theorem dX0_copyFrom_106 : decode cX0_copyFrom 106 = .ok (.getfield 37, 3) := by decide +kernel
theorem dX0_copyFrom_109 : decode cX0_copyFrom 109 = .ok (.iconst 0, 1) := by decide +kernel
theorem dX0_copyFrom_110 : decode cX0_copyFrom 110 = .ok (.aload_n 0, 1) := by decide +kernel
theorem dX0_copyFrom_111 : decode cX0_copyFrom 111 = .ok (.getfield 37, 3) := by decide +kernel
theorem dX0_copyFrom_114 : decode cX0_copyFrom 114 = .ok (.iconst 0, 1) := by decide +kernel
theorem dX0_copyFrom_115 : decode cX0_copyFrom 115 = .ok (.bipush 6, 2) := by decide +kernel
theorem dX0_copyFrom_117 : decode cX0_copyFrom 117 = .ok (.invokestatic 55, 3) := by decide +kernel
theorem dX0_copyFrom_120 : decode cX0_copyFrom 120 = .ok (.aload_n 1, 1) := by decide +kernel
theorem dX0_copyFrom_121 : decode cX0_copyFrom 121 = .ok (.getfield 40, 3) := by decide +kernel
theorem dX0_copyFrom_124 : decode cX0_copyFrom 124 = .ok (.iconst 0, 1) := by decide +kernel
theorem dX0_copyFrom_125 : decode cX0_copyFrom 125 = .ok (.aload_n 0, 1) := by decide +kernel
theorem dX0_copyFrom_126 : decode cX0_copyFrom 126 = .ok (.getfield 40, 3) := by decide +kernel
theorem dX0_copyFrom_129 : decode cX0_copyFrom 129 = .ok (.iconst 0, 1) := by decide +kernel
theorem dX0_copyFrom_130 : decode cX0_copyFrom 130 = .ok (.bipush 6, 2) := by decide +kernel
theorem dX0_copyFrom_132 : decode cX0_copyFrom 132 = .ok (.invokestatic 55, 3) := by decide +kernel
theorem dX0_copyFrom_135 : decode cX0_copyFrom 135 = .ok (.aload_n 1, 1) := by decide +kernel
theorem dX0_copyFrom_136 : decode cX0_copyFrom 136 = .ok (.getfield 43, 3) := by decide +kernel
theorem dX0_copyFrom_139 : decode cX0_copyFrom 139 = .ok (.iconst 0, 1) := by decide +kernel
theorem dX0_copyFrom_140 : decode cX0_copyFrom 140 = .ok (.aload_n 0, 1) := by decide +kernel
theorem dX0_copyFrom_141 : decode cX0_copyFrom 141 = .ok (.getfield 43, 3) := by decide +kernel
theorem dX0_copyFrom_144 : decode cX0_copyFrom 144 = .ok (.iconst 0, 1) := by decide +kernel
theorem dX0_copyFrom_145 : decode cX0_copyFrom 145 = .ok (.bipush 6, 2) := by decide +kernel
theorem dX0_copyFrom_147 : decode cX0_copyFrom 147 = .ok (.invokestatic 55, 3) := by decide +kernel
theorem dX0_copyFrom_150 : decode cX0_copyFrom 150 = .ok (.aload_n 1, 1) := by decide +kernel
theorem dX0_copyFrom_151 : decode cX0_copyFrom 151 = .ok (.getfield 46, 3) := by decide +kernel
theorem dX0_copyFrom_154 : decode cX0_copyFrom 154 = .ok (.iconst 0, 1) := by decide +kernel
theorem dX0_copyFrom_155 : decode cX0_copyFrom 155 = .ok (.aload_n 0, 1) := by decide +kernel
theorem dX0_copyFrom_156 : decode cX0_copyFrom 156 = .ok (.getfield 46, 3) := by decide +kernel
theorem dX0_copyFrom_159 : decode cX0_copyFrom 159 = .ok (.iconst 0, 1) := by decide +kernel
theorem dX0_copyFrom_160 : decode cX0_copyFrom 160 = .ok (.bipush 6, 2) := by decide +kernel
theorem dX0_copyFrom_162 : decode cX0_copyFrom 162 = .ok (.invokestatic 55, 3) := by decide +kernel
theorem dX0_copyFrom_165 : decode cX0_copyFrom 165 = .ok (.return_, 1) := by decide +kernel
set_option maxRecDepth 20000 in
theorem ggX0_takeNumbers_J7_fill_53178 : GoodIn wsX0_takeNumbers wsJ7_fill_53178 := (by refine gI_c (gw 20 rfl rfl) ?_; exact gI_n)
set_option maxRecDepth 20000 in
theorem gX0_takeNumbers_J7_fill_53178 : GoodIn wsX0_takeNumbers (va_wsS RX0 49 yJ7_fill_53178 wsJ7_fill_53178) := goodIn_app (goodIn_of _ (by decide +kernel)) ggX0_takeNumbers_J7_fill_53178
theorem dX0_takeNumbers_0 : decode cX0_takeNumbers 0 = .ok (.aload_n 0, 1) := by decide +kernel
theorem dX0_takeNumbers_1 : decode cX0_takeNumbers 1 = .ok (.aload_n 1, 1) := by decide +kernel
theorem dX0_takeNumbers_2 : decode cX0_takeNumbers 2 = .ok (.iconst 0, 1) := by decide +kernel
theorem dX0_takeNumbers_3 : decode cX0_takeNumbers 3 = .ok (.iaload, 1) := by decide +kernel
theorem dX0_takeNumbers_4 : decode cX0_takeNumbers 4 = .ok (.putfield 9, 3) := by decide +kernel
theorem dX0_takeNumbers_7 : decode cX0_takeNumbers 7 = .ok (.aload_n 1, 1) := by decide +kernel
theorem dX0_takeNumbers_8 : decode cX0_takeNumbers 8 = .ok (.iconst 1, 1) := by decide +kernel
theorem dX0_takeNumbers_9 : decode cX0_takeNumbers 9 = .ok (.aload_n 0, 1) := by decide +kernel
theorem dX0_takeNumbers_10 : decode cX0_takeNumbers 10 = .ok (.getfield 15, 3) := by decide +kernel
theorem dX0_takeNumbers_13 : decode cX0_takeNumbers 13 = .ok (.iconst 0, 1) := by decide +kernel
theorem dX0_takeNumbers_14 : decode cX0_takeNumbers 14 = .ok (.iconst 5, 1) := by decide +kernel
theorem dX0_takeNumbers_15 : decode cX0_takeNumbers 15 = .ok (.invokestatic 55, 3) := by decide +kernel
theorem dX0_takeNumbers_18 : decode cX0_takeNumbers 18 = .ok (.aload_n 0, 1) := by decide +kernel
theorem dX0_takeNumbers_19 : decode cX0_takeNumbers 19 = .ok (.iconst 0, 1) := by decide +kernel
theorem dX0_takeNumbers_20 : decode cX0_takeNumbers 20 = .ok (.putfield 19, 3) := by decide +kernel
theorem dX0_takeNumbers_23 : decode cX0_takeNumbers 23 = .ok (.aload_n 0, 1) := by decide +kernel
theorem dX0_takeNumbers_24 : decode cX0_takeNumbers 24 = .ok (.getfield 22, 3) := by decide +kernel
theorem dX0_takeNumbers_27 : decode cX0_takeNumbers 27 = .ok (.iconst 0, 1) := by decide +kernel
theorem dX0_takeNumbers_28 : decode cX0_takeNumbers 28 = .ok (.invokestatic 49, 3) := by decide +kernel
theorem dX0_takeNumbers_31 : decode cX0_takeNumbers 31 = .ok (.aload_n 0, 1) := by decide +kernel
theorem dX0_takeNumbers_32 : decode cX0_takeNumbers 32 = .ok (.getfield 43, 3) := by decide +kernel
theorem dX0_takeNumbers_35 : decode cX0_takeNumbers 35 = .ok (.iconst 0, 1) := by decide +kernel
theorem dX0_takeNumbers_36 : decode cX0_takeNumbers 36 = .ok (.invokestatic 49, 3) := by decide +kernel
theorem dX0_takeNumbers_39 : decode cX0_takeNumbers 39 = .ok (.aload_n 0, 1) := by decide +kernel
theorem dX0_takeNumbers_40 : decode cX0_takeNumbers 40 = .ok (.getfield 46, 3) := by decide +kernel
theorem dX0_takeNumbers_43 : decode cX0_takeNumbers 43 = .ok (.iconst 0, 1) := by decide +kernel
theorem dX0_takeNumbers_44 : decode cX0_takeNumbers 44 = .ok (.invokestatic 49, 3) := by decide +kernel
theorem dX0_takeNumbers_47 : decode cX0_takeNumbers 47 = .ok (.iconst 0, 1) := by decide +kernel
theorem dX0_takeNumbers_48 : decode cX0_takeNumbers 48 = .ok (.istore_n 2, 1) := by decide +kernel
theorem dX0_takeNumbers_49 : decode cX0_takeNumbers 49 = .ok (.iload_n 2, 1) := by decide +kernel
theorem dX0_takeNumbers_50 : decode cX0_takeNumbers 50 = .ok (.aload_n 0, 1) := by decide +kernel
theorem dX0_takeNumbers_51 : decode cX0_takeNumbers 51 = .ok (.getfield 9, 3) := by decide +kernel
theorem dX0_takeNumbers_54 : decode cX0_takeNumbers 54 = .ok (.if_icmp .ge 87, 3) := by decide +kernel
theorem dX0_takeNumbers_57 : decode cX0_takeNumbers 57 = .ok (.iload_n 2, 1) := by decide +kernel
theorem dX0_takeNumbers_58 : decode cX0_takeNumbers 58 = .ok (.bipush 6, 2) := by decide +kernel
theorem dX0_takeNumbers_60 : decode cX0_takeNumbers 60 = .ok (.if_icmp .ge 81, 3) := by decide +kernel
theorem dX0_takeNumbers_63 : decode cX0_takeNumbers 63 = .ok (.bipush 6, 2) := by decide +kernel
theorem dX0_takeNumbers_65 : decode cX0_takeNumbers 65 = .ok (.bipush 6, 2) := by decide +kernel
theorem dX0_takeNumbers_67 : decode cX0_takeNumbers 67 = .ok (.iload_n 2, 1) := by decide +kernel
theorem dX0_takeNumbers_68 : decode cX0_takeNumbers 68 = .ok (.imul, 1) := by decide +kernel
theorem dX0_takeNumbers_69 : decode cX0_takeNumbers 69 = .ok (.iadd, 1) := by decide +kernel
theorem dX0_takeNumbers_70 : decode cX0_takeNumbers 70 = .ok (.istore_n 3, 1) := by decide +kernel
theorem dX0_takeNumbers_71 : decode cX0_takeNumbers 71 = .ok (.aload_n 0, 1) := by decide +kernel
theorem dX0_takeNumbers_72 : decode cX0_takeNumbers 72 = .ok (.getfield 25, 3) := by decide +kernel
theorem dX0_takeNumbers_75 : decode cX0_takeNumbers 75 = .ok (.iload_n 2, 1) := by decide +kernel
theorem dX0_takeNumbers_76 : decode cX0_takeNumbers 76 = .ok (.aload_n 1, 1) := by decide +kernel
theorem dX0_takeNumbers_77 : decode cX0_takeNumbers 77 = .ok (.iload_n 3, 1) := by decide +kernel
theorem dX0_takeNumbers_78 : decode cX0_takeNumbers 78 = .ok (.iaload, 1) := by decide +kernel
theorem dX0_takeNumbers_79 : decode cX0_takeNumbers 79 = .ok (.iastore, 1) := by decide +kernel
theorem dX0_takeNumbers_80 : decode cX0_takeNumbers 80 = .ok (.aload_n 0, 1) := by decide +kernel
theorem dX0_takeNumbers_81 : decode cX0_takeNumbers 81 = .ok (.getfield 28, 3) := by decide +kernel
theorem dX0_takeNumbers_84 : decode cX0_takeNumbers 84 = .ok (.iload_n 2, 1) := by decide +kernel
theorem dX0_takeNumbers_85 : decode cX0_takeNumbers 85 = .ok (.aload_n 1, 1) := by decide +kernel
theorem dX0_takeNumbers_86 : decode cX0_takeNumbers 86 = .ok (.iload_n 3, 1) := by decide +kernel
theorem dX0_takeNumbers_87 : decode cX0_takeNumbers 87 = .ok (.iconst 1, 1) := by decide +kernel
theorem dX0_takeNumbers_88 : decode cX0_takeNumbers 88 = .ok (.iadd, 1) := by decide +kernel
theorem dX0_takeNumbers_89 : decode cX0_takeNumbers 89 = .ok (.iaload, 1) := by decide +kernel
theorem dX0_takeNumbers_90 : decode cX0_takeNumbers 90 = .ok (.iastore, 1) := by decide +kernel
theorem dX0_takeNumbers_91 : decode cX0_takeNumbers 91 = .ok (.aload_n 0, 1) := by decide +kernel
theorem dX0_takeNumbers_92 : decode cX0_takeNumbers 92 = .ok (.getfield 31, 3) := by decide +kernel
theorem dX0_takeNumbers_95 : decode cX0_takeNumbers 95 = .ok (.iload_n 2, 1) := by decide +kernel
theorem dX0_takeNumbers_96 : decode cX0_takeNumbers 96 = .ok (.aload_n 1, 1) := by decide +kernel
theorem dX0_takeNumbers_97 : decode cX0_takeNumbers 97 = .ok (.iload_n 3, 1) := by decide +kernel
theorem dX0_takeNumbers_98 : decode cX0_takeNumbers 98 = .ok (.iconst 2, 1) := by decide +kernel
theorem dX0_takeNumbers_99 : decode cX0_takeNumbers 99 = .ok (.iadd, 1) := by decide +kernel
theorem dX0_takeNumbers_100 : decode cX0_takeNumbers 100 = .ok (.iaload, 1) := by decide +kernel
theorem dX0_takeNumbers_101 : decode cX0_takeNumbers 101 = .ok (.iastore, 1) := by decide +kernel
theorem dX0_takeNumbers_102 : decode cX0_takeNumbers 102 = .ok (.aload_n 0, 1) := by decide +kernel
theorem dX0_takeNumbers_103 : decode cX0_takeNumbers 103 = .ok (.getfield 34, 3) := by decide +kernel
theorem dX0_takeNumbers_106 : decode cX0_takeNumbers 106 = .ok (.iload_n 2, 1) := by decide +kernel
theorem dX0_takeNumbers_107 : decode cX0_takeNumbers 107 = .ok (.aload_n 1, 1) := by decide +kernel
theorem dX0_takeNumbers_108 : decode cX0_takeNumbers 108 = .ok (.iload_n 3, 1) := by decide +kernel
theorem dX0_takeNumbers_109 : decode cX0_takeNumbers 109 = .ok (.iconst 3, 1) := by decide +kernel
theorem dX0_takeNumbers_110 : decode cX0_takeNumbers 110 = .ok (.iadd, 1) := by decide +kernel
theorem dX0_takeNumbers_111 : decode cX0_takeNumbers 111 = .ok (.iaload, 1) := by decide +kernel
theorem dX0_takeNumbers_112 : decode cX0_takeNumbers 112 = .ok (.iastore, 1) := by decide +kernel
theorem dX0_takeNumbers_113 : decode cX0_takeNumbers 113 = .ok (.aload_n 0, 1) := by decide +kernel
theorem dX0_takeNumbers_114 : decode cX0_takeNumbers 114 = .ok (.getfield 37, 3) := by decide +kernel
theorem dX0_takeNumbers_117 : decode cX0_takeNumbers 117 = .ok (.iload_n 2, 1) := by decide +kernel
theorem dX0_takeNumbers_118 : decode cX0_takeNumbers 118 = .ok (.aload_n 1, 1) := by decide +kernel
theorem dX0_takeNumbers_119 : decode cX0_takeNumbers 119 = .ok (.iload_n 3, 1) := by decide +kernel
theorem dX0_takeNumbers_120 : decode cX0_takeNumbers 120 = .ok (.iconst 4, 1) := by decide +kernel
theorem dX0_takeNumbers_121 : decode cX0_takeNumbers 121 = .ok (.iadd, 1) := by decide +kernel
theorem dX0_takeNumbers_122 : decode cX0_takeNumbers 122 = .ok (.iaload, 1) := by decide +kernel
theorem dX0_takeNumbers_123 : decode cX0_takeNumbers 123 = .ok (.iastore, 1) := by decide +kernel
theorem dX0_takeNumbers_124 : decode cX0_takeNumbers 124 = .ok (.aload_n 0, 1) := by decide +kernel
theorem dX0_takeNumbers_125 : decode cX0_takeNumbers 125 = .ok (.getfield 40, 3) := by decide +kernel
theorem dX0_takeNumbers_128 : decode cX0_takeNumbers 128 = .ok (.iload_n 2, 1) := by decide +kernel
theorem dX0_takeNumbers_129 : decode cX0_takeNumbers 129 = .ok (.aload_n 1, 1) := by decide +kernel
theorem dX0_takeNumbers_130 : decode cX0_takeNumbers 130 = .ok (.iload_n 3, 1) := by decide +kernel
theorem dX0_takeNumbers_131 : decode cX0_takeNumbers 131 = .ok (.iconst 5, 1) := by decide +kernel
theorem dX0_takeNumbers_132 : decode cX0_takeNumbers 132 = .ok (.iadd, 1) := by decide +kernel
theorem dX0_takeNumbers_133 : decode cX0_takeNumbers 133 = .ok (.iaload, 1) := by decide +kernel
theorem dX0_takeNumbers_134 : decode cX0_takeNumbers 134 = .ok (.iastore, 1) := by decide +kernel
theorem dX0_takeNumbers_135 : decode cX0_takeNumbers 135 = .ok (.iinc 2 1, 3) := by decide +kernel
theorem dX0_takeNumbers_138 : decode cX0_takeNumbers 138 = .ok (.goto (-89), 3) := by decide +kernel
theorem dX0_takeNumbers_141 : decode cX0_takeNumbers 141 = .ok (.return_, 1) := by decide +kernel
set_option maxRecDepth 20000 in
theorem ggX0_numberOf_X0_thickness : GoodIn wsX0_numberOf wsX0_thickness := (by refine gI_c (gw 13 rfl rfl) ?_; refine gI_c (gw 2 rfl rfl) ?_; refine gI_c (gw 3 rfl rfl) ?_; refine gI_c (gw 18 rfl rfl) ?_; refine gI_c (gw 19 rfl rfl) ?_; refine gI_c (gw 20 rfl rfl) ?_; refine gI_c (gw 21 rfl rfl) ?_; refine gI_c (gw 22 rfl rfl) ?_; refine gI_c (gw 23 rfl rfl) ?_; refine gI_c (gw 24 rfl rfl) ?_; refine gI_c (gw 25 rfl rfl) ?_; refine gI_c (gw 26 rfl rfl) ?_; refine gI_c (gw 27 rfl rfl) ?_; refine gI_c (gw 28 rfl rfl) ?_; refine gI_c (gw 29 rfl rfl) ?_; exact gI_n)
set_option maxRecDepth 20000 in
theorem gX0_numberOf_X0_thickness : GoodIn wsX0_numberOf (wsV RX0 61 RX0 yX0_thickness wsX0_thickness) := goodIn_app (goodIn_of _ (by decide +kernel)) ggX0_numberOf_X0_thickness
set_option maxRecDepth 20000 in
theorem ggX0_numberOf_X0_power : GoodIn wsX0_numberOf wsX0_power := (by refine gI_c (gw 17 rfl rfl) ?_; refine gI_c (gw 6 rfl rfl) ?_; refine gI_c (gw 1 rfl rfl) ?_; refine gI_c (gw 18 rfl rfl) ?_; refine gI_c (gw 19 rfl rfl) ?_; refine gI_c (gw 20 rfl rfl) ?_; refine gI_c (gw 21 rfl rfl) ?_; refine gI_c (gw 22 rfl rfl) ?_; refine gI_c (gw 23 rfl rfl) ?_; refine gI_c (gw 24 rfl rfl) ?_; refine gI_c (gw 25 rfl rfl) ?_; refine gI_c (gw 26 rfl rfl) ?_; refine gI_c (gw 27 rfl rfl) ?_; refine gI_c (gw 28 rfl rfl) ?_; refine gI_c (gw 29 rfl rfl) ?_; exact gI_n)
set_option maxRecDepth 20000 in
theorem gX0_numberOf_X0_power : GoodIn wsX0_numberOf (wsV RX0 65 RX0 yX0_power wsX0_power) := goodIn_app (goodIn_of _ (by decide +kernel)) ggX0_numberOf_X0_power
theorem dX0_numberOf_0 : decode cX0_numberOf 0 = .ok (.iload_n 2, 1) := by decide +kernel
theorem dX0_numberOf_1 : decode cX0_numberOf 1 = .ok (.tableswitch 113 0 8 #[51, 58, 65, 72, 79, 86, 93, 100, 107], 51) := by decide +kernel
theorem dX0_numberOf_52 : decode cX0_numberOf 52 = .ok (.aload_n 0, 1) := by decide +kernel
theorem dX0_numberOf_53 : decode cX0_numberOf 53 = .ok (.getfield 25, 3) := by decide +kernel
theorem dX0_numberOf_56 : decode cX0_numberOf 56 = .ok (.iload_n 1, 1) := by decide +kernel
theorem dX0_numberOf_57 : decode cX0_numberOf 57 = .ok (.iaload, 1) := by decide +kernel
theorem dX0_numberOf_58 : decode cX0_numberOf 58 = .ok (.ireturn, 1) := by decide +kernel
theorem dX0_numberOf_59 : decode cX0_numberOf 59 = .ok (.aload_n 0, 1) := by decide +kernel
theorem dX0_numberOf_60 : decode cX0_numberOf 60 = .ok (.getfield 28, 3) := by decide +kernel
theorem dX0_numberOf_63 : decode cX0_numberOf 63 = .ok (.iload_n 1, 1) := by decide +kernel
theorem dX0_numberOf_64 : decode cX0_numberOf 64 = .ok (.iaload, 1) := by decide +kernel
theorem dX0_numberOf_65 : decode cX0_numberOf 65 = .ok (.ireturn, 1) := by decide +kernel
theorem dX0_numberOf_66 : decode cX0_numberOf 66 = .ok (.aload_n 0, 1) := by decide +kernel
theorem dX0_numberOf_67 : decode cX0_numberOf 67 = .ok (.getfield 31, 3) := by decide +kernel
theorem dX0_numberOf_70 : decode cX0_numberOf 70 = .ok (.iload_n 1, 1) := by decide +kernel
theorem dX0_numberOf_71 : decode cX0_numberOf 71 = .ok (.iaload, 1) := by decide +kernel
theorem dX0_numberOf_72 : decode cX0_numberOf 72 = .ok (.ireturn, 1) := by decide +kernel
theorem dX0_numberOf_73 : decode cX0_numberOf 73 = .ok (.aload_n 0, 1) := by decide +kernel
theorem dX0_numberOf_74 : decode cX0_numberOf 74 = .ok (.getfield 34, 3) := by decide +kernel
theorem dX0_numberOf_77 : decode cX0_numberOf 77 = .ok (.iload_n 1, 1) := by decide +kernel
theorem dX0_numberOf_78 : decode cX0_numberOf 78 = .ok (.iaload, 1) := by decide +kernel
theorem dX0_numberOf_79 : decode cX0_numberOf 79 = .ok (.ireturn, 1) := by decide +kernel
theorem dX0_numberOf_80 : decode cX0_numberOf 80 = .ok (.aload_n 0, 1) := by decide +kernel
theorem dX0_numberOf_81 : decode cX0_numberOf 81 = .ok (.getfield 37, 3) := by decide +kernel
theorem dX0_numberOf_84 : decode cX0_numberOf 84 = .ok (.iload_n 1, 1) := by decide +kernel
theorem dX0_numberOf_85 : decode cX0_numberOf 85 = .ok (.iaload, 1) := by decide +kernel
theorem dX0_numberOf_86 : decode cX0_numberOf 86 = .ok (.ireturn, 1) := by decide +kernel
theorem dX0_numberOf_87 : decode cX0_numberOf 87 = .ok (.aload_n 0, 1) := by decide +kernel
theorem dX0_numberOf_88 : decode cX0_numberOf 88 = .ok (.getfield 40, 3) := by decide +kernel
theorem dX0_numberOf_91 : decode cX0_numberOf 91 = .ok (.iload_n 1, 1) := by decide +kernel
theorem dX0_numberOf_92 : decode cX0_numberOf 92 = .ok (.iaload, 1) := by decide +kernel
theorem dX0_numberOf_93 : decode cX0_numberOf 93 = .ok (.ireturn, 1) := by decide +kernel
theorem dX0_numberOf_94 : decode cX0_numberOf 94 = .ok (.aload_n 0, 1) := by decide +kernel
theorem dX0_numberOf_95 : decode cX0_numberOf 95 = .ok (.getfield 43, 3) := by decide +kernel
theorem dX0_numberOf_98 : decode cX0_numberOf 98 = .ok (.iload_n 1, 1) := by decide +kernel
theorem dX0_numberOf_99 : decode cX0_numberOf 99 = .ok (.iaload, 1) := by decide +kernel
theorem dX0_numberOf_100 : decode cX0_numberOf 100 = .ok (.ireturn, 1) := by decide +kernel
theorem dX0_numberOf_101 : decode cX0_numberOf 101 = .ok (.aload_n 0, 1) := by decide +kernel
theorem dX0_numberOf_102 : decode cX0_numberOf 102 = .ok (.getfield 46, 3) := by decide +kernel
theorem dX0_numberOf_105 : decode cX0_numberOf 105 = .ok (.iload_n 1, 1) := by decide +kernel
theorem dX0_numberOf_106 : decode cX0_numberOf 106 = .ok (.iaload, 1) := by decide +kernel
theorem dX0_numberOf_107 : decode cX0_numberOf 107 = .ok (.ireturn, 1) := by decide +kernel
theorem dX0_numberOf_108 : decode cX0_numberOf 108 = .ok (.aload_n 0, 1) := by decide +kernel
theorem dX0_numberOf_109 : decode cX0_numberOf 109 = .ok (.iload_n 1, 1) := by decide +kernel
theorem dX0_numberOf_110 : decode cX0_numberOf 110 = .ok (.invokevirtual 61, 3) := by decide +kernel
theorem dX0_numberOf_113 : decode cX0_numberOf 113 = .ok (.ireturn, 1) := by decide +kernel
theorem dX0_numberOf_114 : decode cX0_numberOf 114 = .ok (.aload_n 0, 1) := by decide +kernel
theorem dX0_numberOf_115 : decode cX0_numberOf 115 = .ok (.iload_n 1, 1) := by decide +kernel
theorem dX0_numberOf_116 : decode cX0_numberOf 116 = .ok (.invokevirtual 65, 3) := by decide +kernel
theorem dX0_numberOf_119 : decode cX0_numberOf 119 = .ok (.ireturn, 1) := by decide +kernel
theorem dX0_amount_0 : decode cX0_amount 0 = .ok (.aload_n 0, 1) := by decide +kernel
theorem dX0_amount_1 : decode cX0_amount 1 = .ok (.getfield 28, 3) := by decide +kernel
theorem dX0_amount_4 : decode cX0_amount 4 = .ok (.iload_n 1, 1) := by decide +kernel
theorem dX0_amount_5 : decode cX0_amount 5 = .ok (.iaload, 1) := by decide +kernel
theorem dX0_amount_6 : decode cX0_amount 6 = .ok (.aload_n 0, 1) := by decide +kernel
theorem dX0_amount_7 : decode cX0_amount 7 = .ok (.getfield 31, 3) := by decide +kernel
theorem dX0_amount_10 : decode cX0_amount 10 = .ok (.iload_n 1, 1) := by decide +kernel
theorem dX0_amount_11 : decode cX0_amount 11 = .ok (.iaload, 1) := by decide +kernel
theorem dX0_amount_12 : decode cX0_amount 12 = .ok (.iadd, 1) := by decide +kernel
theorem dX0_amount_13 : decode cX0_amount 13 = .ok (.ireturn, 1) := by decide +kernel
theorem dX0_thickness_0 : decode cX0_thickness 0 = .ok (.aload_n 0, 1) := by decide +kernel
theorem dX0_thickness_1 : decode cX0_thickness 1 = .ok (.getfield 28, 3) := by decide +kernel
theorem dX0_thickness_4 : decode cX0_thickness 4 = .ok (.iload_n 1, 1) := by decide +kernel
theorem dX0_thickness_5 : decode cX0_thickness 5 = .ok (.iaload, 1) := by decide +kernel
theorem dX0_thickness_6 : decode cX0_thickness 6 = .ok (.aload_n 0, 1) := by decide +kernel
theorem dX0_thickness_7 : decode cX0_thickness 7 = .ok (.getfield 31, 3) := by decide +kernel
theorem dX0_thickness_10 : decode cX0_thickness 10 = .ok (.iload_n 1, 1) := by decide +kernel
theorem dX0_thickness_11 : decode cX0_thickness 11 = .ok (.iaload, 1) := by decide +kernel
theorem dX0_thickness_12 : decode cX0_thickness 12 = .ok (.iadd, 1) := by decide +kernel
theorem dX0_thickness_13 : decode cX0_thickness 13 = .ok (.istore_n 2, 1) := by decide +kernel
theorem dX0_thickness_14 : decode cX0_thickness 14 = .ok (.iload_n 2, 1) := by decide +kernel
theorem dX0_thickness_15 : decode cX0_thickness 15 = .ok (.ifCond .le 17, 3) := by decide +kernel
theorem dX0_thickness_18 : decode cX0_thickness 18 = .ok (.bipush 100, 2) := by decide +kernel
theorem dX0_thickness_20 : decode cX0_thickness 20 = .ok (.aload_n 0, 1) := by decide +kernel
theorem dX0_thickness_21 : decode cX0_thickness 21 = .ok (.getfield 31, 3) := by decide +kernel
theorem dX0_thickness_24 : decode cX0_thickness 24 = .ok (.iload_n 1, 1) := by decide +kernel
theorem dX0_thickness_25 : decode cX0_thickness 25 = .ok (.iaload, 1) := by decide +kernel
theorem dX0_thickness_26 : decode cX0_thickness 26 = .ok (.imul, 1) := by decide +kernel
theorem dX0_thickness_27 : decode cX0_thickness 27 = .ok (.iload_n 2, 1) := by decide +kernel
theorem dX0_thickness_28 : decode cX0_thickness 28 = .ok (.idiv, 1) := by decide +kernel
theorem dX0_thickness_29 : decode cX0_thickness 29 = .ok (.goto 4, 3) := by decide +kernel
theorem dX0_thickness_32 : decode cX0_thickness 32 = .ok (.iconst 0, 1) := by decide +kernel
theorem dX0_thickness_33 : decode cX0_thickness 33 = .ok (.ireturn, 1) := by decide +kernel
theorem dX0_power_0 : decode cX0_power 0 = .ok (.bipush 10, 2) := by decide +kernel
theorem dX0_power_2 : decode cX0_power 2 = .ok (.aload_n 0, 1) := by decide +kernel
theorem dX0_power_3 : decode cX0_power 3 = .ok (.getfield 40, 3) := by decide +kernel
theorem dX0_power_6 : decode cX0_power 6 = .ok (.iload_n 1, 1) := by decide +kernel
theorem dX0_power_7 : decode cX0_power 7 = .ok (.iaload, 1) := by decide +kernel
theorem dX0_power_8 : decode cX0_power 8 = .ok (.iadd, 1) := by decide +kernel
theorem dX0_power_9 : decode cX0_power 9 = .ok (.istore_n 2, 1) := by decide +kernel
theorem dX0_power_10 : decode cX0_power 10 = .ok (.iload_n 2, 1) := by decide +kernel
theorem dX0_power_11 : decode cX0_power 11 = .ok (.ifCond .le 17, 3) := by decide +kernel
theorem dX0_power_14 : decode cX0_power 14 = .ok (.bipush 100, 2) := by decide +kernel
theorem dX0_power_16 : decode cX0_power 16 = .ok (.aload_n 0, 1) := by decide +kernel
theorem dX0_power_17 : decode cX0_power 17 = .ok (.getfield 25, 3) := by decide +kernel
theorem dX0_power_20 : decode cX0_power 20 = .ok (.iload_n 1, 1) := by decide +kernel
theorem dX0_power_21 : decode cX0_power 21 = .ok (.iaload, 1) := by decide +kernel
theorem dX0_power_22 : decode cX0_power 22 = .ok (.imul, 1) := by decide +kernel
theorem dX0_power_23 : decode cX0_power 23 = .ok (.iload_n 2, 1) := by decide +kernel
theorem dX0_power_24 : decode cX0_power 24 = .ok (.idiv, 1) := by decide +kernel
theorem dX0_power_25 : decode cX0_power 25 = .ok (.goto 4, 3) := by decide +kernel
theorem dX0_power_28 : decode cX0_power 28 = .ok (.iconst 0, 1) := by decide +kernel
theorem dX0_power_29 : decode cX0_power 29 = .ok (.ireturn, 1) := by decide +kernel
theorem dX0_allWater_0 : decode cX0_allWater 0 = .ok (.iconst 0, 1) := by decide +kernel
theorem dX0_allWater_1 : decode cX0_allWater 1 = .ok (.istore_n 1, 1) := by decide +kernel
theorem dX0_allWater_2 : decode cX0_allWater 2 = .ok (.iconst 0, 1) := by decide +kernel
theorem dX0_allWater_3 : decode cX0_allWater 3 = .ok (.istore_n 2, 1) := by decide +kernel
theorem dX0_allWater_4 : decode cX0_allWater 4 = .ok (.iload_n 2, 1) := by decide +kernel
theorem dX0_allWater_5 : decode cX0_allWater 5 = .ok (.aload_n 0, 1) := by decide +kernel
theorem dX0_allWater_6 : decode cX0_allWater 6 = .ok (.getfield 9, 3) := by decide +kernel
theorem dX0_allWater_9 : decode cX0_allWater 9 = .ok (.if_icmp .ge 18, 3) := by decide +kernel
theorem dX0_allWater_12 : decode cX0_allWater 12 = .ok (.iload_n 1, 1) := by decide +kernel
theorem dX0_allWater_13 : decode cX0_allWater 13 = .ok (.aload_n 0, 1) := by decide +kernel
theorem dX0_allWater_14 : decode cX0_allWater 14 = .ok (.getfield 28, 3) := by decide +kernel
theorem dX0_allWater_17 : decode cX0_allWater 17 = .ok (.iload_n 2, 1) := by decide +kernel
theorem dX0_allWater_18 : decode cX0_allWater 18 = .ok (.iaload, 1) := by decide +kernel
theorem dX0_allWater_19 : decode cX0_allWater 19 = .ok (.iadd, 1) := by decide +kernel
theorem dX0_allWater_20 : decode cX0_allWater 20 = .ok (.istore_n 1, 1) := by decide +kernel
theorem dX0_allWater_21 : decode cX0_allWater 21 = .ok (.iinc 2 1, 3) := by decide +kernel
theorem dX0_allWater_24 : decode cX0_allWater 24 = .ok (.goto (-20), 3) := by decide +kernel
theorem dX0_allWater_27 : decode cX0_allWater 27 = .ok (.iload_n 1, 1) := by decide +kernel
theorem dX0_allWater_28 : decode cX0_allWater 28 = .ok (.ireturn, 1) := by decide +kernel
theorem dX0_allSolids_0 : decode cX0_allSolids 0 = .ok (.iconst 0, 1) := by decide +kernel
theorem dX0_allSolids_1 : decode cX0_allSolids 1 = .ok (.istore_n 1, 1) := by decide +kernel
theorem dX0_allSolids_2 : decode cX0_allSolids 2 = .ok (.iconst 0, 1) := by decide +kernel
theorem dX0_allSolids_3 : decode cX0_allSolids 3 = .ok (.istore_n 2, 1) := by decide +kernel
theorem dX0_allSolids_4 : decode cX0_allSolids 4 = .ok (.iload_n 2, 1) := by decide +kernel
theorem dX0_allSolids_5 : decode cX0_allSolids 5 = .ok (.aload_n 0, 1) := by decide +kernel
theorem dX0_allSolids_6 : decode cX0_allSolids 6 = .ok (.getfield 9, 3) := by decide +kernel
theorem dX0_allSolids_9 : decode cX0_allSolids 9 = .ok (.if_icmp .ge 18, 3) := by decide +kernel
theorem dX0_allSolids_12 : decode cX0_allSolids 12 = .ok (.iload_n 1, 1) := by decide +kernel
theorem dX0_allSolids_13 : decode cX0_allSolids 13 = .ok (.aload_n 0, 1) := by decide +kernel
theorem dX0_allSolids_14 : decode cX0_allSolids 14 = .ok (.getfield 31, 3) := by decide +kernel
theorem dX0_allSolids_17 : decode cX0_allSolids 17 = .ok (.iload_n 2, 1) := by decide +kernel
theorem dX0_allSolids_18 : decode cX0_allSolids 18 = .ok (.iaload, 1) := by decide +kernel
theorem dX0_allSolids_19 : decode cX0_allSolids 19 = .ok (.iadd, 1) := by decide +kernel
theorem dX0_allSolids_20 : decode cX0_allSolids 20 = .ok (.istore_n 1, 1) := by decide +kernel
theorem dX0_allSolids_21 : decode cX0_allSolids 21 = .ok (.iinc 2 1, 3) := by decide +kernel
theorem dX0_allSolids_24 : decode cX0_allSolids 24 = .ok (.goto (-20), 3) := by decide +kernel
theorem dX0_allSolids_27 : decode cX0_allSolids 27 = .ok (.iload_n 1, 1) := by decide +kernel
theorem dX0_allSolids_28 : decode cX0_allSolids 28 = .ok (.ireturn, 1) := by decide +kernel
theorem dX0_washedEffects_0 : decode cX0_washedEffects 0 = .ok (.iconst 0, 1) := by decide +kernel
theorem dX0_washedEffects_1 : decode cX0_washedEffects 1 = .ok (.istore_n 1, 1) := by decide +kernel
theorem dX0_washedEffects_2 : decode cX0_washedEffects 2 = .ok (.iconst 0, 1) := by decide +kernel
theorem dX0_washedEffects_3 : decode cX0_washedEffects 3 = .ok (.istore_n 2, 1) := by decide +kernel
theorem dX0_washedEffects_4 : decode cX0_washedEffects 4 = .ok (.iload_n 2, 1) := by decide +kernel
theorem dX0_washedEffects_5 : decode cX0_washedEffects 5 = .ok (.aload_n 0, 1) := by decide +kernel
theorem dX0_washedEffects_6 : decode cX0_washedEffects 6 = .ok (.getfield 9, 3) := by decide +kernel
theorem dX0_washedEffects_9 : decode cX0_washedEffects 9 = .ok (.if_icmp .ge 21, 3) := by decide +kernel
theorem dX0_washedEffects_12 : decode cX0_washedEffects 12 = .ok (.aload_n 0, 1) := by decide +kernel
theorem dX0_washedEffects_13 : decode cX0_washedEffects 13 = .ok (.getfield 46, 3) := by decide +kernel
theorem dX0_washedEffects_16 : decode cX0_washedEffects 16 = .ok (.iload_n 2, 1) := by decide +kernel
theorem dX0_washedEffects_17 : decode cX0_washedEffects 17 = .ok (.iaload, 1) := by decide +kernel
theorem dX0_washedEffects_18 : decode cX0_washedEffects 18 = .ok (.ifCond .le 6, 3) := by decide +kernel
theorem dX0_washedEffects_21 : decode cX0_washedEffects 21 = .ok (.iinc 1 1, 3) := by decide +kernel
theorem dX0_washedEffects_24 : decode cX0_washedEffects 24 = .ok (.iinc 2 1, 3) := by decide +kernel
theorem dX0_washedEffects_27 : decode cX0_washedEffects 27 = .ok (.goto (-23), 3) := by decide +kernel
theorem dX0_washedEffects_30 : decode cX0_washedEffects 30 = .ok (.iload_n 1, 1) := by decide +kernel
theorem dX0_washedEffects_31 : decode cX0_washedEffects 31 = .ok (.ireturn, 1) := by decide +kernel
theorem dX0_effectBehind_0 : decode cX0_effectBehind 0 = .ok (.iload_n 1, 1) := by decide +kernel
theorem dX0_effectBehind_1 : decode cX0_effectBehind 1 = .ok (.iconst 1, 1) := by decide +kernel
theorem dX0_effectBehind_2 : decode cX0_effectBehind 2 = .ok (.iadd, 1) := by decide +kernel
theorem dX0_effectBehind_3 : decode cX0_effectBehind 3 = .ok (.istore_n 2, 1) := by decide +kernel
theorem dX0_effectBehind_4 : decode cX0_effectBehind 4 = .ok (.iload_n 2, 1) := by decide +kernel
theorem dX0_effectBehind_5 : decode cX0_effectBehind 5 = .ok (.aload_n 0, 1) := by decide +kernel
theorem dX0_effectBehind_6 : decode cX0_effectBehind 6 = .ok (.getfield 9, 3) := by decide +kernel
theorem dX0_effectBehind_9 : decode cX0_effectBehind 9 = .ok (.if_icmp .ge 20, 3) := by decide +kernel
theorem dX0_effectBehind_12 : decode cX0_effectBehind 12 = .ok (.aload_n 0, 1) := by decide +kernel
theorem dX0_effectBehind_13 : decode cX0_effectBehind 13 = .ok (.getfield 46, 3) := by decide +kernel
theorem dX0_effectBehind_16 : decode cX0_effectBehind 16 = .ok (.iload_n 2, 1) := by decide +kernel
theorem dX0_effectBehind_17 : decode cX0_effectBehind 17 = .ok (.iaload, 1) := by decide +kernel
theorem dX0_effectBehind_18 : decode cX0_effectBehind 18 = .ok (.ifCond .ne 5, 3) := by decide +kernel
theorem dX0_effectBehind_21 : decode cX0_effectBehind 21 = .ok (.iload_n 2, 1) := by decide +kernel
theorem dX0_effectBehind_22 : decode cX0_effectBehind 22 = .ok (.ireturn, 1) := by decide +kernel
theorem dX0_effectBehind_23 : decode cX0_effectBehind 23 = .ok (.iinc 2 1, 3) := by decide +kernel
theorem dX0_effectBehind_26 : decode cX0_effectBehind 26 = .ok (.goto (-22), 3) := by decide +kernel
theorem dX0_effectBehind_29 : decode cX0_effectBehind 29 = .ok (.bipush (-9), 2) := by decide +kernel
theorem dX0_effectBehind_31 : decode cX0_effectBehind 31 = .ok (.ireturn, 1) := by decide +kernel
theorem dX0_effectBefore_0 : decode cX0_effectBefore 0 = .ok (.iload_n 1, 1) := by decide +kernel
theorem dX0_effectBefore_1 : decode cX0_effectBefore 1 = .ok (.iconst 1, 1) := by decide +kernel
theorem dX0_effectBefore_2 : decode cX0_effectBefore 2 = .ok (.isub, 1) := by decide +kernel
theorem dX0_effectBefore_3 : decode cX0_effectBefore 3 = .ok (.istore_n 2, 1) := by decide +kernel
theorem dX0_effectBefore_4 : decode cX0_effectBefore 4 = .ok (.iload_n 2, 1) := by decide +kernel
theorem dX0_effectBefore_5 : decode cX0_effectBefore 5 = .ok (.ifCond .lt 20, 3) := by decide +kernel
theorem dX0_effectBefore_8 : decode cX0_effectBefore 8 = .ok (.aload_n 0, 1) := by decide +kernel
theorem dX0_effectBefore_9 : decode cX0_effectBefore 9 = .ok (.getfield 46, 3) := by decide +kernel
theorem dX0_effectBefore_12 : decode cX0_effectBefore 12 = .ok (.iload_n 2, 1) := by decide +kernel
theorem dX0_effectBefore_13 : decode cX0_effectBefore 13 = .ok (.iaload, 1) := by decide +kernel
theorem dX0_effectBefore_14 : decode cX0_effectBefore 14 = .ok (.ifCond .ne 5, 3) := by decide +kernel
theorem dX0_effectBefore_17 : decode cX0_effectBefore 17 = .ok (.iload_n 2, 1) := by decide +kernel
theorem dX0_effectBefore_18 : decode cX0_effectBefore 18 = .ok (.ireturn, 1) := by decide +kernel
theorem dX0_effectBefore_19 : decode cX0_effectBefore 19 = .ok (.iinc 2 (-1), 3) := by decide +kernel
theorem dX0_effectBefore_22 : decode cX0_effectBefore 22 = .ok (.goto (-18), 3) := by decide +kernel
theorem dX0_effectBefore_25 : decode cX0_effectBefore 25 = .ok (.bipush (-9), 2) := by decide +kernel
theorem dX0_effectBefore_27 : decode cX0_effectBefore 27 = .ok (.ireturn, 1) := by decide +kernel
set_option maxRecDepth 20000 in
theorem ggX0_pass_X0_beginWashInTurn : GoodIn wsX0_pass wsX0_beginWashInTurn := (by refine gI_c (gw 7 rfl rfl) ?_; refine gI_c (gw 8 rfl rfl) ?_; refine gI_c (gw 2 rfl rfl) ?_; refine gI_c (gw 9 rfl rfl) ?_; refine gI_c (gw 10 rfl rfl) ?_; refine gI_c (gw 11 rfl rfl) ?_; refine gI_c (gw 12 rfl rfl) ?_; refine gI_c (gw 13 rfl rfl) ?_; refine gI_c (gw 14 rfl rfl) ?_; refine gI_c (gw 6 rfl rfl) ?_; refine gI_c (gw 15 rfl rfl) ?_; refine gI_c (gw 65 rfl rfl) ?_; refine gI_c (gw 66 rfl rfl) ?_; refine gI_c (gw 67 rfl rfl) ?_; refine gI_c (gw 68 rfl rfl) ?_; refine gI_c (gw 69 rfl rfl) ?_; refine gI_c (gw 70 rfl rfl) ?_; refine gI_c (gw 71 rfl rfl) ?_; refine gI_c (gw 72 rfl rfl) ?_; refine gI_c (gw 73 rfl rfl) ?_; refine gI_c (gw 74 rfl rfl) ?_; refine gI_c (gw 75 rfl rfl) ?_; refine gI_c (gw 76 rfl rfl) ?_; exact gI_n)
set_option maxRecDepth 20000 in
theorem gX0_pass_X0_beginWashInTurn : GoodIn wsX0_pass (wsV RX0 68 RX0 yX0_beginWashInTurn wsX0_beginWashInTurn) := goodIn_app (goodIn_of _ (by decide +kernel)) ggX0_pass_X0_beginWashInTurn
set_option maxRecDepth 20000 in
theorem ggX0_pass_X0_boilAll : GoodIn wsX0_pass wsX0_boilAll := (by refine gI_c (gw 19 rfl rfl) ?_; refine gI_c (gw 8 rfl rfl) ?_; refine gI_c (gw 9 rfl rfl) ?_; refine gI_c (gw 11 rfl rfl) ?_; refine gI_c (gw 1 rfl rfl) ?_; refine gI_c (gw 20 rfl rfl) ?_; refine gI_c (gw 21 rfl rfl) ?_; refine gI_c (gw 22 rfl rfl) ?_; refine gI_c (gw 6 rfl rfl) ?_; refine gI_c (gw 23 rfl rfl) ?_; refine gI_c (gw 24 rfl rfl) ?_; refine gI_c (gw 25 rfl rfl) ?_; refine gI_c (gw 26 rfl rfl) ?_; refine gI_c (gw 27 rfl rfl) ?_; refine gI_c (gw 28 rfl rfl) ?_; refine gI_c (gw 29 rfl rfl) ?_; refine gI_c (gw 30 rfl rfl) ?_; refine gI_c (gw 10 rfl rfl) ?_; refine gI_c (gw 31 rfl rfl) ?_; refine gI_c (gw 32 rfl rfl) ?_; refine gI_c (gw 33 rfl rfl) ?_; refine gI_c (gw 34 rfl rfl) ?_; refine gI_c (gw 35 rfl rfl) ?_; refine gI_c (gw 36 rfl rfl) ?_; refine gI_c (gw 37 rfl rfl) ?_; refine gI_c (gw 38 rfl rfl) ?_; refine gI_c (gw 39 rfl rfl) ?_; refine gI_c (gw 40 rfl rfl) ?_; refine gI_c (gw 65 rfl rfl) ?_; refine gI_c (gw 66 rfl rfl) ?_; refine gI_c (gw 67 rfl rfl) ?_; refine gI_c (gw 68 rfl rfl) ?_; refine gI_c (gw 69 rfl rfl) ?_; refine gI_c (gw 70 rfl rfl) ?_; refine gI_c (gw 71 rfl rfl) ?_; refine gI_c (gw 72 rfl rfl) ?_; refine gI_c (gw 73 rfl rfl) ?_; refine gI_c (gw 74 rfl rfl) ?_; refine gI_c (gw 75 rfl rfl) ?_; refine gI_c (gw 76 rfl rfl) ?_; exact gI_n)
set_option maxRecDepth 20000 in
theorem gX0_pass_X0_boilAll : GoodIn wsX0_pass (wsV RX0 71 RX0 yX0_boilAll wsX0_boilAll) := goodIn_app (goodIn_of _ (by decide +kernel)) ggX0_pass_X0_boilAll
set_option maxRecDepth 20000 in
theorem ggX0_pass_X0_flowOn : GoodIn wsX0_pass wsX0_flowOn := (by refine gI_c (gw 44 rfl rfl) ?_; refine gI_c (gw 8 rfl rfl) ?_; refine gI_c (gw 1 rfl rfl) ?_; refine gI_c (gw 9 rfl rfl) ?_; refine gI_c (gw 11 rfl rfl) ?_; refine gI_c (gw 35 rfl rfl) ?_; refine gI_c (gw 28 rfl rfl) ?_; refine gI_c (gw 45 rfl rfl) ?_; refine gI_c (gw 46 rfl rfl) ?_; refine gI_c (gw 47 rfl rfl) ?_; refine gI_c (gw 6 rfl rfl) ?_; refine gI_c (gw 48 rfl rfl) ?_; refine gI_c (gw 49 rfl rfl) ?_; refine gI_c (gw 50 rfl rfl) ?_; refine gI_c (gw 51 rfl rfl) ?_; refine gI_c (gw 52 rfl rfl) ?_; refine gI_c (gw 53 rfl rfl) ?_; refine gI_c (gw 54 rfl rfl) ?_; refine gI_c (gw 55 rfl rfl) ?_; refine gI_c (gw 56 rfl rfl) ?_; refine gI_c (gw 57 rfl rfl) ?_; refine gI_c (gw 24 rfl rfl) ?_; refine gI_c (gw 25 rfl rfl) ?_; refine gI_c (gw 26 rfl rfl) ?_; refine gI_c (gw 27 rfl rfl) ?_; refine gI_c (gw 65 rfl rfl) ?_; refine gI_c (gw 66 rfl rfl) ?_; refine gI_c (gw 67 rfl rfl) ?_; refine gI_c (gw 68 rfl rfl) ?_; refine gI_c (gw 69 rfl rfl) ?_; refine gI_c (gw 70 rfl rfl) ?_; refine gI_c (gw 71 rfl rfl) ?_; refine gI_c (gw 72 rfl rfl) ?_; refine gI_c (gw 73 rfl rfl) ?_; refine gI_c (gw 74 rfl rfl) ?_; refine gI_c (gw 75 rfl rfl) ?_; refine gI_c (gw 76 rfl rfl) ?_; exact gI_n)
set_option maxRecDepth 20000 in
theorem gX0_pass_X0_flowOn : GoodIn wsX0_pass (wsV RX0 74 RX0 yX0_flowOn wsX0_flowOn) := goodIn_app (goodIn_of _ (by decide +kernel)) ggX0_pass_X0_flowOn
set_option maxRecDepth 20000 in
theorem ggX0_pass_X0_washOn : GoodIn wsX0_pass wsX0_washOn := (by refine gI_c (gw 61 rfl rfl) ?_; refine gI_c (gw 9 rfl rfl) ?_; refine gI_c (gw 11 rfl rfl) ?_; refine gI_c (gw 10 rfl rfl) ?_; refine gI_c (gw 62 rfl rfl) ?_; refine gI_c (gw 63 rfl rfl) ?_; refine gI_c (gw 26 rfl rfl) ?_; refine gI_c (gw 64 rfl rfl) ?_; refine gI_c (gw 65 rfl rfl) ?_; refine gI_c (gw 66 rfl rfl) ?_; refine gI_c (gw 67 rfl rfl) ?_; refine gI_c (gw 68 rfl rfl) ?_; refine gI_c (gw 69 rfl rfl) ?_; refine gI_c (gw 70 rfl rfl) ?_; refine gI_c (gw 71 rfl rfl) ?_; refine gI_c (gw 72 rfl rfl) ?_; refine gI_c (gw 73 rfl rfl) ?_; refine gI_c (gw 74 rfl rfl) ?_; refine gI_c (gw 75 rfl rfl) ?_; refine gI_c (gw 76 rfl rfl) ?_; exact gI_n)
set_option maxRecDepth 20000 in
theorem gX0_pass_X0_washOn : GoodIn wsX0_pass (wsV RX0 77 RX0 yX0_washOn wsX0_washOn) := goodIn_app (goodIn_of _ (by decide +kernel)) ggX0_pass_X0_washOn
theorem dX0_pass_0 : decode cX0_pass 0 = .ok (.aload_n 0, 1) := by decide +kernel
theorem dX0_pass_1 : decode cX0_pass 1 = .ok (.getfield 22, 3) := by decide +kernel
theorem dX0_pass_4 : decode cX0_pass 4 = .ok (.iconst 1, 1) := by decide +kernel
theorem dX0_pass_5 : decode cX0_pass 5 = .ok (.iaload, 1) := by decide +kernel
theorem dX0_pass_6 : decode cX0_pass 6 = .ok (.istore_n 2, 1) := by decide +kernel
theorem dX0_pass_7 : decode cX0_pass 7 = .ok (.iconst 0, 1) := by decide +kernel
theorem dX0_pass_8 : decode cX0_pass 8 = .ok (.istore_n 3, 1) := by decide +kernel
theorem dX0_pass_9 : decode cX0_pass 9 = .ok (.iload_n 3, 1) := by decide +kernel
theorem dX0_pass_10 : decode cX0_pass 10 = .ok (.iload_n 1, 1) := by decide +kernel
theorem dX0_pass_11 : decode cX0_pass 11 = .ok (.if_icmp .ge 35, 3) := by decide +kernel
theorem dX0_pass_14 : decode cX0_pass 14 = .ok (.aload_n 0, 1) := by decide +kernel
theorem dX0_pass_15 : decode cX0_pass 15 = .ok (.invokevirtual 68, 3) := by decide +kernel
theorem dX0_pass_18 : decode cX0_pass 18 = .ok (.aload_n 0, 1) := by decide +kernel
theorem dX0_pass_19 : decode cX0_pass 19 = .ok (.invokevirtual 71, 3) := by decide +kernel
theorem dX0_pass_22 : decode cX0_pass 22 = .ok (.aload_n 0, 1) := by decide +kernel
theorem dX0_pass_23 : decode cX0_pass 23 = .ok (.invokevirtual 74, 3) := by decide +kernel
theorem dX0_pass_26 : decode cX0_pass 26 = .ok (.aload_n 0, 1) := by decide +kernel
theorem dX0_pass_27 : decode cX0_pass 27 = .ok (.invokevirtual 77, 3) := by decide +kernel
theorem dX0_pass_30 : decode cX0_pass 30 = .ok (.aload_n 0, 1) := by decide +kernel
theorem dX0_pass_31 : decode cX0_pass 31 = .ok (.dup, 1) := by decide +kernel
theorem dX0_pass_32 : decode cX0_pass 32 = .ok (.getfield 19, 3) := by decide +kernel
theorem dX0_pass_35 : decode cX0_pass 35 = .ok (.iconst 1, 1) := by decide +kernel
theorem dX0_pass_36 : decode cX0_pass 36 = .ok (.iadd, 1) := by decide +kernel
theorem dX0_pass_37 : decode cX0_pass 37 = .ok (.putfield 19, 3) := by decide +kernel
theorem dX0_pass_40 : decode cX0_pass 40 = .ok (.iinc 3 1, 3) := by decide +kernel
theorem dX0_pass_43 : decode cX0_pass 43 = .ok (.goto (-34), 3) := by decide +kernel
theorem dX0_pass_46 : decode cX0_pass 46 = .ok (.aload_n 0, 1) := by decide +kernel
theorem dX0_pass_47 : decode cX0_pass 47 = .ok (.getfield 22, 3) := by decide +kernel
theorem dX0_pass_50 : decode cX0_pass 50 = .ok (.iconst 1, 1) := by decide +kernel
theorem dX0_pass_51 : decode cX0_pass 51 = .ok (.iaload, 1) := by decide +kernel
theorem dX0_pass_52 : decode cX0_pass 52 = .ok (.iload_n 2, 1) := by decide +kernel
theorem dX0_pass_53 : decode cX0_pass 53 = .ok (.isub, 1) := by decide +kernel
theorem dX0_pass_54 : decode cX0_pass 54 = .ok (.ireturn, 1) := by decide +kernel
set_option maxRecDepth 20000 in
theorem ggX0_beginWashInTurn_X0_washedEffects : GoodIn wsX0_beginWashInTurn wsX0_washedEffects := (by refine gI_c (gw 10 rfl rfl) ?_; refine gI_c (gw 3 rfl rfl) ?_; refine gI_c (gw 5 rfl rfl) ?_; refine gI_c (gw 11 rfl rfl) ?_; refine gI_c (gw 12 rfl rfl) ?_; refine gI_c (gw 13 rfl rfl) ?_; refine gI_c (gw 14 rfl rfl) ?_; refine gI_c (gw 15 rfl rfl) ?_; refine gI_c (gw 16 rfl rfl) ?_; refine gI_c (gw 17 rfl rfl) ?_; refine gI_c (gw 18 rfl rfl) ?_; refine gI_c (gw 19 rfl rfl) ?_; refine gI_c (gw 20 rfl rfl) ?_; refine gI_c (gw 21 rfl rfl) ?_; refine gI_c (gw 22 rfl rfl) ?_; exact gI_n)
set_option maxRecDepth 20000 in
theorem gX0_beginWashInTurn_X0_washedEffects : GoodIn wsX0_beginWashInTurn (wsV RX0 80 RX0 yX0_washedEffects wsX0_washedEffects) := goodIn_app (goodIn_of _ (by decide +kernel)) ggX0_beginWashInTurn_X0_washedEffects
theorem dX0_beginWashInTurn_0 : decode cX0_beginWashInTurn 0 = .ok (.aload_n 0, 1) := by decide +kernel
theorem dX0_beginWashInTurn_1 : decode cX0_beginWashInTurn 1 = .ok (.getfield 15, 3) := by decide +kernel
theorem dX0_beginWashInTurn_4 : decode cX0_beginWashInTurn 4 = .ok (.iconst 3, 1) := by decide +kernel
theorem dX0_beginWashInTurn_5 : decode cX0_beginWashInTurn 5 = .ok (.iaload, 1) := by decide +kernel
theorem dX0_beginWashInTurn_6 : decode cX0_beginWashInTurn 6 = .ok (.istore_n 1, 1) := by decide +kernel
theorem dX0_beginWashInTurn_7 : decode cX0_beginWashInTurn 7 = .ok (.iload_n 1, 1) := by decide +kernel
theorem dX0_beginWashInTurn_8 : decode cX0_beginWashInTurn 8 = .ok (.ifCond .eq 19, 3) := by decide +kernel
theorem dX0_beginWashInTurn_11 : decode cX0_beginWashInTurn 11 = .ok (.aload_n 0, 1) := by decide +kernel
theorem dX0_beginWashInTurn_12 : decode cX0_beginWashInTurn 12 = .ok (.getfield 19, 3) := by decide +kernel
theorem dX0_beginWashInTurn_15 : decode cX0_beginWashInTurn 15 = .ok (.iload_n 1, 1) := by decide +kernel
theorem dX0_beginWashInTurn_16 : decode cX0_beginWashInTurn 16 = .ok (.irem, 1) := by decide +kernel
theorem dX0_beginWashInTurn_17 : decode cX0_beginWashInTurn 17 = .ok (.ifCond .ne 10, 3) := by decide +kernel
theorem dX0_beginWashInTurn_20 : decode cX0_beginWashInTurn 20 = .ok (.aload_n 0, 1) := by decide +kernel
theorem dX0_beginWashInTurn_21 : decode cX0_beginWashInTurn 21 = .ok (.invokevirtual 80, 3) := by decide +kernel
theorem dX0_beginWashInTurn_24 : decode cX0_beginWashInTurn 24 = .ok (.ifCond .le 4, 3) := by decide +kernel
theorem dX0_beginWashInTurn_27 : decode cX0_beginWashInTurn 27 = .ok (.return_, 1) := by decide +kernel
theorem dX0_beginWashInTurn_28 : decode cX0_beginWashInTurn 28 = .ok (.iconst 0, 1) := by decide +kernel
theorem dX0_beginWashInTurn_29 : decode cX0_beginWashInTurn 29 = .ok (.istore_n 2, 1) := by decide +kernel
theorem dX0_beginWashInTurn_30 : decode cX0_beginWashInTurn 30 = .ok (.iconst 1, 1) := by decide +kernel
theorem dX0_beginWashInTurn_31 : decode cX0_beginWashInTurn 31 = .ok (.istore_n 3, 1) := by decide +kernel
theorem dX0_beginWashInTurn_32 : decode cX0_beginWashInTurn 32 = .ok (.iload_n 3, 1) := by decide +kernel
theorem dX0_beginWashInTurn_33 : decode cX0_beginWashInTurn 33 = .ok (.aload_n 0, 1) := by decide +kernel
theorem dX0_beginWashInTurn_34 : decode cX0_beginWashInTurn 34 = .ok (.getfield 9, 3) := by decide +kernel
theorem dX0_beginWashInTurn_37 : decode cX0_beginWashInTurn 37 = .ok (.if_icmp .ge 26, 3) := by decide +kernel
theorem dX0_beginWashInTurn_40 : decode cX0_beginWashInTurn 40 = .ok (.aload_n 0, 1) := by decide +kernel
theorem dX0_beginWashInTurn_41 : decode cX0_beginWashInTurn 41 = .ok (.getfield 40, 3) := by decide +kernel
theorem dX0_beginWashInTurn_44 : decode cX0_beginWashInTurn 44 = .ok (.iload_n 3, 1) := by decide +kernel
theorem dX0_beginWashInTurn_45 : decode cX0_beginWashInTurn 45 = .ok (.iaload, 1) := by decide +kernel
theorem dX0_beginWashInTurn_46 : decode cX0_beginWashInTurn 46 = .ok (.aload_n 0, 1) := by decide +kernel
theorem dX0_beginWashInTurn_47 : decode cX0_beginWashInTurn 47 = .ok (.getfield 40, 3) := by decide +kernel
theorem dX0_beginWashInTurn_50 : decode cX0_beginWashInTurn 50 = .ok (.iload_n 2, 1) := by decide +kernel
theorem dX0_beginWashInTurn_51 : decode cX0_beginWashInTurn 51 = .ok (.iaload, 1) := by decide +kernel
theorem dX0_beginWashInTurn_52 : decode cX0_beginWashInTurn 52 = .ok (.if_icmp .le 5, 3) := by decide +kernel
theorem dX0_beginWashInTurn_55 : decode cX0_beginWashInTurn 55 = .ok (.iload_n 3, 1) := by decide +kernel
theorem dX0_beginWashInTurn_56 : decode cX0_beginWashInTurn 56 = .ok (.istore_n 2, 1) := by decide +kernel
theorem dX0_beginWashInTurn_57 : decode cX0_beginWashInTurn 57 = .ok (.iinc 3 1, 3) := by decide +kernel
theorem dX0_beginWashInTurn_60 : decode cX0_beginWashInTurn 60 = .ok (.goto (-28), 3) := by decide +kernel
theorem dX0_beginWashInTurn_63 : decode cX0_beginWashInTurn 63 = .ok (.aload_n 0, 1) := by decide +kernel
theorem dX0_beginWashInTurn_64 : decode cX0_beginWashInTurn 64 = .ok (.getfield 40, 3) := by decide +kernel
theorem dX0_beginWashInTurn_67 : decode cX0_beginWashInTurn 67 = .ok (.iload_n 2, 1) := by decide +kernel
theorem dX0_beginWashInTurn_68 : decode cX0_beginWashInTurn 68 = .ok (.iaload, 1) := by decide +kernel
theorem dX0_beginWashInTurn_69 : decode cX0_beginWashInTurn 69 = .ok (.ifCond .le 15, 3) := by decide +kernel
theorem dX0_beginWashInTurn_72 : decode cX0_beginWashInTurn 72 = .ok (.aload_n 0, 1) := by decide +kernel
theorem dX0_beginWashInTurn_73 : decode cX0_beginWashInTurn 73 = .ok (.getfield 46, 3) := by decide +kernel
theorem dX0_beginWashInTurn_76 : decode cX0_beginWashInTurn 76 = .ok (.iload_n 2, 1) := by decide +kernel
theorem dX0_beginWashInTurn_77 : decode cX0_beginWashInTurn 77 = .ok (.aload_n 0, 1) := by decide +kernel
theorem dX0_beginWashInTurn_78 : decode cX0_beginWashInTurn 78 = .ok (.getfield 15, 3) := by decide +kernel
theorem dX0_beginWashInTurn_81 : decode cX0_beginWashInTurn 81 = .ok (.iconst 4, 1) := by decide +kernel
theorem dX0_beginWashInTurn_82 : decode cX0_beginWashInTurn 82 = .ok (.iaload, 1) := by decide +kernel
theorem dX0_beginWashInTurn_83 : decode cX0_beginWashInTurn 83 = .ok (.iastore, 1) := by decide +kernel
theorem dX0_beginWashInTurn_84 : decode cX0_beginWashInTurn 84 = .ok (.return_, 1) := by decide +kernel
set_option maxRecDepth 20000 in
theorem ggX0_boilAll_X0_boil : GoodIn wsX0_boilAll wsX0_boil := (by refine gI_c (gw 9 rfl rfl) ?_; refine gI_c (gw 10 rfl rfl) ?_; refine gI_c (gw 11 rfl rfl) ?_; refine gI_c (gw 12 rfl rfl) ?_; refine gI_c (gw 13 rfl rfl) ?_; refine gI_c (gw 14 rfl rfl) ?_; refine gI_c (gw 15 rfl rfl) ?_; refine gI_c (gw 4 rfl rfl) ?_; refine gI_c (gw 16 rfl rfl) ?_; refine gI_c (gw 17 rfl rfl) ?_; refine gI_c (gw 18 rfl rfl) ?_; refine gI_c (gw 19 rfl rfl) ?_; refine gI_c (gw 20 rfl rfl) ?_; refine gI_c (gw 8 rfl rfl) ?_; refine gI_c (gw 21 rfl rfl) ?_; refine gI_c (gw 22 rfl rfl) ?_; refine gI_c (gw 23 rfl rfl) ?_; refine gI_c (gw 24 rfl rfl) ?_; refine gI_c (gw 25 rfl rfl) ?_; refine gI_c (gw 26 rfl rfl) ?_; refine gI_c (gw 27 rfl rfl) ?_; refine gI_c (gw 28 rfl rfl) ?_; refine gI_c (gw 29 rfl rfl) ?_; refine gI_c (gw 30 rfl rfl) ?_; refine gI_c (gw 31 rfl rfl) ?_; refine gI_c (gw 32 rfl rfl) ?_; refine gI_c (gw 33 rfl rfl) ?_; refine gI_c (gw 34 rfl rfl) ?_; refine gI_c (gw 35 rfl rfl) ?_; refine gI_c (gw 36 rfl rfl) ?_; refine gI_c (gw 37 rfl rfl) ?_; refine gI_c (gw 38 rfl rfl) ?_; refine gI_c (gw 39 rfl rfl) ?_; exact gI_n)
set_option maxRecDepth 20000 in
theorem gX0_boilAll_X0_boil : GoodIn wsX0_boilAll (wsV RX0 84 RX0 yX0_boil wsX0_boil) := goodIn_app (goodIn_of _ (by decide +kernel)) ggX0_boilAll_X0_boil
theorem dX0_boilAll_0 : decode cX0_boilAll 0 = .ok (.aload_n 0, 1) := by decide +kernel
theorem dX0_boilAll_1 : decode cX0_boilAll 1 = .ok (.getfield 15, 3) := by decide +kernel
theorem dX0_boilAll_4 : decode cX0_boilAll 4 = .ok (.iconst 0, 1) := by decide +kernel
theorem dX0_boilAll_5 : decode cX0_boilAll 5 = .ok (.iaload, 1) := by decide +kernel
theorem dX0_boilAll_6 : decode cX0_boilAll 6 = .ok (.istore_n 1, 1) := by decide +kernel
theorem dX0_boilAll_7 : decode cX0_boilAll 7 = .ok (.iconst 0, 1) := by decide +kernel
theorem dX0_boilAll_8 : decode cX0_boilAll 8 = .ok (.istore_n 2, 1) := by decide +kernel
theorem dX0_boilAll_9 : decode cX0_boilAll 9 = .ok (.iconst 0, 1) := by decide +kernel
theorem dX0_boilAll_10 : decode cX0_boilAll 10 = .ok (.istore_n 3, 1) := by decide +kernel
theorem dX0_boilAll_11 : decode cX0_boilAll 11 = .ok (.iload_n 3, 1) := by decide +kernel
theorem dX0_boilAll_12 : decode cX0_boilAll 12 = .ok (.aload_n 0, 1) := by decide +kernel
theorem dX0_boilAll_13 : decode cX0_boilAll 13 = .ok (.getfield 9, 3) := by decide +kernel
theorem dX0_boilAll_16 : decode cX0_boilAll 16 = .ok (.if_icmp .ge 27, 3) := by decide +kernel
theorem dX0_boilAll_19 : decode cX0_boilAll 19 = .ok (.aload_n 0, 1) := by decide +kernel
theorem dX0_boilAll_20 : decode cX0_boilAll 20 = .ok (.getfield 46, 3) := by decide +kernel
theorem dX0_boilAll_23 : decode cX0_boilAll 23 = .ok (.iload_n 3, 1) := by decide +kernel
theorem dX0_boilAll_24 : decode cX0_boilAll 24 = .ok (.iaload, 1) := by decide +kernel
theorem dX0_boilAll_25 : decode cX0_boilAll 25 = .ok (.ifCond .ne 12, 3) := by decide +kernel
theorem dX0_boilAll_28 : decode cX0_boilAll 28 = .ok (.iconst 1, 1) := by decide +kernel
theorem dX0_boilAll_29 : decode cX0_boilAll 29 = .ok (.istore_n 2, 1) := by decide +kernel
theorem dX0_boilAll_30 : decode cX0_boilAll 30 = .ok (.aload_n 0, 1) := by decide +kernel
theorem dX0_boilAll_31 : decode cX0_boilAll 31 = .ok (.iload_n 3, 1) := by decide +kernel
theorem dX0_boilAll_32 : decode cX0_boilAll 32 = .ok (.iload_n 1, 1) := by decide +kernel
theorem dX0_boilAll_33 : decode cX0_boilAll 33 = .ok (.invokevirtual 84, 3) := by decide +kernel
theorem dX0_boilAll_36 : decode cX0_boilAll 36 = .ok (.istore_n 1, 1) := by decide +kernel
theorem dX0_boilAll_37 : decode cX0_boilAll 37 = .ok (.iinc 3 1, 3) := by decide +kernel
theorem dX0_boilAll_40 : decode cX0_boilAll 40 = .ok (.goto (-29), 3) := by decide +kernel
theorem dX0_boilAll_43 : decode cX0_boilAll 43 = .ok (.iload_n 2, 1) := by decide +kernel
theorem dX0_boilAll_44 : decode cX0_boilAll 44 = .ok (.ifCond .eq 28, 3) := by decide +kernel
theorem dX0_boilAll_47 : decode cX0_boilAll 47 = .ok (.aload_n 0, 1) := by decide +kernel
theorem dX0_boilAll_48 : decode cX0_boilAll 48 = .ok (.getfield 22, 3) := by decide +kernel
theorem dX0_boilAll_51 : decode cX0_boilAll 51 = .ok (.iconst 0, 1) := by decide +kernel
theorem dX0_boilAll_52 : decode cX0_boilAll 52 = .ok (.dup2, 1) := by decide +kernel
theorem dX0_boilAll_53 : decode cX0_boilAll 53 = .ok (.iaload, 1) := by decide +kernel
theorem dX0_boilAll_54 : decode cX0_boilAll 54 = .ok (.aload_n 0, 1) := by decide +kernel
theorem dX0_boilAll_55 : decode cX0_boilAll 55 = .ok (.getfield 15, 3) := by decide +kernel
theorem dX0_boilAll_58 : decode cX0_boilAll 58 = .ok (.iconst 0, 1) := by decide +kernel
theorem dX0_boilAll_59 : decode cX0_boilAll 59 = .ok (.iaload, 1) := by decide +kernel
theorem dX0_boilAll_60 : decode cX0_boilAll 60 = .ok (.iadd, 1) := by decide +kernel
theorem dX0_boilAll_61 : decode cX0_boilAll 61 = .ok (.iastore, 1) := by decide +kernel
theorem dX0_boilAll_62 : decode cX0_boilAll 62 = .ok (.aload_n 0, 1) := by decide +kernel
theorem dX0_boilAll_63 : decode cX0_boilAll 63 = .ok (.getfield 22, 3) := by decide +kernel
theorem dX0_boilAll_66 : decode cX0_boilAll 66 = .ok (.iconst 3, 1) := by decide +kernel
theorem dX0_boilAll_67 : decode cX0_boilAll 67 = .ok (.dup2, 1) := by decide +kernel
theorem dX0_boilAll_68 : decode cX0_boilAll 68 = .ok (.iaload, 1) := by decide +kernel
theorem dX0_boilAll_69 : decode cX0_boilAll 69 = .ok (.iload_n 1, 1) := by decide +kernel
theorem dX0_boilAll_70 : decode cX0_boilAll 70 = .ok (.iadd, 1) := by decide +kernel
theorem dX0_boilAll_71 : decode cX0_boilAll 71 = .ok (.iastore, 1) := by decide +kernel
theorem dX0_boilAll_72 : decode cX0_boilAll 72 = .ok (.return_, 1) := by decide +kernel
set_option maxRecDepth 20000 in
theorem ggX0_boil_X0_thickness : GoodIn wsX0_boil wsX0_thickness := (by refine gI_c (gw 14 rfl rfl) ?_; refine gI_c (gw 5 rfl rfl) ?_; refine gI_c (gw 15 rfl rfl) ?_; refine gI_c (gw 21 rfl rfl) ?_; refine gI_c (gw 22 rfl rfl) ?_; refine gI_c (gw 23 rfl rfl) ?_; refine gI_c (gw 24 rfl rfl) ?_; refine gI_c (gw 25 rfl rfl) ?_; refine gI_c (gw 26 rfl rfl) ?_; refine gI_c (gw 27 rfl rfl) ?_; refine gI_c (gw 28 rfl rfl) ?_; refine gI_c (gw 29 rfl rfl) ?_; refine gI_c (gw 30 rfl rfl) ?_; refine gI_c (gw 31 rfl rfl) ?_; refine gI_c (gw 32 rfl rfl) ?_; exact gI_n)
set_option maxRecDepth 20000 in
theorem gX0_boil_X0_thickness : GoodIn wsX0_boil (wsV RX0 61 RX0 yX0_thickness wsX0_thickness) := goodIn_app (goodIn_of _ (by decide +kernel)) ggX0_boil_X0_thickness
set_option maxRecDepth 20000 in
theorem ggX0_boil_X0_power : GoodIn wsX0_boil wsX0_power := (by refine gI_c (gw 19 rfl rfl) ?_; refine gI_c (gw 9 rfl rfl) ?_; refine gI_c (gw 20 rfl rfl) ?_; refine gI_c (gw 21 rfl rfl) ?_; refine gI_c (gw 22 rfl rfl) ?_; refine gI_c (gw 23 rfl rfl) ?_; refine gI_c (gw 24 rfl rfl) ?_; refine gI_c (gw 25 rfl rfl) ?_; refine gI_c (gw 26 rfl rfl) ?_; refine gI_c (gw 27 rfl rfl) ?_; refine gI_c (gw 28 rfl rfl) ?_; refine gI_c (gw 29 rfl rfl) ?_; refine gI_c (gw 30 rfl rfl) ?_; refine gI_c (gw 31 rfl rfl) ?_; refine gI_c (gw 32 rfl rfl) ?_; exact gI_n)
set_option maxRecDepth 20000 in
theorem gX0_boil_X0_power : GoodIn wsX0_boil (wsV RX0 65 RX0 yX0_power wsX0_power) := goodIn_app (goodIn_of _ (by decide +kernel)) ggX0_boil_X0_power
theorem dX0_boil_0 : decode cX0_boil 0 = .ok (.aload_n 0, 1) := by decide +kernel
theorem dX0_boil_1 : decode cX0_boil 1 = .ok (.iload_n 1, 1) := by decide +kernel
theorem dX0_boil_2 : decode cX0_boil 2 = .ok (.invokevirtual 61, 3) := by decide +kernel
theorem dX0_boil_5 : decode cX0_boil 5 = .ok (.istore_n 3, 1) := by decide +kernel
theorem dX0_boil_6 : decode cX0_boil 6 = .ok (.iload_n 2, 1) := by decide +kernel
theorem dX0_boil_7 : decode cX0_boil 7 = .ok (.aload_n 0, 1) := by decide +kernel
theorem dX0_boil_8 : decode cX0_boil 8 = .ok (.iload_n 1, 1) := by decide +kernel
theorem dX0_boil_9 : decode cX0_boil 9 = .ok (.invokevirtual 65, 3) := by decide +kernel
theorem dX0_boil_12 : decode cX0_boil 12 = .ok (.invokestatic 88, 3) := by decide +kernel
theorem dX0_boil_15 : decode cX0_boil 15 = .ok (.istore 4, 2) := by decide +kernel
theorem dX0_boil_17 : decode cX0_boil 17 = .ok (.iload 4, 2) := by decide +kernel
theorem dX0_boil_19 : decode cX0_boil 19 = .ok (.iload 4, 2) := by decide +kernel
theorem dX0_boil_21 : decode cX0_boil 21 = .ok (.iload_n 3, 1) := by decide +kernel
theorem dX0_boil_22 : decode cX0_boil 22 = .ok (.imul, 1) := by decide +kernel
theorem dX0_boil_23 : decode cX0_boil 23 = .ok (.sipush 200, 3) := by decide +kernel
theorem dX0_boil_26 : decode cX0_boil 26 = .ok (.idiv, 1) := by decide +kernel
theorem dX0_boil_27 : decode cX0_boil 27 = .ok (.isub, 1) := by decide +kernel
theorem dX0_boil_28 : decode cX0_boil 28 = .ok (.istore 4, 2) := by decide +kernel
theorem dX0_boil_30 : decode cX0_boil 30 = .ok (.iload 4, 2) := by decide +kernel
theorem dX0_boil_32 : decode cX0_boil 32 = .ok (.aload_n 0, 1) := by decide +kernel
theorem dX0_boil_33 : decode cX0_boil 33 = .ok (.getfield 28, 3) := by decide +kernel
theorem dX0_boil_36 : decode cX0_boil 36 = .ok (.iload_n 1, 1) := by decide +kernel
theorem dX0_boil_37 : decode cX0_boil 37 = .ok (.iaload, 1) := by decide +kernel
theorem dX0_boil_38 : decode cX0_boil 38 = .ok (.invokestatic 88, 3) := by decide +kernel
theorem dX0_boil_41 : decode cX0_boil 41 = .ok (.istore 4, 2) := by decide +kernel
theorem dX0_boil_43 : decode cX0_boil 43 = .ok (.iload 4, 2) := by decide +kernel
theorem dX0_boil_45 : decode cX0_boil 45 = .ok (.aload_n 0, 1) := by decide +kernel
theorem dX0_boil_46 : decode cX0_boil 46 = .ok (.getfield 37, 3) := by decide +kernel
theorem dX0_boil_49 : decode cX0_boil 49 = .ok (.iload_n 1, 1) := by decide +kernel
theorem dX0_boil_50 : decode cX0_boil 50 = .ok (.iaload, 1) := by decide +kernel
theorem dX0_boil_51 : decode cX0_boil 51 = .ok (.imul, 1) := by decide +kernel
theorem dX0_boil_52 : decode cX0_boil 52 = .ok (.bipush 100, 2) := by decide +kernel
theorem dX0_boil_54 : decode cX0_boil 54 = .ok (.idiv, 1) := by decide +kernel
theorem dX0_boil_55 : decode cX0_boil 55 = .ok (.istore 5, 2) := by decide +kernel
theorem dX0_boil_57 : decode cX0_boil 57 = .ok (.aload_n 0, 1) := by decide +kernel
theorem dX0_boil_58 : decode cX0_boil 58 = .ok (.getfield 28, 3) := by decide +kernel
theorem dX0_boil_61 : decode cX0_boil 61 = .ok (.iload_n 1, 1) := by decide +kernel
theorem dX0_boil_62 : decode cX0_boil 62 = .ok (.dup2, 1) := by decide +kernel
theorem dX0_boil_63 : decode cX0_boil 63 = .ok (.iaload, 1) := by decide +kernel
theorem dX0_boil_64 : decode cX0_boil 64 = .ok (.iload 4, 2) := by decide +kernel
theorem dX0_boil_66 : decode cX0_boil 66 = .ok (.isub, 1) := by decide +kernel
theorem dX0_boil_67 : decode cX0_boil 67 = .ok (.iastore, 1) := by decide +kernel
theorem dX0_boil_68 : decode cX0_boil 68 = .ok (.aload_n 0, 1) := by decide +kernel
theorem dX0_boil_69 : decode cX0_boil 69 = .ok (.getfield 22, 3) := by decide +kernel
theorem dX0_boil_72 : decode cX0_boil 72 = .ok (.iconst 1, 1) := by decide +kernel
theorem dX0_boil_73 : decode cX0_boil 73 = .ok (.dup2, 1) := by decide +kernel
theorem dX0_boil_74 : decode cX0_boil 74 = .ok (.iaload, 1) := by decide +kernel
theorem dX0_boil_75 : decode cX0_boil 75 = .ok (.iload 4, 2) := by decide +kernel
theorem dX0_boil_77 : decode cX0_boil 77 = .ok (.iadd, 1) := by decide +kernel
theorem dX0_boil_78 : decode cX0_boil 78 = .ok (.iastore, 1) := by decide +kernel
theorem dX0_boil_79 : decode cX0_boil 79 = .ok (.aload_n 0, 1) := by decide +kernel
theorem dX0_boil_80 : decode cX0_boil 80 = .ok (.getfield 22, 3) := by decide +kernel
theorem dX0_boil_83 : decode cX0_boil 83 = .ok (.iconst 2, 1) := by decide +kernel
theorem dX0_boil_84 : decode cX0_boil 84 = .ok (.dup2, 1) := by decide +kernel
theorem dX0_boil_85 : decode cX0_boil 85 = .ok (.iaload, 1) := by decide +kernel
theorem dX0_boil_86 : decode cX0_boil 86 = .ok (.iload 5, 2) := by decide +kernel
theorem dX0_boil_88 : decode cX0_boil 88 = .ok (.iadd, 1) := by decide +kernel
theorem dX0_boil_89 : decode cX0_boil 89 = .ok (.iastore, 1) := by decide +kernel
theorem dX0_boil_90 : decode cX0_boil 90 = .ok (.aload_n 0, 1) := by decide +kernel
theorem dX0_boil_91 : decode cX0_boil 91 = .ok (.getfield 22, 3) := by decide +kernel
theorem dX0_boil_94 : decode cX0_boil 94 = .ok (.iconst 4, 1) := by decide +kernel
theorem dX0_boil_95 : decode cX0_boil 95 = .ok (.dup2, 1) := by decide +kernel
theorem dX0_boil_96 : decode cX0_boil 96 = .ok (.iaload, 1) := by decide +kernel
theorem dX0_boil_97 : decode cX0_boil 97 = .ok (.iload_n 2, 1) := by decide +kernel
theorem dX0_boil_98 : decode cX0_boil 98 = .ok (.iload 4, 2) := by decide +kernel
theorem dX0_boil_100 : decode cX0_boil 100 = .ok (.isub, 1) := by decide +kernel
theorem dX0_boil_101 : decode cX0_boil 101 = .ok (.iadd, 1) := by decide +kernel
theorem dX0_boil_102 : decode cX0_boil 102 = .ok (.iastore, 1) := by decide +kernel
theorem dX0_boil_103 : decode cX0_boil 103 = .ok (.aload_n 0, 1) := by decide +kernel
theorem dX0_boil_104 : decode cX0_boil 104 = .ok (.getfield 43, 3) := by decide +kernel
theorem dX0_boil_107 : decode cX0_boil 107 = .ok (.iload_n 1, 1) := by decide +kernel
theorem dX0_boil_108 : decode cX0_boil 108 = .ok (.iaload, 1) := by decide +kernel
theorem dX0_boil_109 : decode cX0_boil 109 = .ok (.iload 4, 2) := by decide +kernel
theorem dX0_boil_111 : decode cX0_boil 111 = .ok (.iload_n 3, 1) := by decide +kernel
theorem dX0_boil_112 : decode cX0_boil 112 = .ok (.imul, 1) := by decide +kernel
theorem dX0_boil_113 : decode cX0_boil 113 = .ok (.bipush 10, 2) := by decide +kernel
theorem dX0_boil_115 : decode cX0_boil 115 = .ok (.idiv, 1) := by decide +kernel
theorem dX0_boil_116 : decode cX0_boil 116 = .ok (.iadd, 1) := by decide +kernel
theorem dX0_boil_117 : decode cX0_boil 117 = .ok (.istore 6, 2) := by decide +kernel
theorem dX0_boil_119 : decode cX0_boil 119 = .ok (.aload_n 0, 1) := by decide +kernel
theorem dX0_boil_120 : decode cX0_boil 120 = .ok (.getfield 40, 3) := by decide +kernel
theorem dX0_boil_123 : decode cX0_boil 123 = .ok (.iload_n 1, 1) := by decide +kernel
theorem dX0_boil_124 : decode cX0_boil 124 = .ok (.bipush 99, 2) := by decide +kernel
theorem dX0_boil_126 : decode cX0_boil 126 = .ok (.aload_n 0, 1) := by decide +kernel
theorem dX0_boil_127 : decode cX0_boil 127 = .ok (.getfield 40, 3) := by decide +kernel
theorem dX0_boil_130 : decode cX0_boil 130 = .ok (.iload_n 1, 1) := by decide +kernel
theorem dX0_boil_131 : decode cX0_boil 131 = .ok (.iaload, 1) := by decide +kernel
theorem dX0_boil_132 : decode cX0_boil 132 = .ok (.iload 6, 2) := by decide +kernel
theorem dX0_boil_134 : decode cX0_boil 134 = .ok (.sipush 1000, 3) := by decide +kernel
theorem dX0_boil_137 : decode cX0_boil 137 = .ok (.idiv, 1) := by decide +kernel
theorem dX0_boil_138 : decode cX0_boil 138 = .ok (.iadd, 1) := by decide +kernel
theorem dX0_boil_139 : decode cX0_boil 139 = .ok (.invokestatic 88, 3) := by decide +kernel
theorem dX0_boil_142 : decode cX0_boil 142 = .ok (.iastore, 1) := by decide +kernel
theorem dX0_boil_143 : decode cX0_boil 143 = .ok (.aload_n 0, 1) := by decide +kernel
theorem dX0_boil_144 : decode cX0_boil 144 = .ok (.getfield 43, 3) := by decide +kernel
theorem dX0_boil_147 : decode cX0_boil 147 = .ok (.iload_n 1, 1) := by decide +kernel
theorem dX0_boil_148 : decode cX0_boil 148 = .ok (.iload 6, 2) := by decide +kernel
theorem dX0_boil_150 : decode cX0_boil 150 = .ok (.sipush 1000, 3) := by decide +kernel
theorem dX0_boil_153 : decode cX0_boil 153 = .ok (.irem, 1) := by decide +kernel
theorem dX0_boil_154 : decode cX0_boil 154 = .ok (.iastore, 1) := by decide +kernel
theorem dX0_boil_155 : decode cX0_boil 155 = .ok (.iload 4, 2) := by decide +kernel
theorem dX0_boil_157 : decode cX0_boil 157 = .ok (.iload 5, 2) := by decide +kernel
theorem dX0_boil_159 : decode cX0_boil 159 = .ok (.isub, 1) := by decide +kernel
theorem dX0_boil_160 : decode cX0_boil 160 = .ok (.ireturn, 1) := by decide +kernel
set_option maxRecDepth 20000 in
theorem ggX0_flowOn_X0_effectBehind : GoodIn wsX0_flowOn wsX0_effectBehind := (by refine gI_c (gw 11 rfl rfl) ?_; refine gI_c (gw 3 rfl rfl) ?_; refine gI_c (gw 4 rfl rfl) ?_; refine gI_c (gw 25 rfl rfl) ?_; refine gI_c (gw 26 rfl rfl) ?_; refine gI_c (gw 27 rfl rfl) ?_; refine gI_c (gw 28 rfl rfl) ?_; refine gI_c (gw 29 rfl rfl) ?_; refine gI_c (gw 30 rfl rfl) ?_; refine gI_c (gw 31 rfl rfl) ?_; refine gI_c (gw 32 rfl rfl) ?_; refine gI_c (gw 33 rfl rfl) ?_; refine gI_c (gw 34 rfl rfl) ?_; refine gI_c (gw 35 rfl rfl) ?_; refine gI_c (gw 36 rfl rfl) ?_; exact gI_n)
set_option maxRecDepth 20000 in
theorem gX0_flowOn_X0_effectBehind : GoodIn wsX0_flowOn (wsV RX0 93 RX0 yX0_effectBehind wsX0_effectBehind) := goodIn_app (goodIn_of _ (by decide +kernel)) ggX0_flowOn_X0_effectBehind
set_option maxRecDepth 20000 in
theorem ggX0_flowOn_X0_amount : GoodIn wsX0_flowOn wsX0_amount := (by refine gI_c (gw 15 rfl rfl) ?_; refine gI_c (gw 6 rfl rfl) ?_; refine gI_c (gw 5 rfl rfl) ?_; refine gI_c (gw 25 rfl rfl) ?_; refine gI_c (gw 26 rfl rfl) ?_; refine gI_c (gw 27 rfl rfl) ?_; refine gI_c (gw 28 rfl rfl) ?_; refine gI_c (gw 29 rfl rfl) ?_; refine gI_c (gw 30 rfl rfl) ?_; refine gI_c (gw 31 rfl rfl) ?_; refine gI_c (gw 32 rfl rfl) ?_; refine gI_c (gw 33 rfl rfl) ?_; refine gI_c (gw 34 rfl rfl) ?_; refine gI_c (gw 35 rfl rfl) ?_; refine gI_c (gw 36 rfl rfl) ?_; exact gI_n)
set_option maxRecDepth 20000 in
theorem gX0_flowOn_X0_amount : GoodIn wsX0_flowOn (wsV RX0 96 RX0 yX0_amount wsX0_amount) := goodIn_app (goodIn_of _ (by decide +kernel)) ggX0_flowOn_X0_amount
set_option maxRecDepth 20000 in
theorem ggX0_flowOn_X0_flowFrom : GoodIn wsX0_flowOn wsX0_flowFrom := (by refine gI_c (gw 19 rfl rfl) ?_; refine gI_c (gw 20 rfl rfl) ?_; refine gI_c (gw 21 rfl rfl) ?_; refine gI_c (gw 22 rfl rfl) ?_; refine gI_c (gw 23 rfl rfl) ?_; refine gI_c (gw 24 rfl rfl) ?_; refine gI_c (gw 12 rfl rfl) ?_; refine gI_c (gw 13 rfl rfl) ?_; refine gI_c (gw 14 rfl rfl) ?_; refine gI_c (gw 10 rfl rfl) ?_; refine gI_c (gw 15 rfl rfl) ?_; refine gI_c (gw 6 rfl rfl) ?_; refine gI_c (gw 5 rfl rfl) ?_; refine gI_c (gw 7 rfl rfl) ?_; refine gI_c (gw 8 rfl rfl) ?_; refine gI_c (gw 9 rfl rfl) ?_; refine gI_c (gw 11 rfl rfl) ?_; refine gI_c (gw 3 rfl rfl) ?_; refine gI_c (gw 4 rfl rfl) ?_; refine gI_c (gw 25 rfl rfl) ?_; refine gI_c (gw 26 rfl rfl) ?_; refine gI_c (gw 27 rfl rfl) ?_; refine gI_c (gw 28 rfl rfl) ?_; refine gI_c (gw 29 rfl rfl) ?_; refine gI_c (gw 30 rfl rfl) ?_; refine gI_c (gw 31 rfl rfl) ?_; refine gI_c (gw 32 rfl rfl) ?_; refine gI_c (gw 33 rfl rfl) ?_; refine gI_c (gw 34 rfl rfl) ?_; refine gI_c (gw 35 rfl rfl) ?_; refine gI_c (gw 36 rfl rfl) ?_; exact gI_n)
set_option maxRecDepth 20000 in
theorem gX0_flowOn_X0_flowFrom : GoodIn wsX0_flowOn (wsV RX0 99 RX0 yX0_flowFrom wsX0_flowFrom) := goodIn_app (goodIn_of _ (by decide +kernel)) ggX0_flowOn_X0_flowFrom
theorem dX0_flowOn_0 : decode cX0_flowOn 0 = .ok (.iconst 0, 1) := by decide +kernel
theorem dX0_flowOn_1 : decode cX0_flowOn 1 = .ok (.istore_n 1, 1) := by decide +kernel
theorem dX0_flowOn_2 : decode cX0_flowOn 2 = .ok (.iconst 0, 1) := by decide +kernel
theorem dX0_flowOn_3 : decode cX0_flowOn 3 = .ok (.istore_n 2, 1) := by decide +kernel
theorem dX0_flowOn_4 : decode cX0_flowOn 4 = .ok (.aload_n 0, 1) := by decide +kernel
theorem dX0_flowOn_5 : decode cX0_flowOn 5 = .ok (.iconst (-1), 1) := by decide +kernel
theorem dX0_flowOn_6 : decode cX0_flowOn 6 = .ok (.invokevirtual 93, 3) := by decide +kernel
theorem dX0_flowOn_9 : decode cX0_flowOn 9 = .ok (.istore_n 3, 1) := by decide +kernel
theorem dX0_flowOn_10 : decode cX0_flowOn 10 = .ok (.iload_n 3, 1) := by decide +kernel
theorem dX0_flowOn_11 : decode cX0_flowOn 11 = .ok (.bipush (-9), 2) := by decide +kernel
theorem dX0_flowOn_13 : decode cX0_flowOn 13 = .ok (.if_icmp .eq 28, 3) := by decide +kernel
theorem dX0_flowOn_16 : decode cX0_flowOn 16 = .ok (.sipush 5000, 3) := by decide +kernel
theorem dX0_flowOn_19 : decode cX0_flowOn 19 = .ok (.aload_n 0, 1) := by decide +kernel
theorem dX0_flowOn_20 : decode cX0_flowOn 20 = .ok (.iload_n 3, 1) := by decide +kernel
theorem dX0_flowOn_21 : decode cX0_flowOn 21 = .ok (.invokevirtual 96, 3) := by decide +kernel
theorem dX0_flowOn_24 : decode cX0_flowOn 24 = .ok (.isub, 1) := by decide +kernel
theorem dX0_flowOn_25 : decode cX0_flowOn 25 = .ok (.aload_n 0, 1) := by decide +kernel
theorem dX0_flowOn_26 : decode cX0_flowOn 26 = .ok (.getfield 15, 3) := by decide +kernel
theorem dX0_flowOn_29 : decode cX0_flowOn 29 = .ok (.iconst 1, 1) := by decide +kernel
theorem dX0_flowOn_30 : decode cX0_flowOn 30 = .ok (.iaload, 1) := by decide +kernel
theorem dX0_flowOn_31 : decode cX0_flowOn 31 = .ok (.aload_n 0, 1) := by decide +kernel
theorem dX0_flowOn_32 : decode cX0_flowOn 32 = .ok (.getfield 15, 3) := by decide +kernel
theorem dX0_flowOn_35 : decode cX0_flowOn 35 = .ok (.iconst 2, 1) := by decide +kernel
theorem dX0_flowOn_36 : decode cX0_flowOn 36 = .ok (.iaload, 1) := by decide +kernel
theorem dX0_flowOn_37 : decode cX0_flowOn 37 = .ok (.iadd, 1) := by decide +kernel
theorem dX0_flowOn_38 : decode cX0_flowOn 38 = .ok (.if_icmp .ge 17, 3) := by decide +kernel
theorem dX0_flowOn_41 : decode cX0_flowOn 41 = .ok (.aload_n 0, 1) := by decide +kernel
theorem dX0_flowOn_42 : decode cX0_flowOn 42 = .ok (.getfield 22, 3) := by decide +kernel
theorem dX0_flowOn_45 : decode cX0_flowOn 45 = .ok (.bipush 9, 2) := by decide +kernel
theorem dX0_flowOn_47 : decode cX0_flowOn 47 = .ok (.dup2, 1) := by decide +kernel
theorem dX0_flowOn_48 : decode cX0_flowOn 48 = .ok (.iaload, 1) := by decide +kernel
theorem dX0_flowOn_49 : decode cX0_flowOn 49 = .ok (.iconst 1, 1) := by decide +kernel
theorem dX0_flowOn_50 : decode cX0_flowOn 50 = .ok (.iadd, 1) := by decide +kernel
theorem dX0_flowOn_51 : decode cX0_flowOn 51 = .ok (.iastore, 1) := by decide +kernel
theorem dX0_flowOn_52 : decode cX0_flowOn 52 = .ok (.goto 38, 3) := by decide +kernel
theorem dX0_flowOn_55 : decode cX0_flowOn 55 = .ok (.aload_n 0, 1) := by decide +kernel
theorem dX0_flowOn_56 : decode cX0_flowOn 56 = .ok (.getfield 15, 3) := by decide +kernel
theorem dX0_flowOn_59 : decode cX0_flowOn 59 = .ok (.iconst 1, 1) := by decide +kernel
theorem dX0_flowOn_60 : decode cX0_flowOn 60 = .ok (.iaload, 1) := by decide +kernel
theorem dX0_flowOn_61 : decode cX0_flowOn 61 = .ok (.istore_n 1, 1) := by decide +kernel
theorem dX0_flowOn_62 : decode cX0_flowOn 62 = .ok (.aload_n 0, 1) := by decide +kernel
theorem dX0_flowOn_63 : decode cX0_flowOn 63 = .ok (.getfield 15, 3) := by decide +kernel
theorem dX0_flowOn_66 : decode cX0_flowOn 66 = .ok (.iconst 2, 1) := by decide +kernel
theorem dX0_flowOn_67 : decode cX0_flowOn 67 = .ok (.iaload, 1) := by decide +kernel
theorem dX0_flowOn_68 : decode cX0_flowOn 68 = .ok (.istore_n 2, 1) := by decide +kernel
theorem dX0_flowOn_69 : decode cX0_flowOn 69 = .ok (.aload_n 0, 1) := by decide +kernel
theorem dX0_flowOn_70 : decode cX0_flowOn 70 = .ok (.getfield 22, 3) := by decide +kernel
theorem dX0_flowOn_73 : decode cX0_flowOn 73 = .ok (.iconst 5, 1) := by decide +kernel
theorem dX0_flowOn_74 : decode cX0_flowOn 74 = .ok (.dup2, 1) := by decide +kernel
theorem dX0_flowOn_75 : decode cX0_flowOn 75 = .ok (.iaload, 1) := by decide +kernel
theorem dX0_flowOn_76 : decode cX0_flowOn 76 = .ok (.iload_n 1, 1) := by decide +kernel
theorem dX0_flowOn_77 : decode cX0_flowOn 77 = .ok (.iadd, 1) := by decide +kernel
theorem dX0_flowOn_78 : decode cX0_flowOn 78 = .ok (.iastore, 1) := by decide +kernel
theorem dX0_flowOn_79 : decode cX0_flowOn 79 = .ok (.aload_n 0, 1) := by decide +kernel
theorem dX0_flowOn_80 : decode cX0_flowOn 80 = .ok (.getfield 22, 3) := by decide +kernel
theorem dX0_flowOn_83 : decode cX0_flowOn 83 = .ok (.bipush 6, 2) := by decide +kernel
theorem dX0_flowOn_85 : decode cX0_flowOn 85 = .ok (.dup2, 1) := by decide +kernel
theorem dX0_flowOn_86 : decode cX0_flowOn 86 = .ok (.iaload, 1) := by decide +kernel
theorem dX0_flowOn_87 : decode cX0_flowOn 87 = .ok (.iload_n 2, 1) := by decide +kernel
theorem dX0_flowOn_88 : decode cX0_flowOn 88 = .ok (.iadd, 1) := by decide +kernel
theorem dX0_flowOn_89 : decode cX0_flowOn 89 = .ok (.iastore, 1) := by decide +kernel
theorem dX0_flowOn_90 : decode cX0_flowOn 90 = .ok (.iconst 0, 1) := by decide +kernel
theorem dX0_flowOn_91 : decode cX0_flowOn 91 = .ok (.istore 4, 2) := by decide +kernel
theorem dX0_flowOn_93 : decode cX0_flowOn 93 = .ok (.iload 4, 2) := by decide +kernel
theorem dX0_flowOn_95 : decode cX0_flowOn 95 = .ok (.aload_n 0, 1) := by decide +kernel
theorem dX0_flowOn_96 : decode cX0_flowOn 96 = .ok (.getfield 9, 3) := by decide +kernel
theorem dX0_flowOn_99 : decode cX0_flowOn 99 = .ok (.if_icmp .ge 100, 3) := by decide +kernel
theorem dX0_flowOn_102 : decode cX0_flowOn 102 = .ok (.aload_n 0, 1) := by decide +kernel
theorem dX0_flowOn_103 : decode cX0_flowOn 103 = .ok (.getfield 46, 3) := by decide +kernel
theorem dX0_flowOn_106 : decode cX0_flowOn 106 = .ok (.iload 4, 2) := by decide +kernel
theorem dX0_flowOn_108 : decode cX0_flowOn 108 = .ok (.iaload, 1) := by decide +kernel
theorem dX0_flowOn_109 : decode cX0_flowOn 109 = .ok (.ifCond .ne 84, 3) := by decide +kernel
theorem dX0_flowOn_112 : decode cX0_flowOn 112 = .ok (.aload_n 0, 1) := by decide +kernel
theorem dX0_flowOn_113 : decode cX0_flowOn 113 = .ok (.iload 4, 2) := by decide +kernel
theorem dX0_flowOn_115 : decode cX0_flowOn 115 = .ok (.invokevirtual 99, 3) := by decide +kernel
theorem dX0_flowOn_118 : decode cX0_flowOn 118 = .ok (.istore 5, 2) := by decide +kernel
theorem dX0_flowOn_120 : decode cX0_flowOn 120 = .ok (.aload_n 0, 1) := by decide +kernel
theorem dX0_flowOn_121 : decode cX0_flowOn 121 = .ok (.iload 4, 2) := by decide +kernel
theorem dX0_flowOn_123 : decode cX0_flowOn 123 = .ok (.invokevirtual 96, 3) := by decide +kernel
theorem dX0_flowOn_126 : decode cX0_flowOn 126 = .ok (.istore 6, 2) := by decide +kernel
theorem dX0_flowOn_128 : decode cX0_flowOn 128 = .ok (.iload 6, 2) := by decide +kernel
theorem dX0_flowOn_130 : decode cX0_flowOn 130 = .ok (.ifCond .le 19, 3) := by decide +kernel
theorem dX0_flowOn_133 : decode cX0_flowOn 133 = .ok (.aload_n 0, 1) := by decide +kernel
theorem dX0_flowOn_134 : decode cX0_flowOn 134 = .ok (.getfield 31, 3) := by decide +kernel
theorem dX0_flowOn_137 : decode cX0_flowOn 137 = .ok (.iload 4, 2) := by decide +kernel
theorem dX0_flowOn_139 : decode cX0_flowOn 139 = .ok (.iaload, 1) := by decide +kernel
theorem dX0_flowOn_140 : decode cX0_flowOn 140 = .ok (.iload 5, 2) := by decide +kernel
theorem dX0_flowOn_142 : decode cX0_flowOn 142 = .ok (.imul, 1) := by decide +kernel
theorem dX0_flowOn_143 : decode cX0_flowOn 143 = .ok (.iload 6, 2) := by decide +kernel
theorem dX0_flowOn_145 : decode cX0_flowOn 145 = .ok (.idiv, 1) := by decide +kernel
theorem dX0_flowOn_146 : decode cX0_flowOn 146 = .ok (.goto 4, 3) := by decide +kernel
theorem dX0_flowOn_149 : decode cX0_flowOn 149 = .ok (.iconst 0, 1) := by decide +kernel
theorem dX0_flowOn_150 : decode cX0_flowOn 150 = .ok (.istore 7, 2) := by decide +kernel
theorem dX0_flowOn_152 : decode cX0_flowOn 152 = .ok (.iload 5, 2) := by decide +kernel
theorem dX0_flowOn_154 : decode cX0_flowOn 154 = .ok (.iload 7, 2) := by decide +kernel
theorem dX0_flowOn_156 : decode cX0_flowOn 156 = .ok (.isub, 1) := by decide +kernel
theorem dX0_flowOn_157 : decode cX0_flowOn 157 = .ok (.istore 8, 2) := by decide +kernel
theorem dX0_flowOn_159 : decode cX0_flowOn 159 = .ok (.aload_n 0, 1) := by decide +kernel
theorem dX0_flowOn_160 : decode cX0_flowOn 160 = .ok (.getfield 28, 3) := by decide +kernel
theorem dX0_flowOn_163 : decode cX0_flowOn 163 = .ok (.iload 4, 2) := by decide +kernel
theorem dX0_flowOn_165 : decode cX0_flowOn 165 = .ok (.dup2, 1) := by decide +kernel
theorem dX0_flowOn_166 : decode cX0_flowOn 166 = .ok (.iaload, 1) := by decide +kernel
theorem dX0_flowOn_167 : decode cX0_flowOn 167 = .ok (.iload_n 1, 1) := by decide +kernel
theorem dX0_flowOn_168 : decode cX0_flowOn 168 = .ok (.iload 8, 2) := by decide +kernel
theorem dX0_flowOn_170 : decode cX0_flowOn 170 = .ok (.isub, 1) := by decide +kernel
theorem dX0_flowOn_171 : decode cX0_flowOn 171 = .ok (.iadd, 1) := by decide +kernel
theorem dX0_flowOn_172 : decode cX0_flowOn 172 = .ok (.iastore, 1) := by decide +kernel
theorem dX0_flowOn_173 : decode cX0_flowOn 173 = .ok (.aload_n 0, 1) := by decide +kernel
theorem dX0_flowOn_174 : decode cX0_flowOn 174 = .ok (.getfield 31, 3) := by decide +kernel
theorem dX0_flowOn_177 : decode cX0_flowOn 177 = .ok (.iload 4, 2) := by decide +kernel
theorem dX0_flowOn_179 : decode cX0_flowOn 179 = .ok (.dup2, 1) := by decide +kernel
theorem dX0_flowOn_180 : decode cX0_flowOn 180 = .ok (.iaload, 1) := by decide +kernel
theorem dX0_flowOn_181 : decode cX0_flowOn 181 = .ok (.iload_n 2, 1) := by decide +kernel
theorem dX0_flowOn_182 : decode cX0_flowOn 182 = .ok (.iload 7, 2) := by decide +kernel
theorem dX0_flowOn_184 : decode cX0_flowOn 184 = .ok (.isub, 1) := by decide +kernel
theorem dX0_flowOn_185 : decode cX0_flowOn 185 = .ok (.iadd, 1) := by decide +kernel
theorem dX0_flowOn_186 : decode cX0_flowOn 186 = .ok (.iastore, 1) := by decide +kernel
theorem dX0_flowOn_187 : decode cX0_flowOn 187 = .ok (.iload 8, 2) := by decide +kernel
theorem dX0_flowOn_189 : decode cX0_flowOn 189 = .ok (.istore_n 1, 1) := by decide +kernel
theorem dX0_flowOn_190 : decode cX0_flowOn 190 = .ok (.iload 7, 2) := by decide +kernel
theorem dX0_flowOn_192 : decode cX0_flowOn 192 = .ok (.istore_n 2, 1) := by decide +kernel
theorem dX0_flowOn_193 : decode cX0_flowOn 193 = .ok (.iinc 4 1, 3) := by decide +kernel
theorem dX0_flowOn_196 : decode cX0_flowOn 196 = .ok (.goto (-103), 3) := by decide +kernel
theorem dX0_flowOn_199 : decode cX0_flowOn 199 = .ok (.aload_n 0, 1) := by decide +kernel
theorem dX0_flowOn_200 : decode cX0_flowOn 200 = .ok (.getfield 22, 3) := by decide +kernel
theorem dX0_flowOn_203 : decode cX0_flowOn 203 = .ok (.bipush 7, 2) := by decide +kernel
theorem dX0_flowOn_205 : decode cX0_flowOn 205 = .ok (.dup2, 1) := by decide +kernel
theorem dX0_flowOn_206 : decode cX0_flowOn 206 = .ok (.iaload, 1) := by decide +kernel
theorem dX0_flowOn_207 : decode cX0_flowOn 207 = .ok (.iload_n 1, 1) := by decide +kernel
theorem dX0_flowOn_208 : decode cX0_flowOn 208 = .ok (.iadd, 1) := by decide +kernel
theorem dX0_flowOn_209 : decode cX0_flowOn 209 = .ok (.iastore, 1) := by decide +kernel
theorem dX0_flowOn_210 : decode cX0_flowOn 210 = .ok (.aload_n 0, 1) := by decide +kernel
theorem dX0_flowOn_211 : decode cX0_flowOn 211 = .ok (.getfield 22, 3) := by decide +kernel
theorem dX0_flowOn_214 : decode cX0_flowOn 214 = .ok (.bipush 8, 2) := by decide +kernel
theorem dX0_flowOn_216 : decode cX0_flowOn 216 = .ok (.dup2, 1) := by decide +kernel
theorem dX0_flowOn_217 : decode cX0_flowOn 217 = .ok (.iaload, 1) := by decide +kernel
theorem dX0_flowOn_218 : decode cX0_flowOn 218 = .ok (.iload_n 2, 1) := by decide +kernel
theorem dX0_flowOn_219 : decode cX0_flowOn 219 = .ok (.iadd, 1) := by decide +kernel
theorem dX0_flowOn_220 : decode cX0_flowOn 220 = .ok (.iastore, 1) := by decide +kernel
theorem dX0_flowOn_221 : decode cX0_flowOn 221 = .ok (.return_, 1) := by decide +kernel
set_option maxRecDepth 20000 in
theorem ggX0_flowFrom_X0_amount : GoodIn wsX0_flowFrom wsX0_amount := (by refine gI_c (gw 10 rfl rfl) ?_; refine gI_c (gw 11 rfl rfl) ?_; refine gI_c (gw 12 rfl rfl) ?_; refine gI_c (gw 19 rfl rfl) ?_; refine gI_c (gw 20 rfl rfl) ?_; refine gI_c (gw 21 rfl rfl) ?_; refine gI_c (gw 22 rfl rfl) ?_; refine gI_c (gw 23 rfl rfl) ?_; refine gI_c (gw 24 rfl rfl) ?_; refine gI_c (gw 25 rfl rfl) ?_; refine gI_c (gw 26 rfl rfl) ?_; refine gI_c (gw 27 rfl rfl) ?_; refine gI_c (gw 28 rfl rfl) ?_; refine gI_c (gw 29 rfl rfl) ?_; refine gI_c (gw 30 rfl rfl) ?_; exact gI_n)
set_option maxRecDepth 20000 in
theorem gX0_flowFrom_X0_amount : GoodIn wsX0_flowFrom (wsV RX0 96 RX0 yX0_amount wsX0_amount) := goodIn_app (goodIn_of _ (by decide +kernel)) ggX0_flowFrom_X0_amount
set_option maxRecDepth 20000 in
theorem ggX0_flowFrom_X0_effectBehind : GoodIn wsX0_flowFrom wsX0_effectBehind := (by refine gI_c (gw 16 rfl rfl) ?_; refine gI_c (gw 17 rfl rfl) ?_; refine gI_c (gw 18 rfl rfl) ?_; refine gI_c (gw 19 rfl rfl) ?_; refine gI_c (gw 20 rfl rfl) ?_; refine gI_c (gw 21 rfl rfl) ?_; refine gI_c (gw 22 rfl rfl) ?_; refine gI_c (gw 23 rfl rfl) ?_; refine gI_c (gw 24 rfl rfl) ?_; refine gI_c (gw 25 rfl rfl) ?_; refine gI_c (gw 26 rfl rfl) ?_; refine gI_c (gw 27 rfl rfl) ?_; refine gI_c (gw 28 rfl rfl) ?_; refine gI_c (gw 29 rfl rfl) ?_; refine gI_c (gw 30 rfl rfl) ?_; exact gI_n)
set_option maxRecDepth 20000 in
theorem gX0_flowFrom_X0_effectBehind : GoodIn wsX0_flowFrom (wsV RX0 93 RX0 yX0_effectBehind wsX0_effectBehind) := goodIn_app (goodIn_of _ (by decide +kernel)) ggX0_flowFrom_X0_effectBehind
theorem dX0_flowFrom_0 : decode cX0_flowFrom 0 = .ok (.aload_n 0, 1) := by decide +kernel
theorem dX0_flowFrom_1 : decode cX0_flowFrom 1 = .ok (.getfield 34, 3) := by decide +kernel
theorem dX0_flowFrom_4 : decode cX0_flowFrom 4 = .ok (.iload_n 1, 1) := by decide +kernel
theorem dX0_flowFrom_5 : decode cX0_flowFrom 5 = .ok (.iaload, 1) := by decide +kernel
theorem dX0_flowFrom_6 : decode cX0_flowFrom 6 = .ok (.aload_n 0, 1) := by decide +kernel
theorem dX0_flowFrom_7 : decode cX0_flowFrom 7 = .ok (.iload_n 1, 1) := by decide +kernel
theorem dX0_flowFrom_8 : decode cX0_flowFrom 8 = .ok (.invokevirtual 96, 3) := by decide +kernel
theorem dX0_flowFrom_11 : decode cX0_flowFrom 11 = .ok (.invokestatic 88, 3) := by decide +kernel
theorem dX0_flowFrom_14 : decode cX0_flowFrom 14 = .ok (.istore_n 2, 1) := by decide +kernel
theorem dX0_flowFrom_15 : decode cX0_flowFrom 15 = .ok (.aload_n 0, 1) := by decide +kernel
theorem dX0_flowFrom_16 : decode cX0_flowFrom 16 = .ok (.iload_n 1, 1) := by decide +kernel
theorem dX0_flowFrom_17 : decode cX0_flowFrom 17 = .ok (.invokevirtual 93, 3) := by decide +kernel
theorem dX0_flowFrom_20 : decode cX0_flowFrom 20 = .ok (.istore_n 3, 1) := by decide +kernel
theorem dX0_flowFrom_21 : decode cX0_flowFrom 21 = .ok (.iload_n 3, 1) := by decide +kernel
theorem dX0_flowFrom_22 : decode cX0_flowFrom 22 = .ok (.bipush (-9), 2) := by decide +kernel
theorem dX0_flowFrom_24 : decode cX0_flowFrom 24 = .ok (.if_icmp .ne 7, 3) := by decide +kernel
theorem dX0_flowFrom_27 : decode cX0_flowFrom 27 = .ok (.iload_n 2, 1) := by decide +kernel
theorem dX0_flowFrom_28 : decode cX0_flowFrom 28 = .ok (.goto 16, 3) := by decide +kernel
theorem dX0_flowFrom_31 : decode cX0_flowFrom 31 = .ok (.iload_n 2, 1) := by decide +kernel
theorem dX0_flowFrom_32 : decode cX0_flowFrom 32 = .ok (.sipush 5000, 3) := by decide +kernel
theorem dX0_flowFrom_35 : decode cX0_flowFrom 35 = .ok (.aload_n 0, 1) := by decide +kernel
theorem dX0_flowFrom_36 : decode cX0_flowFrom 36 = .ok (.iload_n 3, 1) := by decide +kernel
theorem dX0_flowFrom_37 : decode cX0_flowFrom 37 = .ok (.invokevirtual 96, 3) := by decide +kernel
theorem dX0_flowFrom_40 : decode cX0_flowFrom 40 = .ok (.isub, 1) := by decide +kernel
theorem dX0_flowFrom_41 : decode cX0_flowFrom 41 = .ok (.invokestatic 88, 3) := by decide +kernel
theorem dX0_flowFrom_44 : decode cX0_flowFrom 44 = .ok (.ireturn, 1) := by decide +kernel
theorem dX0_washOn_0 : decode cX0_washOn 0 = .ok (.iconst 0, 1) := by decide +kernel
theorem dX0_washOn_1 : decode cX0_washOn 1 = .ok (.istore_n 1, 1) := by decide +kernel
theorem dX0_washOn_2 : decode cX0_washOn 2 = .ok (.iload_n 1, 1) := by decide +kernel
theorem dX0_washOn_3 : decode cX0_washOn 3 = .ok (.aload_n 0, 1) := by decide +kernel
theorem dX0_washOn_4 : decode cX0_washOn 4 = .ok (.getfield 9, 3) := by decide +kernel
theorem dX0_washOn_7 : decode cX0_washOn 7 = .ok (.if_icmp .ge 46, 3) := by decide +kernel
theorem dX0_washOn_10 : decode cX0_washOn 10 = .ok (.aload_n 0, 1) := by decide +kernel
theorem dX0_washOn_11 : decode cX0_washOn 11 = .ok (.getfield 46, 3) := by decide +kernel
theorem dX0_washOn_14 : decode cX0_washOn 14 = .ok (.iload_n 1, 1) := by decide +kernel
theorem dX0_washOn_15 : decode cX0_washOn 15 = .ok (.iaload, 1) := by decide +kernel
theorem dX0_washOn_16 : decode cX0_washOn 16 = .ok (.ifCond .le 31, 3) := by decide +kernel
theorem dX0_washOn_19 : decode cX0_washOn 19 = .ok (.aload_n 0, 1) := by decide +kernel
theorem dX0_washOn_20 : decode cX0_washOn 20 = .ok (.getfield 40, 3) := by decide +kernel
theorem dX0_washOn_23 : decode cX0_washOn 23 = .ok (.iload_n 1, 1) := by decide +kernel
theorem dX0_washOn_24 : decode cX0_washOn 24 = .ok (.iconst 0, 1) := by decide +kernel
theorem dX0_washOn_25 : decode cX0_washOn 25 = .ok (.aload_n 0, 1) := by decide +kernel
theorem dX0_washOn_26 : decode cX0_washOn 26 = .ok (.getfield 40, 3) := by decide +kernel
theorem dX0_washOn_29 : decode cX0_washOn 29 = .ok (.iload_n 1, 1) := by decide +kernel
theorem dX0_washOn_30 : decode cX0_washOn 30 = .ok (.iaload, 1) := by decide +kernel
theorem dX0_washOn_31 : decode cX0_washOn 31 = .ok (.iconst 5, 1) := by decide +kernel
theorem dX0_washOn_32 : decode cX0_washOn 32 = .ok (.isub, 1) := by decide +kernel
theorem dX0_washOn_33 : decode cX0_washOn 33 = .ok (.invokestatic 102, 3) := by decide +kernel
theorem dX0_washOn_36 : decode cX0_washOn 36 = .ok (.iastore, 1) := by decide +kernel
theorem dX0_washOn_37 : decode cX0_washOn 37 = .ok (.aload_n 0, 1) := by decide +kernel
theorem dX0_washOn_38 : decode cX0_washOn 38 = .ok (.getfield 46, 3) := by decide +kernel
theorem dX0_washOn_41 : decode cX0_washOn 41 = .ok (.iload_n 1, 1) := by decide +kernel
theorem dX0_washOn_42 : decode cX0_washOn 42 = .ok (.dup2, 1) := by decide +kernel
theorem dX0_washOn_43 : decode cX0_washOn 43 = .ok (.iaload, 1) := by decide +kernel
theorem dX0_washOn_44 : decode cX0_washOn 44 = .ok (.iconst 1, 1) := by decide +kernel
theorem dX0_washOn_45 : decode cX0_washOn 45 = .ok (.isub, 1) := by decide +kernel
theorem dX0_washOn_46 : decode cX0_washOn 46 = .ok (.iastore, 1) := by decide +kernel
theorem dX0_washOn_47 : decode cX0_washOn 47 = .ok (.iinc 1 1, 3) := by decide +kernel
theorem dX0_washOn_50 : decode cX0_washOn 50 = .ok (.goto (-48), 3) := by decide +kernel
theorem dX0_washOn_53 : decode cX0_washOn 53 = .ok (.return_, 1) := by decide +kernel
theorem dJ9_max_7cf53_0 : decode cJ9_max_7cf53 0 = .ok (.iload_n 0, 1) := by decide +kernel
theorem dJ9_max_7cf53_1 : decode cJ9_max_7cf53 1 = .ok (.iload_n 1, 1) := by decide +kernel
theorem dJ9_max_7cf53_2 : decode cJ9_max_7cf53 2 = .ok (.if_icmp .lt 7, 3) := by decide +kernel
theorem dJ9_max_7cf53_5 : decode cJ9_max_7cf53 5 = .ok (.iload_n 0, 1) := by decide +kernel
theorem dJ9_max_7cf53_6 : decode cJ9_max_7cf53 6 = .ok (.goto 4, 3) := by decide +kernel
theorem dJ9_max_7cf53_9 : decode cJ9_max_7cf53 9 = .ok (.iload_n 1, 1) := by decide +kernel
theorem dJ9_max_7cf53_10 : decode cJ9_max_7cf53 10 = .ok (.ireturn, 1) := by decide +kernel
theorem dJ9_min_7cf53_0 : decode cJ9_min_7cf53 0 = .ok (.iload_n 0, 1) := by decide +kernel
theorem dJ9_min_7cf53_1 : decode cJ9_min_7cf53 1 = .ok (.iload_n 1, 1) := by decide +kernel
theorem dJ9_min_7cf53_2 : decode cJ9_min_7cf53 2 = .ok (.if_icmp .gt 7, 3) := by decide +kernel
theorem dJ9_min_7cf53_5 : decode cJ9_min_7cf53 5 = .ok (.iload_n 0, 1) := by decide +kernel
theorem dJ9_min_7cf53_6 : decode cJ9_min_7cf53 6 = .ok (.goto 4, 3) := by decide +kernel
theorem dJ9_min_7cf53_9 : decode cJ9_min_7cf53 9 = .ok (.iload_n 1, 1) := by decide +kernel
theorem dJ9_min_7cf53_10 : decode cJ9_min_7cf53 10 = .ok (.ireturn, 1) := by decide +kernel
theorem dJ7_fill_53178_0 : decode cJ7_fill_53178 0 = .ok (.iconst 0, 1) := by decide +kernel
theorem dJ7_fill_53178_1 : decode cJ7_fill_53178 1 = .ok (.istore_n 2, 1) := by decide +kernel
theorem dJ7_fill_53178_2 : decode cJ7_fill_53178 2 = .ok (.aload_n 0, 1) := by decide +kernel
theorem dJ7_fill_53178_3 : decode cJ7_fill_53178 3 = .ok (.arraylength, 1) := by decide +kernel
theorem dJ7_fill_53178_4 : decode cJ7_fill_53178 4 = .ok (.istore_n 3, 1) := by decide +kernel
theorem dJ7_fill_53178_5 : decode cJ7_fill_53178 5 = .ok (.iload_n 2, 1) := by decide +kernel
theorem dJ7_fill_53178_6 : decode cJ7_fill_53178 6 = .ok (.iload_n 3, 1) := by decide +kernel
theorem dJ7_fill_53178_7 : decode cJ7_fill_53178 7 = .ok (.if_icmp .ge 13, 3) := by decide +kernel
theorem dJ7_fill_53178_10 : decode cJ7_fill_53178 10 = .ok (.aload_n 0, 1) := by decide +kernel
theorem dJ7_fill_53178_11 : decode cJ7_fill_53178 11 = .ok (.iload_n 2, 1) := by decide +kernel
theorem dJ7_fill_53178_12 : decode cJ7_fill_53178 12 = .ok (.iload_n 1, 1) := by decide +kernel
theorem dJ7_fill_53178_13 : decode cJ7_fill_53178 13 = .ok (.iastore, 1) := by decide +kernel
theorem dJ7_fill_53178_14 : decode cJ7_fill_53178 14 = .ok (.iinc 2 1, 3) := by decide +kernel
theorem dJ7_fill_53178_17 : decode cJ7_fill_53178 17 = .ok (.goto (-12), 3) := by decide +kernel
theorem dJ7_fill_53178_20 : decode cJ7_fill_53178 20 = .ok (.return_, 1) := by decide +kernel
