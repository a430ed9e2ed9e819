theorem dX8_init_0 : decode cX8_init 0 = .ok (.aload_n 0, 1) := by decide +kernel
theorem dX8_init_1 : decode cX8_init 1 = .ok (.invokespecial 1, 3) := by decide +kernel
theorem dX8_init_4 : decode cX8_init 4 = .ok (.aload_n 0, 1) := by decide +kernel
theorem dX8_init_5 : decode cX8_init 5 = .ok (.bipush 120, 2) := by decide +kernel
theorem dX8_init_7 : decode cX8_init 7 = .ok (.newarray .int, 2) := by decide +kernel
theorem dX8_init_9 : decode cX8_init 9 = .ok (.putfield 7, 3) := by decide +kernel
theorem dX8_init_12 : decode cX8_init 12 = .ok (.aload_n 0, 1) := by decide +kernel
theorem dX8_init_13 : decode cX8_init 13 = .ok (.bipush 120, 2) := by decide +kernel
theorem dX8_init_15 : decode cX8_init 15 = .ok (.newarray .int, 2) := by decide +kernel
theorem dX8_init_17 : decode cX8_init 17 = .ok (.putfield 13, 3) := by decide +kernel
theorem dX8_init_20 : decode cX8_init 20 = .ok (.aload_n 0, 1) := by decide +kernel
theorem dX8_init_21 : decode cX8_init 21 = .ok (.bipush 8, 2) := by decide +kernel
theorem dX8_init_23 : decode cX8_init 23 = .ok (.newarray .int, 2) := by decide +kernel
theorem dX8_init_25 : decode cX8_init 25 = .ok (.putfield 16, 3) := by decide +kernel
theorem dX8_init_28 : decode cX8_init 28 = .ok (.aload_n 0, 1) := by decide +kernel
theorem dX8_init_29 : decode cX8_init 29 = .ok (.bipush 8, 2) := by decide +kernel
theorem dX8_init_31 : decode cX8_init 31 = .ok (.newarray .int, 2) := by decide +kernel
theorem dX8_init_33 : decode cX8_init 33 = .ok (.putfield 19, 3) := by decide +kernel
theorem dX8_init_36 : decode cX8_init 36 = .ok (.aload_n 0, 1) := by decide +kernel
theorem dX8_init_37 : decode cX8_init 37 = .ok (.bipush 8, 2) := by decide +kernel
theorem dX8_init_39 : decode cX8_init 39 = .ok (.newarray .int, 2) := by decide +kernel
theorem dX8_init_41 : decode cX8_init 41 = .ok (.putfield 22, 3) := by decide +kernel
theorem dX8_init_44 : decode cX8_init 44 = .ok (.aload_n 0, 1) := by decide +kernel
theorem dX8_init_45 : decode cX8_init 45 = .ok (.bipush 8, 2) := by decide +kernel
theorem dX8_init_47 : decode cX8_init 47 = .ok (.newarray .int, 2) := by decide +kernel
theorem dX8_init_49 : decode cX8_init 49 = .ok (.putfield 25, 3) := by decide +kernel
theorem dX8_init_52 : decode cX8_init 52 = .ok (.aload_n 0, 1) := by decide +kernel
theorem dX8_init_53 : decode cX8_init 53 = .ok (.bipush 8, 2) := by decide +kernel
theorem dX8_init_55 : decode cX8_init 55 = .ok (.newarray .int, 2) := by decide +kernel
theorem dX8_init_57 : decode cX8_init 57 = .ok (.putfield 28, 3) := by decide +kernel
theorem dX8_init_60 : decode cX8_init 60 = .ok (.aload_n 0, 1) := by decide +kernel
theorem dX8_init_61 : decode cX8_init 61 = .ok (.bipush 12, 2) := by decide +kernel
theorem dX8_init_63 : decode cX8_init 63 = .ok (.newarray .int, 2) := by decide +kernel
theorem dX8_init_65 : decode cX8_init 65 = .ok (.putfield 31, 3) := by decide +kernel
theorem dX8_init_68 : decode cX8_init 68 = .ok (.aload_n 0, 1) := by decide +kernel
theorem dX8_init_69 : decode cX8_init 69 = .ok (.bipush 12, 2) := by decide +kernel
theorem dX8_init_71 : decode cX8_init 71 = .ok (.newarray .int, 2) := by decide +kernel
theorem dX8_init_73 : decode cX8_init 73 = .ok (.putfield 34, 3) := by decide +kernel
theorem dX8_init_76 : decode cX8_init 76 = .ok (.aload_n 0, 1) := by decide +kernel
theorem dX8_init_77 : decode cX8_init 77 = .ok (.bipush 12, 2) := by decide +kernel
theorem dX8_init_79 : decode cX8_init 79 = .ok (.newarray .int, 2) := by decide +kernel
theorem dX8_init_81 : decode cX8_init 81 = .ok (.putfield 37, 3) := by decide +kernel
theorem dX8_init_84 : decode cX8_init 84 = .ok (.aload_n 0, 1) := by decide +kernel
theorem dX8_init_85 : decode cX8_init 85 = .ok (.bipush 12, 2) := by decide +kernel
theorem dX8_init_87 : decode cX8_init 87 = .ok (.newarray .int, 2) := by decide +kernel
theorem dX8_init_89 : decode cX8_init 89 = .ok (.putfield 40, 3) := by decide +kernel
theorem dX8_init_92 : decode cX8_init 92 = .ok (.aload_n 0, 1) := by decide +kernel
theorem dX8_init_93 : decode cX8_init 93 = .ok (.bipush 6, 2) := by decide +kernel
theorem dX8_init_95 : decode cX8_init 95 = .ok (.newarray .int, 2) := by decide +kernel
theorem dX8_init_97 : decode cX8_init 97 = .ok (.putfield 43, 3) := by decide +kernel
theorem dX8_init_100 : decode cX8_init 100 = .ok (.aload_n 0, 1) := by decide +kernel
theorem dX8_init_101 : decode cX8_init 101 = .ok (.bipush 6, 2) := by decide +kernel
theorem dX8_init_103 : decode cX8_init 103 = .ok (.newarray .int, 2) := by decide +kernel
theorem dX8_init_105 : decode cX8_init 105 = .ok (.putfield 46, 3) := by decide +kernel
theorem dX8_init_108 : decode cX8_init 108 = .ok (.aload_n 0, 1) := by decide +kernel
theorem dX8_init_109 : decode cX8_init 109 = .ok (.bipush 6, 2) := by decide +kernel
theorem dX8_init_111 : decode cX8_init 111 = .ok (.newarray .int, 2) := by decide +kernel
theorem dX8_init_113 : decode cX8_init 113 = .ok (.putfield 49, 3) := by decide +kernel
theorem dX8_init_116 : decode cX8_init 116 = .ok (.aload_n 0, 1) := by decide +kernel
theorem dX8_init_117 : decode cX8_init 117 = .ok (.sipush 240, 3) := by decide +kernel
theorem dX8_init_120 : decode cX8_init 120 = .ok (.newarray .int, 2) := by decide +kernel
theorem dX8_init_122 : decode cX8_init 122 = .ok (.putfield 52, 3) := by decide +kernel
theorem dX8_init_125 : decode cX8_init 125 = .ok (.aload_n 0, 1) := by decide +kernel
theorem dX8_init_126 : decode cX8_init 126 = .ok (.bipush (-4), 2) := by decide +kernel
theorem dX8_init_128 : decode cX8_init 128 = .ok (.putfield 55, 3) := by decide +kernel
theorem dX8_init_131 : decode cX8_init 131 = .ok (.aload_n 0, 1) := by decide +kernel
theorem dX8_init_132 : decode cX8_init 132 = .ok (.bipush 41, 2) := by decide +kernel
theorem dX8_init_134 : decode cX8_init 134 = .ok (.newarray .int, 2) := by decide +kernel
theorem dX8_init_136 : decode cX8_init 136 = .ok (.putfield 59, 3) := by decide +kernel
theorem dX8_init_139 : decode cX8_init 139 = .ok (.aload_n 0, 1) := by decide +kernel
theorem dX8_init_140 : decode cX8_init 140 = .ok (.bipush 41, 2) := by decide +kernel
theorem dX8_init_142 : decode cX8_init 142 = .ok (.newarray .int, 2) := by decide +kernel
theorem dX8_init_144 : decode cX8_init 144 = .ok (.putfield 62, 3) := by decide +kernel
theorem dX8_init_147 : decode cX8_init 147 = .ok (.return_, 1) := by decide +kernel
theorem dX8_in_0 : decode cX8_in 0 = .ok (.lload_n 0, 1) := by decide +kernel
theorem dX8_in_1 : decode cX8_in 1 = .ok (.lload_n 2, 1) := by decide +kernel
theorem dX8_in_2 : decode cX8_in 2 = .ok (.lcmp, 1) := by decide +kernel
theorem dX8_in_3 : decode cX8_in 3 = .ok (.ifCond .lt 14, 3) := by decide +kernel
theorem dX8_in_6 : decode cX8_in 6 = .ok (.lload_n 0, 1) := by decide +kernel
theorem dX8_in_7 : decode cX8_in 7 = .ok (.lload 4, 2) := by decide +kernel
theorem dX8_in_9 : decode cX8_in 9 = .ok (.lcmp, 1) := by decide +kernel
theorem dX8_in_10 : decode cX8_in 10 = .ok (.ifCond .gt 7, 3) := by decide +kernel
theorem dX8_in_13 : decode cX8_in 13 = .ok (.iconst 1, 1) := by decide +kernel
theorem dX8_in_14 : decode cX8_in 14 = .ok (.goto 4, 3) := by decide +kernel
theorem dX8_in_17 : decode cX8_in 17 = .ok (.iconst 0, 1) := by decide +kernel
theorem dX8_in_18 : decode cX8_in 18 = .ok (.ireturn, 1) := by decide +kernel
theorem dX8_isCard_0 : decode cX8_isCard 0 = .ok (.iload_n 1, 1) := by decide +kernel
theorem dX8_isCard_1 : decode cX8_isCard 1 = .ok (.i2l, 1) := by decide +kernel
theorem dX8_isCard_2 : decode cX8_isCard 2 = .ok (.lconst 0, 1) := by decide +kernel
theorem dX8_isCard_3 : decode cX8_isCard 3 = .ok (.aload_n 0, 1) := by decide +kernel
theorem dX8_isCard_4 : decode cX8_isCard 4 = .ok (.getfield 65, 3) := by decide +kernel
theorem dX8_isCard_7 : decode cX8_isCard 7 = .ok (.iconst 1, 1) := by decide +kernel
theorem dX8_isCard_8 : decode cX8_isCard 8 = .ok (.isub, 1) := by decide +kernel
theorem dX8_isCard_9 : decode cX8_isCard 9 = .ok (.i2l, 1) := by decide +kernel
theorem dX8_isCard_10 : decode cX8_isCard 10 = .ok (.invokestatic 68, 3) := by decide +kernel
theorem dX8_isCard_13 : decode cX8_isCard 13 = .ok (.ireturn, 1) := by decide +kernel
theorem dX8_isHook_0 : decode cX8_isHook 0 = .ok (.iload_n 1, 1) := by decide +kernel
theorem dX8_isHook_1 : decode cX8_isHook 1 = .ok (.i2l, 1) := by decide +kernel
theorem dX8_isHook_2 : decode cX8_isHook 2 = .ok (.lconst 0, 1) := by decide +kernel
theorem dX8_isHook_3 : decode cX8_isHook 3 = .ok (.aload_n 0, 1) := by decide +kernel
theorem dX8_isHook_4 : decode cX8_isHook 4 = .ok (.getfield 72, 3) := by decide +kernel
theorem dX8_isHook_7 : decode cX8_isHook 7 = .ok (.iconst 1, 1) := by decide +kernel
theorem dX8_isHook_8 : decode cX8_isHook 8 = .ok (.isub, 1) := by decide +kernel
theorem dX8_isHook_9 : decode cX8_isHook 9 = .ok (.i2l, 1) := by decide +kernel
theorem dX8_isHook_10 : decode cX8_isHook 10 = .ok (.invokestatic 68, 3) := by decide +kernel
theorem dX8_isHook_13 : decode cX8_isHook 13 = .ok (.ireturn, 1) := by decide +kernel
theorem dX8_isTray_0 : decode cX8_isTray 0 = .ok (.iload_n 1, 1) := by decide +kernel
theorem dX8_isTray_1 : decode cX8_isTray 1 = .ok (.i2l, 1) := by decide +kernel
theorem dX8_isTray_2 : decode cX8_isTray 2 = .ok (.lconst 0, 1) := by decide +kernel
theorem dX8_isTray_3 : decode cX8_isTray 3 = .ok (.aload_n 0, 1) := by decide +kernel
theorem dX8_isTray_4 : decode cX8_isTray 4 = .ok (.getfield 75, 3) := by decide +kernel
theorem dX8_isTray_7 : decode cX8_isTray 7 = .ok (.iconst 1, 1) := by decide +kernel
theorem dX8_isTray_8 : decode cX8_isTray 8 = .ok (.isub, 1) := by decide +kernel
theorem dX8_isTray_9 : decode cX8_isTray 9 = .ok (.i2l, 1) := by decide +kernel
theorem dX8_isTray_10 : decode cX8_isTray 10 = .ok (.invokestatic 68, 3) := by decide +kernel
theorem dX8_isTray_13 : decode cX8_isTray 13 = .ok (.ireturn, 1) := by decide +kernel
theorem dX8_compares_0 : decode cX8_compares 0 = .ok (.aload_n 0, 1) := by decide +kernel
theorem dX8_compares_1 : decode cX8_compares 1 = .ok (.getfield 16, 3) := by decide +kernel
theorem dX8_compares_4 : decode cX8_compares 4 = .ok (.iload_n 1, 1) := by decide +kernel
theorem dX8_compares_5 : decode cX8_compares 5 = .ok (.iaload, 1) := by decide +kernel
theorem dX8_compares_6 : decode cX8_compares 6 = .ok (.iconst 2, 1) := by decide +kernel
theorem dX8_compares_7 : decode cX8_compares 7 = .ok (.if_icmp .gt 7, 3) := by decide +kernel
theorem dX8_compares_10 : decode cX8_compares 10 = .ok (.iconst 1, 1) := by decide +kernel
theorem dX8_compares_11 : decode cX8_compares 11 = .ok (.goto 4, 3) := by decide +kernel
theorem dX8_compares_14 : decode cX8_compares 14 = .ok (.iconst 0, 1) := by decide +kernel
theorem dX8_compares_15 : decode cX8_compares 15 = .ok (.ireturn, 1) := by decide +kernel
theorem dX8_card_0 : decode cX8_card 0 = .ok (.iload_n 2, 1) := by decide +kernel
theorem dX8_card_1 : decode cX8_card 1 = .ok (.i2l, 1) := by decide +kernel
theorem dX8_card_2 : decode cX8_card 2 = .ok (.lconst 0, 1) := by decide +kernel
theorem dX8_card_3 : decode cX8_card 3 = .ok (.ldc2_w 78, 3) := by decide +kernel
theorem dX8_card_6 : decode cX8_card 6 = .ok (.invokestatic 68, 3) := by decide +kernel
theorem dX8_card_9 : decode cX8_card 9 = .ok (.ifCond .ne 5, 3) := by decide +kernel
theorem dX8_card_12 : decode cX8_card 12 = .ok (.iconst (-1), 1) := by decide +kernel
theorem dX8_card_13 : decode cX8_card 13 = .ok (.ireturn, 1) := by decide +kernel
theorem dX8_card_14 : decode cX8_card 14 = .ok (.aload_n 0, 1) := by decide +kernel
theorem dX8_card_15 : decode cX8_card 15 = .ok (.getfield 65, 3) := by decide +kernel
theorem dX8_card_18 : decode cX8_card 18 = .ok (.bipush 120, 2) := by decide +kernel
theorem dX8_card_20 : decode cX8_card 20 = .ok (.if_icmp .ne 6, 3) := by decide +kernel
theorem dX8_card_23 : decode cX8_card 23 = .ok (.bipush (-3), 2) := by decide +kernel
theorem dX8_card_25 : decode cX8_card 25 = .ok (.ireturn, 1) := by decide +kernel
theorem dX8_card_26 : decode cX8_card 26 = .ok (.aload_n 0, 1) := by decide +kernel
theorem dX8_card_27 : decode cX8_card 27 = .ok (.getfield 7, 3) := by decide +kernel
theorem dX8_card_30 : decode cX8_card 30 = .ok (.aload_n 0, 1) := by decide +kernel
theorem dX8_card_31 : decode cX8_card 31 = .ok (.getfield 65, 3) := by decide +kernel
theorem dX8_card_34 : decode cX8_card 34 = .ok (.iload_n 1, 1) := by decide +kernel
theorem dX8_card_35 : decode cX8_card 35 = .ok (.iastore, 1) := by decide +kernel
theorem dX8_card_36 : decode cX8_card 36 = .ok (.aload_n 0, 1) := by decide +kernel
theorem dX8_card_37 : decode cX8_card 37 = .ok (.getfield 13, 3) := by decide +kernel
theorem dX8_card_40 : decode cX8_card 40 = .ok (.aload_n 0, 1) := by decide +kernel
theorem dX8_card_41 : decode cX8_card 41 = .ok (.getfield 65, 3) := by decide +kernel
theorem dX8_card_44 : decode cX8_card 44 = .ok (.iload_n 2, 1) := by decide +kernel
theorem dX8_card_45 : decode cX8_card 45 = .ok (.iastore, 1) := by decide +kernel
theorem dX8_card_46 : decode cX8_card 46 = .ok (.aload_n 0, 1) := by decide +kernel
theorem dX8_card_47 : decode cX8_card 47 = .ok (.dup, 1) := by decide +kernel
theorem dX8_card_48 : decode cX8_card 48 = .ok (.getfield 65, 3) := by decide +kernel
theorem dX8_card_51 : decode cX8_card 51 = .ok (.iconst 1, 1) := by decide +kernel
theorem dX8_card_52 : decode cX8_card 52 = .ok (.iadd, 1) := by decide +kernel
theorem dX8_card_53 : decode cX8_card 53 = .ok (.putfield 65, 3) := by decide +kernel
theorem dX8_card_56 : decode cX8_card 56 = .ok (.aload_n 0, 1) := by decide +kernel
theorem dX8_card_57 : decode cX8_card 57 = .ok (.getfield 65, 3) := by decide +kernel
theorem dX8_card_60 : decode cX8_card 60 = .ok (.iconst 1, 1) := by decide +kernel
theorem dX8_card_61 : decode cX8_card 61 = .ok (.isub, 1) := by decide +kernel
theorem dX8_card_62 : decode cX8_card 62 = .ok (.ireturn, 1) := by decide +kernel
theorem dX8_told_0 : decode cX8_told 0 = .ok (.aload_n 0, 1) := by decide +kernel
theorem dX8_told_1 : decode cX8_told 1 = .ok (.iload_n 1, 1) := by decide +kernel
theorem dX8_told_2 : decode cX8_told 2 = .ok (.invokevirtual 80, 3) := by decide +kernel
theorem dX8_told_5 : decode cX8_told 5 = .ok (.ifCond .eq 13, 3) := by decide +kernel
theorem dX8_told_8 : decode cX8_told 8 = .ok (.iload_n 2, 1) := by decide +kernel
theorem dX8_told_9 : decode cX8_told 9 = .ok (.i2l, 1) := by decide +kernel
theorem dX8_told_10 : decode cX8_told 10 = .ok (.lconst 0, 1) := by decide +kernel
theorem dX8_told_11 : decode cX8_told 11 = .ok (.lconst 1, 1) := by decide +kernel
theorem dX8_told_12 : decode cX8_told 12 = .ok (.invokestatic 68, 3) := by decide +kernel
theorem dX8_told_15 : decode cX8_told 15 = .ok (.ifCond .ne 9, 3) := by decide +kernel
theorem dX8_told_18 : decode cX8_told 18 = .ok (.ldc2_w 84, 3) := by decide +kernel
theorem dX8_told_21 : decode cX8_told 21 = .ok (.goto 24, 3) := by decide +kernel
theorem dX8_told_24 : decode cX8_told 24 = .ok (.iload_n 2, 1) := by decide +kernel
theorem dX8_told_25 : decode cX8_told 25 = .ok (.ifCond .ne 13, 3) := by decide +kernel
theorem dX8_told_28 : decode cX8_told 28 = .ok (.aload_n 0, 1) := by decide +kernel
theorem dX8_told_29 : decode cX8_told 29 = .ok (.getfield 7, 3) := by decide +kernel
theorem dX8_told_32 : decode cX8_told 32 = .ok (.iload_n 1, 1) := by decide +kernel
theorem dX8_told_33 : decode cX8_told 33 = .ok (.iaload, 1) := by decide +kernel
theorem dX8_told_34 : decode cX8_told 34 = .ok (.i2l, 1) := by decide +kernel
theorem dX8_told_35 : decode cX8_told 35 = .ok (.goto 10, 3) := by decide +kernel
theorem dX8_told_38 : decode cX8_told 38 = .ok (.aload_n 0, 1) := by decide +kernel
theorem dX8_told_39 : decode cX8_told 39 = .ok (.getfield 13, 3) := by decide +kernel
theorem dX8_told_42 : decode cX8_told 42 = .ok (.iload_n 1, 1) := by decide +kernel
theorem dX8_told_43 : decode cX8_told 43 = .ok (.iaload, 1) := by decide +kernel
theorem dX8_told_44 : decode cX8_told 44 = .ok (.i2l, 1) := by decide +kernel
theorem dX8_told_45 : decode cX8_told 45 = .ok (.lreturn, 1) := by decide +kernel
theorem dX8_hook_0 : decode cX8_hook 0 = .ok (.iload_n 1, 1) := by decide +kernel
theorem dX8_hook_1 : decode cX8_hook 1 = .ok (.i2l, 1) := by decide +kernel
theorem dX8_hook_2 : decode cX8_hook 2 = .ok (.lconst 0, 1) := by decide +kernel
theorem dX8_hook_3 : decode cX8_hook 3 = .ok (.ldc2_w 86, 3) := by decide +kernel
theorem dX8_hook_6 : decode cX8_hook 6 = .ok (.invokestatic 68, 3) := by decide +kernel
theorem dX8_hook_9 : decode cX8_hook 9 = .ok (.ifCond .ne 5, 3) := by decide +kernel
theorem dX8_hook_12 : decode cX8_hook 12 = .ok (.iconst (-1), 1) := by decide +kernel
theorem dX8_hook_13 : decode cX8_hook 13 = .ok (.ireturn, 1) := by decide +kernel
theorem dX8_hook_14 : decode cX8_hook 14 = .ok (.aload_n 0, 1) := by decide +kernel
theorem dX8_hook_15 : decode cX8_hook 15 = .ok (.getfield 72, 3) := by decide +kernel
theorem dX8_hook_18 : decode cX8_hook 18 = .ok (.bipush 8, 2) := by decide +kernel
theorem dX8_hook_20 : decode cX8_hook 20 = .ok (.if_icmp .ne 6, 3) := by decide +kernel
theorem dX8_hook_23 : decode cX8_hook 23 = .ok (.bipush (-3), 2) := by decide +kernel
theorem dX8_hook_25 : decode cX8_hook 25 = .ok (.ireturn, 1) := by decide +kernel
theorem dX8_hook_26 : decode cX8_hook 26 = .ok (.aload_n 0, 1) := by decide +kernel
theorem dX8_hook_27 : decode cX8_hook 27 = .ok (.getfield 16, 3) := by decide +kernel
theorem dX8_hook_30 : decode cX8_hook 30 = .ok (.aload_n 0, 1) := by decide +kernel
theorem dX8_hook_31 : decode cX8_hook 31 = .ok (.getfield 72, 3) := by decide +kernel
theorem dX8_hook_34 : decode cX8_hook 34 = .ok (.iload_n 1, 1) := by decide +kernel
theorem dX8_hook_35 : decode cX8_hook 35 = .ok (.iastore, 1) := by decide +kernel
theorem dX8_hook_36 : decode cX8_hook 36 = .ok (.aload_n 0, 1) := by decide +kernel
theorem dX8_hook_37 : decode cX8_hook 37 = .ok (.getfield 19, 3) := by decide +kernel
theorem dX8_hook_40 : decode cX8_hook 40 = .ok (.aload_n 0, 1) := by decide +kernel
theorem dX8_hook_41 : decode cX8_hook 41 = .ok (.getfield 72, 3) := by decide +kernel
theorem dX8_hook_44 : decode cX8_hook 44 = .ok (.iload_n 2, 1) := by decide +kernel
theorem dX8_hook_45 : decode cX8_hook 45 = .ok (.iastore, 1) := by decide +kernel
theorem dX8_hook_46 : decode cX8_hook 46 = .ok (.aload_n 0, 1) := by decide +kernel
theorem dX8_hook_47 : decode cX8_hook 47 = .ok (.dup, 1) := by decide +kernel
theorem dX8_hook_48 : decode cX8_hook 48 = .ok (.getfield 72, 3) := by decide +kernel
theorem dX8_hook_51 : decode cX8_hook 51 = .ok (.iconst 1, 1) := by decide +kernel
theorem dX8_hook_52 : decode cX8_hook 52 = .ok (.iadd, 1) := by decide +kernel
theorem dX8_hook_53 : decode cX8_hook 53 = .ok (.putfield 72, 3) := by decide +kernel
theorem dX8_hook_56 : decode cX8_hook 56 = .ok (.aload_n 0, 1) := by decide +kernel
theorem dX8_hook_57 : decode cX8_hook 57 = .ok (.getfield 72, 3) := by decide +kernel
theorem dX8_hook_60 : decode cX8_hook 60 = .ok (.iconst 1, 1) := by decide +kernel
theorem dX8_hook_61 : decode cX8_hook 61 = .ok (.isub, 1) := by decide +kernel
theorem dX8_hook_62 : decode cX8_hook 62 = .ok (.ireturn, 1) := by decide +kernel
theorem dX8_planOf_0 : decode cX8_planOf 0 = .ok (.bipush (-4), 2) := by decide +kernel
theorem dX8_planOf_2 : decode cX8_planOf 2 = .ok (.istore_n 3, 1) := by decide +kernel
theorem dX8_planOf_3 : decode cX8_planOf 3 = .ok (.iconst 0, 1) := by decide +kernel
theorem dX8_planOf_4 : decode cX8_planOf 4 = .ok (.istore 4, 2) := by decide +kernel
theorem dX8_planOf_6 : decode cX8_planOf 6 = .ok (.iload 4, 2) := by decide +kernel
theorem dX8_planOf_8 : decode cX8_planOf 8 = .ok (.aload_n 0, 1) := by decide +kernel
theorem dX8_planOf_9 : decode cX8_planOf 9 = .ok (.getfield 88, 3) := by decide +kernel
theorem dX8_planOf_12 : decode cX8_planOf 12 = .ok (.if_icmp .ge 38, 3) := by decide +kernel
theorem dX8_planOf_15 : decode cX8_planOf 15 = .ok (.aload_n 0, 1) := by decide +kernel
theorem dX8_planOf_16 : decode cX8_planOf 16 = .ok (.getfield 31, 3) := by decide +kernel
theorem dX8_planOf_19 : decode cX8_planOf 19 = .ok (.iload 4, 2) := by decide +kernel
theorem dX8_planOf_21 : decode cX8_planOf 21 = .ok (.iaload, 1) := by decide +kernel
theorem dX8_planOf_22 : decode cX8_planOf 22 = .ok (.iload_n 1, 1) := by decide +kernel
theorem dX8_planOf_23 : decode cX8_planOf 23 = .ok (.if_icmp .ne 19, 3) := by decide +kernel
theorem dX8_planOf_26 : decode cX8_planOf 26 = .ok (.aload_n 0, 1) := by decide +kernel
theorem dX8_planOf_27 : decode cX8_planOf 27 = .ok (.getfield 34, 3) := by decide +kernel
theorem dX8_planOf_30 : decode cX8_planOf 30 = .ok (.iload 4, 2) := by decide +kernel
theorem dX8_planOf_32 : decode cX8_planOf 32 = .ok (.iaload, 1) := by decide +kernel
theorem dX8_planOf_33 : decode cX8_planOf 33 = .ok (.iload_n 2, 1) := by decide +kernel
theorem dX8_planOf_34 : decode cX8_planOf 34 = .ok (.if_icmp .ne 8, 3) := by decide +kernel
theorem dX8_planOf_37 : decode cX8_planOf 37 = .ok (.iload 4, 2) := by decide +kernel
theorem dX8_planOf_39 : decode cX8_planOf 39 = .ok (.goto 4, 3) := by decide +kernel
theorem dX8_planOf_42 : decode cX8_planOf 42 = .ok (.iload_n 3, 1) := by decide +kernel
theorem dX8_planOf_43 : decode cX8_planOf 43 = .ok (.istore_n 3, 1) := by decide +kernel
theorem dX8_planOf_44 : decode cX8_planOf 44 = .ok (.iinc 4 1, 3) := by decide +kernel
theorem dX8_planOf_47 : decode cX8_planOf 47 = .ok (.goto (-41), 3) := by decide +kernel
theorem dX8_planOf_50 : decode cX8_planOf 50 = .ok (.iload_n 3, 1) := by decide +kernel
theorem dX8_planOf_51 : decode cX8_planOf 51 = .ok (.ireturn, 1) := by decide +kernel
theorem dX8_dropPlan_0 : decode cX8_dropPlan 0 = .ok (.aload_n 0, 1) := by decide +kernel
theorem dX8_dropPlan_1 : decode cX8_dropPlan 1 = .ok (.dup, 1) := by decide +kernel
theorem dX8_dropPlan_2 : decode cX8_dropPlan 2 = .ok (.getfield 88, 3) := by decide +kernel
theorem dX8_dropPlan_5 : decode cX8_dropPlan 5 = .ok (.iconst 1, 1) := by decide +kernel
theorem dX8_dropPlan_6 : decode cX8_dropPlan 6 = .ok (.isub, 1) := by decide +kernel
theorem dX8_dropPlan_7 : decode cX8_dropPlan 7 = .ok (.putfield 88, 3) := by decide +kernel
theorem dX8_dropPlan_10 : decode cX8_dropPlan 10 = .ok (.aload_n 0, 1) := by decide +kernel
theorem dX8_dropPlan_11 : decode cX8_dropPlan 11 = .ok (.getfield 31, 3) := by decide +kernel
theorem dX8_dropPlan_14 : decode cX8_dropPlan 14 = .ok (.iload_n 1, 1) := by decide +kernel
theorem dX8_dropPlan_15 : decode cX8_dropPlan 15 = .ok (.aload_n 0, 1) := by decide +kernel
theorem dX8_dropPlan_16 : decode cX8_dropPlan 16 = .ok (.getfield 31, 3) := by decide +kernel
theorem dX8_dropPlan_19 : decode cX8_dropPlan 19 = .ok (.aload_n 0, 1) := by decide +kernel
theorem dX8_dropPlan_20 : decode cX8_dropPlan 20 = .ok (.getfield 88, 3) := by decide +kernel
theorem dX8_dropPlan_23 : decode cX8_dropPlan 23 = .ok (.iaload, 1) := by decide +kernel
theorem dX8_dropPlan_24 : decode cX8_dropPlan 24 = .ok (.iastore, 1) := by decide +kernel
theorem dX8_dropPlan_25 : decode cX8_dropPlan 25 = .ok (.aload_n 0, 1) := by decide +kernel
theorem dX8_dropPlan_26 : decode cX8_dropPlan 26 = .ok (.getfield 34, 3) := by decide +kernel
theorem dX8_dropPlan_29 : decode cX8_dropPlan 29 = .ok (.iload_n 1, 1) := by decide +kernel
theorem dX8_dropPlan_30 : decode cX8_dropPlan 30 = .ok (.aload_n 0, 1) := by decide +kernel
theorem dX8_dropPlan_31 : decode cX8_dropPlan 31 = .ok (.getfield 34, 3) := by decide +kernel
theorem dX8_dropPlan_34 : decode cX8_dropPlan 34 = .ok (.aload_n 0, 1) := by decide +kernel
theorem dX8_dropPlan_35 : decode cX8_dropPlan 35 = .ok (.getfield 88, 3) := by decide +kernel
theorem dX8_dropPlan_38 : decode cX8_dropPlan 38 = .ok (.iaload, 1) := by decide +kernel
theorem dX8_dropPlan_39 : decode cX8_dropPlan 39 = .ok (.iastore, 1) := by decide +kernel
theorem dX8_dropPlan_40 : decode cX8_dropPlan 40 = .ok (.aload_n 0, 1) := by decide +kernel
theorem dX8_dropPlan_41 : decode cX8_dropPlan 41 = .ok (.getfield 37, 3) := by decide +kernel
theorem dX8_dropPlan_44 : decode cX8_dropPlan 44 = .ok (.iload_n 1, 1) := by decide +kernel
theorem dX8_dropPlan_45 : decode cX8_dropPlan 45 = .ok (.aload_n 0, 1) := by decide +kernel
theorem dX8_dropPlan_46 : decode cX8_dropPlan 46 = .ok (.getfield 37, 3) := by decide +kernel
theorem dX8_dropPlan_49 : decode cX8_dropPlan 49 = .ok (.aload_n 0, 1) := by decide +kernel
theorem dX8_dropPlan_50 : decode cX8_dropPlan 50 = .ok (.getfield 88, 3) := by decide +kernel
theorem dX8_dropPlan_53 : decode cX8_dropPlan 53 = .ok (.iaload, 1) := by decide +kernel
theorem dX8_dropPlan_54 : decode cX8_dropPlan 54 = .ok (.iastore, 1) := by decide +kernel
theorem dX8_dropPlan_55 : decode cX8_dropPlan 55 = .ok (.aload_n 0, 1) := by decide +kernel
theorem dX8_dropPlan_56 : decode cX8_dropPlan 56 = .ok (.getfield 40, 3) := by decide +kernel
theorem dX8_dropPlan_59 : decode cX8_dropPlan 59 = .ok (.iload_n 1, 1) := by decide +kernel
theorem dX8_dropPlan_60 : decode cX8_dropPlan 60 = .ok (.aload_n 0, 1) := by decide +kernel
theorem dX8_dropPlan_61 : decode cX8_dropPlan 61 = .ok (.getfield 40, 3) := by decide +kernel
theorem dX8_dropPlan_64 : decode cX8_dropPlan 64 = .ok (.aload_n 0, 1) := by decide +kernel
theorem dX8_dropPlan_65 : decode cX8_dropPlan 65 = .ok (.getfield 88, 3) := by decide +kernel
theorem dX8_dropPlan_68 : decode cX8_dropPlan 68 = .ok (.iaload, 1) := by decide +kernel
theorem dX8_dropPlan_69 : decode cX8_dropPlan 69 = .ok (.iastore, 1) := by decide +kernel
theorem dX8_dropPlan_70 : decode cX8_dropPlan 70 = .ok (.return_, 1) := by decide +kernel
theorem dX8_plan_0 : decode cX8_plan 0 = .ok (.aload_n 0, 1) := by decide +kernel
theorem dX8_plan_1 : decode cX8_plan 1 = .ok (.iload_n 1, 1) := by decide +kernel
theorem dX8_plan_2 : decode cX8_plan 2 = .ok (.invokevirtual 91, 3) := by decide +kernel
theorem dX8_plan_5 : decode cX8_plan 5 = .ok (.ifCond .eq 44, 3) := by decide +kernel
theorem dX8_plan_8 : decode cX8_plan 8 = .ok (.iload_n 2, 1) := by decide +kernel
theorem dX8_plan_9 : decode cX8_plan 9 = .ok (.i2l, 1) := by decide +kernel
theorem dX8_plan_10 : decode cX8_plan 10 = .ok (.lconst 1, 1) := by decide +kernel
theorem dX8_plan_11 : decode cX8_plan 11 = .ok (.ldc2_w 94, 3) := by decide +kernel
theorem dX8_plan_14 : decode cX8_plan 14 = .ok (.invokestatic 68, 3) := by decide +kernel
theorem dX8_plan_17 : decode cX8_plan 17 = .ok (.ifCond .eq 32, 3) := by decide +kernel
theorem dX8_plan_20 : decode cX8_plan 20 = .ok (.iload_n 3, 1) := by decide +kernel
theorem dX8_plan_21 : decode cX8_plan 21 = .ok (.i2l, 1) := by decide +kernel
theorem dX8_plan_22 : decode cX8_plan 22 = .ok (.lconst 0, 1) := by decide +kernel
theorem dX8_plan_23 : decode cX8_plan 23 = .ok (.ldc2_w 96, 3) := by decide +kernel
theorem dX8_plan_26 : decode cX8_plan 26 = .ok (.invokestatic 68, 3) := by decide +kernel
theorem dX8_plan_29 : decode cX8_plan 29 = .ok (.ifCond .eq 20, 3) := by decide +kernel
theorem dX8_plan_32 : decode cX8_plan 32 = .ok (.iload_n 3, 1) := by decide +kernel
theorem dX8_plan_33 : decode cX8_plan 33 = .ok (.ifCond .ne 18, 3) := by decide +kernel
theorem dX8_plan_36 : decode cX8_plan 36 = .ok (.iload 4, 2) := by decide +kernel
theorem dX8_plan_38 : decode cX8_plan 38 = .ok (.i2l, 1) := by decide +kernel
theorem dX8_plan_39 : decode cX8_plan 39 = .ok (.lconst 1, 1) := by decide +kernel
theorem dX8_plan_40 : decode cX8_plan 40 = .ok (.ldc2_w 78, 3) := by decide +kernel
theorem dX8_plan_43 : decode cX8_plan 43 = .ok (.invokestatic 68, 3) := by decide +kernel
theorem dX8_plan_46 : decode cX8_plan 46 = .ok (.ifCond .ne 5, 3) := by decide +kernel
theorem dX8_plan_49 : decode cX8_plan 49 = .ok (.iconst (-1), 1) := by decide +kernel
theorem dX8_plan_50 : decode cX8_plan 50 = .ok (.ireturn, 1) := by decide +kernel
theorem dX8_plan_51 : decode cX8_plan 51 = .ok (.aload_n 0, 1) := by decide +kernel
theorem dX8_plan_52 : decode cX8_plan 52 = .ok (.iload_n 1, 1) := by decide +kernel
theorem dX8_plan_53 : decode cX8_plan 53 = .ok (.aload_n 0, 1) := by decide +kernel
theorem dX8_plan_54 : decode cX8_plan 54 = .ok (.getfield 22, 3) := by decide +kernel
theorem dX8_plan_57 : decode cX8_plan 57 = .ok (.iload_n 1, 1) := by decide +kernel
theorem dX8_plan_58 : decode cX8_plan 58 = .ok (.iaload, 1) := by decide +kernel
theorem dX8_plan_59 : decode cX8_plan 59 = .ok (.iload_n 2, 1) := by decide +kernel
theorem dX8_plan_60 : decode cX8_plan 60 = .ok (.iadd, 1) := by decide +kernel
theorem dX8_plan_61 : decode cX8_plan 61 = .ok (.invokevirtual 98, 3) := by decide +kernel
theorem dX8_plan_64 : decode cX8_plan 64 = .ok (.istore 5, 2) := by decide +kernel
theorem dX8_plan_66 : decode cX8_plan 66 = .ok (.iload 5, 2) := by decide +kernel
theorem dX8_plan_68 : decode cX8_plan 68 = .ok (.bipush (-4), 2) := by decide +kernel
theorem dX8_plan_70 : decode cX8_plan 70 = .ok (.if_icmp .ne 15, 3) := by decide +kernel
theorem dX8_plan_73 : decode cX8_plan 73 = .ok (.aload_n 0, 1) := by decide +kernel
theorem dX8_plan_74 : decode cX8_plan 74 = .ok (.getfield 88, 3) := by decide +kernel
theorem dX8_plan_77 : decode cX8_plan 77 = .ok (.bipush 12, 2) := by decide +kernel
theorem dX8_plan_79 : decode cX8_plan 79 = .ok (.if_icmp .ne 6, 3) := by decide +kernel
theorem dX8_plan_82 : decode cX8_plan 82 = .ok (.bipush (-3), 2) := by decide +kernel
theorem dX8_plan_84 : decode cX8_plan 84 = .ok (.ireturn, 1) := by decide +kernel
theorem dX8_plan_85 : decode cX8_plan 85 = .ok (.iload 5, 2) := by decide +kernel
theorem dX8_plan_87 : decode cX8_plan 87 = .ok (.bipush (-4), 2) := by decide +kernel
theorem dX8_plan_89 : decode cX8_plan 89 = .ok (.if_icmp .eq 9, 3) := by decide +kernel
theorem dX8_plan_92 : decode cX8_plan 92 = .ok (.aload_n 0, 1) := by decide +kernel
theorem dX8_plan_93 : decode cX8_plan 93 = .ok (.iload 5, 2) := by decide +kernel
theorem dX8_plan_95 : decode cX8_plan 95 = .ok (.invokevirtual 102, 3) := by decide +kernel
theorem dX8_plan_98 : decode cX8_plan 98 = .ok (.aload_n 0, 1) := by decide +kernel
theorem dX8_plan_99 : decode cX8_plan 99 = .ok (.getfield 31, 3) := by decide +kernel
theorem dX8_plan_102 : decode cX8_plan 102 = .ok (.aload_n 0, 1) := by decide +kernel
theorem dX8_plan_103 : decode cX8_plan 103 = .ok (.getfield 88, 3) := by decide +kernel
theorem dX8_plan_106 : decode cX8_plan 106 = .ok (.iload_n 1, 1) := by decide +kernel
theorem dX8_plan_107 : decode cX8_plan 107 = .ok (.iastore, 1) := by decide +kernel
theorem dX8_plan_108 : decode cX8_plan 108 = .ok (.aload_n 0, 1) := by decide +kernel
theorem dX8_plan_109 : decode cX8_plan 109 = .ok (.getfield 34, 3) := by decide +kernel
theorem dX8_plan_112 : decode cX8_plan 112 = .ok (.aload_n 0, 1) := by decide +kernel
theorem dX8_plan_113 : decode cX8_plan 113 = .ok (.getfield 88, 3) := by decide +kernel
theorem dX8_plan_116 : decode cX8_plan 116 = .ok (.aload_n 0, 1) := by decide +kernel
theorem dX8_plan_117 : decode cX8_plan 117 = .ok (.getfield 22, 3) := by decide +kernel
theorem dX8_plan_120 : decode cX8_plan 120 = .ok (.iload_n 1, 1) := by decide +kernel
theorem dX8_plan_121 : decode cX8_plan 121 = .ok (.iaload, 1) := by decide +kernel
theorem dX8_plan_122 : decode cX8_plan 122 = .ok (.iload_n 2, 1) := by decide +kernel
theorem dX8_plan_123 : decode cX8_plan 123 = .ok (.iadd, 1) := by decide +kernel
theorem dX8_plan_124 : decode cX8_plan 124 = .ok (.iastore, 1) := by decide +kernel
theorem dX8_plan_125 : decode cX8_plan 125 = .ok (.aload_n 0, 1) := by decide +kernel
theorem dX8_plan_126 : decode cX8_plan 126 = .ok (.getfield 37, 3) := by decide +kernel
theorem dX8_plan_129 : decode cX8_plan 129 = .ok (.aload_n 0, 1) := by decide +kernel
theorem dX8_plan_130 : decode cX8_plan 130 = .ok (.getfield 88, 3) := by decide +kernel
theorem dX8_plan_133 : decode cX8_plan 133 = .ok (.iload_n 3, 1) := by decide +kernel
theorem dX8_plan_134 : decode cX8_plan 134 = .ok (.iastore, 1) := by decide +kernel
theorem dX8_plan_135 : decode cX8_plan 135 = .ok (.aload_n 0, 1) := by decide +kernel
theorem dX8_plan_136 : decode cX8_plan 136 = .ok (.getfield 40, 3) := by decide +kernel
theorem dX8_plan_139 : decode cX8_plan 139 = .ok (.aload_n 0, 1) := by decide +kernel
theorem dX8_plan_140 : decode cX8_plan 140 = .ok (.getfield 88, 3) := by decide +kernel
theorem dX8_plan_143 : decode cX8_plan 143 = .ok (.iload 4, 2) := by decide +kernel
theorem dX8_plan_145 : decode cX8_plan 145 = .ok (.iastore, 1) := by decide +kernel
theorem dX8_plan_146 : decode cX8_plan 146 = .ok (.aload_n 0, 1) := by decide +kernel
theorem dX8_plan_147 : decode cX8_plan 147 = .ok (.dup, 1) := by decide +kernel
theorem dX8_plan_148 : decode cX8_plan 148 = .ok (.getfield 88, 3) := by decide +kernel
theorem dX8_plan_151 : decode cX8_plan 151 = .ok (.iconst 1, 1) := by decide +kernel
theorem dX8_plan_152 : decode cX8_plan 152 = .ok (.iadd, 1) := by decide +kernel
theorem dX8_plan_153 : decode cX8_plan 153 = .ok (.putfield 88, 3) := by decide +kernel
theorem dX8_plan_156 : decode cX8_plan 156 = .ok (.aload_n 0, 1) := by decide +kernel
theorem dX8_plan_157 : decode cX8_plan 157 = .ok (.getfield 88, 3) := by decide +kernel
theorem dX8_plan_160 : decode cX8_plan 160 = .ok (.ireturn, 1) := by decide +kernel
theorem dX8_clearPlans_0 : decode cX8_clearPlans 0 = .ok (.aload_n 0, 1) := by decide +kernel
theorem dX8_clearPlans_1 : decode cX8_clearPlans 1 = .ok (.getfield 88, 3) := by decide +kernel
theorem dX8_clearPlans_4 : decode cX8_clearPlans 4 = .ok (.istore_n 1, 1) := by decide +kernel
theorem dX8_clearPlans_5 : decode cX8_clearPlans 5 = .ok (.aload_n 0, 1) := by decide +kernel
theorem dX8_clearPlans_6 : decode cX8_clearPlans 6 = .ok (.iconst 0, 1) := by decide +kernel
theorem dX8_clearPlans_7 : decode cX8_clearPlans 7 = .ok (.putfield 88, 3) := by decide +kernel
theorem dX8_clearPlans_10 : decode cX8_clearPlans 10 = .ok (.iload_n 1, 1) := by decide +kernel
theorem dX8_clearPlans_11 : decode cX8_clearPlans 11 = .ok (.ireturn, 1) := by decide +kernel
theorem dX8_about_0 : decode cX8_about 0 = .ok (.aload_n 0, 1) := by decide +kernel
theorem dX8_about_1 : decode cX8_about 1 = .ok (.iload_n 1, 1) := by decide +kernel
theorem dX8_about_2 : decode cX8_about 2 = .ok (.invokevirtual 91, 3) := by decide +kernel
theorem dX8_about_5 : decode cX8_about 5 = .ok (.ifCond .eq 15, 3) := by decide +kernel
theorem dX8_about_8 : decode cX8_about 8 = .ok (.iload_n 2, 1) := by decide +kernel
theorem dX8_about_9 : decode cX8_about 9 = .ok (.i2l, 1) := by decide +kernel
theorem dX8_about_10 : decode cX8_about 10 = .ok (.lconst 0, 1) := by decide +kernel
theorem dX8_about_11 : decode cX8_about 11 = .ok (.ldc2_w 86, 3) := by decide +kernel
theorem dX8_about_14 : decode cX8_about 14 = .ok (.invokestatic 68, 3) := by decide +kernel
theorem dX8_about_17 : decode cX8_about 17 = .ok (.ifCond .ne 5, 3) := by decide +kernel
theorem dX8_about_20 : decode cX8_about 20 = .ok (.iconst (-1), 1) := by decide +kernel
theorem dX8_about_21 : decode cX8_about 21 = .ok (.ireturn, 1) := by decide +kernel
theorem dX8_about_22 : decode cX8_about 22 = .ok (.iload_n 2, 1) := by decide +kernel
theorem dX8_about_23 : decode cX8_about 23 = .ok (.iconst 4, 1) := by decide +kernel
theorem dX8_about_24 : decode cX8_about 24 = .ok (.if_icmp .ge 51, 3) := by decide +kernel
theorem dX8_about_27 : decode cX8_about 27 = .ok (.iload_n 2, 1) := by decide +kernel
theorem dX8_about_28 : decode cX8_about 28 = .ok (.ifCond .ne 12, 3) := by decide +kernel
theorem dX8_about_31 : decode cX8_about 31 = .ok (.aload_n 0, 1) := by decide +kernel
theorem dX8_about_32 : decode cX8_about 32 = .ok (.getfield 16, 3) := by decide +kernel
theorem dX8_about_35 : decode cX8_about 35 = .ok (.iload_n 1, 1) := by decide +kernel
theorem dX8_about_36 : decode cX8_about 36 = .ok (.iaload, 1) := by decide +kernel
theorem dX8_about_37 : decode cX8_about 37 = .ok (.goto 37, 3) := by decide +kernel
theorem dX8_about_40 : decode cX8_about 40 = .ok (.iload_n 2, 1) := by decide +kernel
theorem dX8_about_41 : decode cX8_about 41 = .ok (.iconst 1, 1) := by decide +kernel
theorem dX8_about_42 : decode cX8_about 42 = .ok (.if_icmp .ne 12, 3) := by decide +kernel
theorem dX8_about_45 : decode cX8_about 45 = .ok (.aload_n 0, 1) := by decide +kernel
theorem dX8_about_46 : decode cX8_about 46 = .ok (.getfield 22, 3) := by decide +kernel
theorem dX8_about_49 : decode cX8_about 49 = .ok (.iload_n 1, 1) := by decide +kernel
theorem dX8_about_50 : decode cX8_about 50 = .ok (.iaload, 1) := by decide +kernel
theorem dX8_about_51 : decode cX8_about 51 = .ok (.goto 23, 3) := by decide +kernel
theorem dX8_about_54 : decode cX8_about 54 = .ok (.iload_n 2, 1) := by decide +kernel
theorem dX8_about_55 : decode cX8_about 55 = .ok (.iconst 2, 1) := by decide +kernel
theorem dX8_about_56 : decode cX8_about 56 = .ok (.if_icmp .ne 12, 3) := by decide +kernel
theorem dX8_about_59 : decode cX8_about 59 = .ok (.aload_n 0, 1) := by decide +kernel
theorem dX8_about_60 : decode cX8_about 60 = .ok (.getfield 25, 3) := by decide +kernel
theorem dX8_about_63 : decode cX8_about 63 = .ok (.iload_n 1, 1) := by decide +kernel
theorem dX8_about_64 : decode cX8_about 64 = .ok (.iaload, 1) := by decide +kernel
theorem dX8_about_65 : decode cX8_about 65 = .ok (.goto 9, 3) := by decide +kernel
theorem dX8_about_68 : decode cX8_about 68 = .ok (.aload_n 0, 1) := by decide +kernel
theorem dX8_about_69 : decode cX8_about 69 = .ok (.getfield 28, 3) := by decide +kernel
theorem dX8_about_72 : decode cX8_about 72 = .ok (.iload_n 1, 1) := by decide +kernel
theorem dX8_about_73 : decode cX8_about 73 = .ok (.iaload, 1) := by decide +kernel
theorem dX8_about_74 : decode cX8_about 74 = .ok (.ireturn, 1) := by decide +kernel
theorem dX8_about_75 : decode cX8_about 75 = .ok (.iconst 0, 1) := by decide +kernel
theorem dX8_about_76 : decode cX8_about 76 = .ok (.istore_n 3, 1) := by decide +kernel
theorem dX8_about_77 : decode cX8_about 77 = .ok (.iconst 0, 1) := by decide +kernel
theorem dX8_about_78 : decode cX8_about 78 = .ok (.istore 4, 2) := by decide +kernel
theorem dX8_about_80 : decode cX8_about 80 = .ok (.iload 4, 2) := by decide +kernel
theorem dX8_about_82 : decode cX8_about 82 = .ok (.aload_n 0, 1) := by decide +kernel
theorem dX8_about_83 : decode cX8_about 83 = .ok (.getfield 88, 3) := by decide +kernel
theorem dX8_about_86 : decode cX8_about 86 = .ok (.if_icmp .ge 28, 3) := by decide +kernel
theorem dX8_about_89 : decode cX8_about 89 = .ok (.iload_n 3, 1) := by decide +kernel
theorem dX8_about_90 : decode cX8_about 90 = .ok (.aload_n 0, 1) := by decide +kernel
theorem dX8_about_91 : decode cX8_about 91 = .ok (.getfield 31, 3) := by decide +kernel
theorem dX8_about_94 : decode cX8_about 94 = .ok (.iload 4, 2) := by decide +kernel
theorem dX8_about_96 : decode cX8_about 96 = .ok (.iaload, 1) := by decide +kernel
theorem dX8_about_97 : decode cX8_about 97 = .ok (.iload_n 1, 1) := by decide +kernel
theorem dX8_about_98 : decode cX8_about 98 = .ok (.if_icmp .ne 7, 3) := by decide +kernel
theorem dX8_about_101 : decode cX8_about 101 = .ok (.iconst 1, 1) := by decide +kernel
theorem dX8_about_102 : decode cX8_about 102 = .ok (.goto 4, 3) := by decide +kernel
theorem dX8_about_105 : decode cX8_about 105 = .ok (.iconst 0, 1) := by decide +kernel
theorem dX8_about_106 : decode cX8_about 106 = .ok (.iadd, 1) := by decide +kernel
theorem dX8_about_107 : decode cX8_about 107 = .ok (.istore_n 3, 1) := by decide +kernel
theorem dX8_about_108 : decode cX8_about 108 = .ok (.iinc 4 1, 3) := by decide +kernel
theorem dX8_about_111 : decode cX8_about 111 = .ok (.goto (-31), 3) := by decide +kernel
theorem dX8_about_114 : decode cX8_about 114 = .ok (.iload_n 3, 1) := by decide +kernel
theorem dX8_about_115 : decode cX8_about 115 = .ok (.ireturn, 1) := by decide +kernel
theorem dX8_begins_0 : decode cX8_begins 0 = .ok (.aload_n 0, 1) := by decide +kernel
theorem dX8_begins_1 : decode cX8_begins 1 = .ok (.getfield 22, 3) := by decide +kernel
theorem dX8_begins_4 : decode cX8_begins 4 = .ok (.iload_n 1, 1) := by decide +kernel
theorem dX8_begins_5 : decode cX8_begins 5 = .ok (.dup2, 1) := by decide +kernel
theorem dX8_begins_6 : decode cX8_begins 6 = .ok (.iaload, 1) := by decide +kernel
theorem dX8_begins_7 : decode cX8_begins 7 = .ok (.iconst 1, 1) := by decide +kernel
theorem dX8_begins_8 : decode cX8_begins 8 = .ok (.iadd, 1) := by decide +kernel
theorem dX8_begins_9 : decode cX8_begins 9 = .ok (.iastore, 1) := by decide +kernel
theorem dX8_begins_10 : decode cX8_begins 10 = .ok (.aload_n 0, 1) := by decide +kernel
theorem dX8_begins_11 : decode cX8_begins 11 = .ok (.getfield 25, 3) := by decide +kernel
theorem dX8_begins_14 : decode cX8_begins 14 = .ok (.iload_n 1, 1) := by decide +kernel
theorem dX8_begins_15 : decode cX8_begins 15 = .ok (.dup2, 1) := by decide +kernel
theorem dX8_begins_16 : decode cX8_begins 16 = .ok (.iaload, 1) := by decide +kernel
theorem dX8_begins_17 : decode cX8_begins 17 = .ok (.iconst 1, 1) := by decide +kernel
theorem dX8_begins_18 : decode cX8_begins 18 = .ok (.iadd, 1) := by decide +kernel
theorem dX8_begins_19 : decode cX8_begins 19 = .ok (.iastore, 1) := by decide +kernel
theorem dX8_begins_20 : decode cX8_begins 20 = .ok (.aload_n 0, 1) := by decide +kernel
theorem dX8_begins_21 : decode cX8_begins 21 = .ok (.iload_n 1, 1) := by decide +kernel
theorem dX8_begins_22 : decode cX8_begins 22 = .ok (.aload_n 0, 1) := by decide +kernel
theorem dX8_begins_23 : decode cX8_begins 23 = .ok (.getfield 22, 3) := by decide +kernel
theorem dX8_begins_26 : decode cX8_begins 26 = .ok (.iload_n 1, 1) := by decide +kernel
theorem dX8_begins_27 : decode cX8_begins 27 = .ok (.iaload, 1) := by decide +kernel
theorem dX8_begins_28 : decode cX8_begins 28 = .ok (.invokevirtual 98, 3) := by decide +kernel
theorem dX8_begins_31 : decode cX8_begins 31 = .ok (.istore_n 2, 1) := by decide +kernel
theorem dX8_begins_32 : decode cX8_begins 32 = .ok (.iload_n 2, 1) := by decide +kernel
theorem dX8_begins_33 : decode cX8_begins 33 = .ok (.bipush (-4), 2) := by decide +kernel
theorem dX8_begins_35 : decode cX8_begins 35 = .ok (.if_icmp .ne 5, 3) := by decide +kernel
theorem dX8_begins_38 : decode cX8_begins 38 = .ok (.iconst 0, 1) := by decide +kernel
theorem dX8_begins_39 : decode cX8_begins 39 = .ok (.ireturn, 1) := by decide +kernel
theorem dX8_begins_40 : decode cX8_begins 40 = .ok (.aload_n 0, 1) := by decide +kernel
theorem dX8_begins_41 : decode cX8_begins 41 = .ok (.getfield 37, 3) := by decide +kernel
theorem dX8_begins_44 : decode cX8_begins 44 = .ok (.iload_n 2, 1) := by decide +kernel
theorem dX8_begins_45 : decode cX8_begins 45 = .ok (.iaload, 1) := by decide +kernel
theorem dX8_begins_46 : decode cX8_begins 46 = .ok (.istore_n 3, 1) := by decide +kernel
theorem dX8_begins_47 : decode cX8_begins 47 = .ok (.aload_n 0, 1) := by decide +kernel
theorem dX8_begins_48 : decode cX8_begins 48 = .ok (.getfield 40, 3) := by decide +kernel
theorem dX8_begins_51 : decode cX8_begins 51 = .ok (.iload_n 2, 1) := by decide +kernel
theorem dX8_begins_52 : decode cX8_begins 52 = .ok (.iaload, 1) := by decide +kernel
theorem dX8_begins_53 : decode cX8_begins 53 = .ok (.istore 4, 2) := by decide +kernel
theorem dX8_begins_55 : decode cX8_begins 55 = .ok (.aload_n 0, 1) := by decide +kernel
theorem dX8_begins_56 : decode cX8_begins 56 = .ok (.iload_n 2, 1) := by decide +kernel
theorem dX8_begins_57 : decode cX8_begins 57 = .ok (.invokevirtual 102, 3) := by decide +kernel
theorem dX8_begins_60 : decode cX8_begins 60 = .ok (.iload_n 3, 1) := by decide +kernel
theorem dX8_begins_61 : decode cX8_begins 61 = .ok (.ifCond .ne 29, 3) := by decide +kernel
theorem dX8_begins_64 : decode cX8_begins 64 = .ok (.aload_n 0, 1) := by decide +kernel
theorem dX8_begins_65 : decode cX8_begins 65 = .ok (.iconst 1, 1) := by decide +kernel
theorem dX8_begins_66 : decode cX8_begins 66 = .ok (.putfield 106, 3) := by decide +kernel
theorem dX8_begins_69 : decode cX8_begins 69 = .ok (.aload_n 0, 1) := by decide +kernel
theorem dX8_begins_70 : decode cX8_begins 70 = .ok (.iload 4, 2) := by decide +kernel
theorem dX8_begins_72 : decode cX8_begins 72 = .ok (.putfield 110, 3) := by decide +kernel
theorem dX8_begins_75 : decode cX8_begins 75 = .ok (.aload_n 0, 1) := by decide +kernel
theorem dX8_begins_76 : decode cX8_begins 76 = .ok (.iload_n 1, 1) := by decide +kernel
theorem dX8_begins_77 : decode cX8_begins 77 = .ok (.putfield 55, 3) := by decide +kernel
theorem dX8_begins_80 : decode cX8_begins 80 = .ok (.aload_n 0, 1) := by decide +kernel
theorem dX8_begins_81 : decode cX8_begins 81 = .ok (.aload_n 0, 1) := by decide +kernel
theorem dX8_begins_82 : decode cX8_begins 82 = .ok (.getfield 22, 3) := by decide +kernel
theorem dX8_begins_85 : decode cX8_begins 85 = .ok (.iload_n 1, 1) := by decide +kernel
theorem dX8_begins_86 : decode cX8_begins 86 = .ok (.iaload, 1) := by decide +kernel
theorem dX8_begins_87 : decode cX8_begins 87 = .ok (.putfield 113, 3) := by decide +kernel
theorem dX8_begins_90 : decode cX8_begins 90 = .ok (.aload_n 0, 1) := by decide +kernel
theorem dX8_begins_91 : decode cX8_begins 91 = .ok (.getfield 28, 3) := by decide +kernel
theorem dX8_begins_94 : decode cX8_begins 94 = .ok (.iload_n 1, 1) := by decide +kernel
theorem dX8_begins_95 : decode cX8_begins 95 = .ok (.dup2, 1) := by decide +kernel
theorem dX8_begins_96 : decode cX8_begins 96 = .ok (.iaload, 1) := by decide +kernel
theorem dX8_begins_97 : decode cX8_begins 97 = .ok (.iload_n 3, 1) := by decide +kernel
theorem dX8_begins_98 : decode cX8_begins 98 = .ok (.iconst 2, 1) := by decide +kernel
theorem dX8_begins_99 : decode cX8_begins 99 = .ok (.if_icmp .ne 7, 3) := by decide +kernel
theorem dX8_begins_102 : decode cX8_begins 102 = .ok (.iconst 1, 1) := by decide +kernel
theorem dX8_begins_103 : decode cX8_begins 103 = .ok (.goto 4, 3) := by decide +kernel
theorem dX8_begins_106 : decode cX8_begins 106 = .ok (.iconst 0, 1) := by decide +kernel
theorem dX8_begins_107 : decode cX8_begins 107 = .ok (.iadd, 1) := by decide +kernel
theorem dX8_begins_108 : decode cX8_begins 108 = .ok (.iastore, 1) := by decide +kernel
theorem dX8_begins_109 : decode cX8_begins 109 = .ok (.iload_n 3, 1) := by decide +kernel
theorem dX8_begins_110 : decode cX8_begins 110 = .ok (.iconst 1, 1) := by decide +kernel
theorem dX8_begins_111 : decode cX8_begins 111 = .ok (.if_icmp .ne 7, 3) := by decide +kernel
theorem dX8_begins_114 : decode cX8_begins 114 = .ok (.iconst 1, 1) := by decide +kernel
theorem dX8_begins_115 : decode cX8_begins 115 = .ok (.goto 4, 3) := by decide +kernel
theorem dX8_begins_118 : decode cX8_begins 118 = .ok (.iconst 0, 1) := by decide +kernel
theorem dX8_begins_119 : decode cX8_begins 119 = .ok (.ireturn, 1) := by decide +kernel
theorem dX8_sign_0 : decode cX8_sign 0 = .ok (.iload_n 0, 1) := by decide +kernel
theorem dX8_sign_1 : decode cX8_sign 1 = .ok (.iload_n 1, 1) := by decide +kernel
theorem dX8_sign_2 : decode cX8_sign 2 = .ok (.if_icmp .ge 7, 3) := by decide +kernel
theorem dX8_sign_5 : decode cX8_sign 5 = .ok (.iconst (-1), 1) := by decide +kernel
theorem dX8_sign_6 : decode cX8_sign 6 = .ok (.goto 13, 3) := by decide +kernel
theorem dX8_sign_9 : decode cX8_sign 9 = .ok (.iload_n 0, 1) := by decide +kernel
theorem dX8_sign_10 : decode cX8_sign 10 = .ok (.iload_n 1, 1) := by decide +kernel
theorem dX8_sign_11 : decode cX8_sign 11 = .ok (.if_icmp .le 7, 3) := by decide +kernel
theorem dX8_sign_14 : decode cX8_sign 14 = .ok (.iconst 1, 1) := by decide +kernel
theorem dX8_sign_15 : decode cX8_sign 15 = .ok (.goto 4, 3) := by decide +kernel
theorem dX8_sign_18 : decode cX8_sign 18 = .ok (.iconst 0, 1) := by decide +kernel
theorem dX8_sign_19 : decode cX8_sign 19 = .ok (.ireturn, 1) := by decide +kernel
theorem dX8_truth_0 : decode cX8_truth 0 = .ok (.aload_n 0, 1) := by decide +kernel
theorem dX8_truth_1 : decode cX8_truth 1 = .ok (.getfield 7, 3) := by decide +kernel
theorem dX8_truth_4 : decode cX8_truth 4 = .ok (.iload_n 2, 1) := by decide +kernel
theorem dX8_truth_5 : decode cX8_truth 5 = .ok (.iaload, 1) := by decide +kernel
theorem dX8_truth_6 : decode cX8_truth 6 = .ok (.aload_n 0, 1) := by decide +kernel
theorem dX8_truth_7 : decode cX8_truth 7 = .ok (.getfield 7, 3) := by decide +kernel
theorem dX8_truth_10 : decode cX8_truth 10 = .ok (.iload_n 3, 1) := by decide +kernel
theorem dX8_truth_11 : decode cX8_truth 11 = .ok (.iaload, 1) := by decide +kernel
theorem dX8_truth_12 : decode cX8_truth 12 = .ok (.invokestatic 116, 3) := by decide +kernel
theorem dX8_truth_15 : decode cX8_truth 15 = .ok (.istore 4, 2) := by decide +kernel
theorem dX8_truth_17 : decode cX8_truth 17 = .ok (.aload_n 0, 1) := by decide +kernel
theorem dX8_truth_18 : decode cX8_truth 18 = .ok (.getfield 16, 3) := by decide +kernel
theorem dX8_truth_21 : decode cX8_truth 21 = .ok (.iload_n 1, 1) := by decide +kernel
theorem dX8_truth_22 : decode cX8_truth 22 = .ok (.iaload, 1) := by decide +kernel
theorem dX8_truth_23 : decode cX8_truth 23 = .ok (.iconst 2, 1) := by decide +kernel
theorem dX8_truth_24 : decode cX8_truth 24 = .ok (.if_icmp .ne 39, 3) := by decide +kernel
theorem dX8_truth_27 : decode cX8_truth 27 = .ok (.aload_n 0, 1) := by decide +kernel
theorem dX8_truth_28 : decode cX8_truth 28 = .ok (.getfield 13, 3) := by decide +kernel
theorem dX8_truth_31 : decode cX8_truth 31 = .ok (.iload_n 2, 1) := by decide +kernel
theorem dX8_truth_32 : decode cX8_truth 32 = .ok (.iaload, 1) := by decide +kernel
theorem dX8_truth_33 : decode cX8_truth 33 = .ok (.aload_n 0, 1) := by decide +kernel
theorem dX8_truth_34 : decode cX8_truth 34 = .ok (.getfield 13, 3) := by decide +kernel
theorem dX8_truth_37 : decode cX8_truth 37 = .ok (.iload_n 3, 1) := by decide +kernel
theorem dX8_truth_38 : decode cX8_truth 38 = .ok (.iaload, 1) := by decide +kernel
theorem dX8_truth_39 : decode cX8_truth 39 = .ok (.if_icmp .eq 21, 3) := by decide +kernel
theorem dX8_truth_42 : decode cX8_truth 42 = .ok (.aload_n 0, 1) := by decide +kernel
theorem dX8_truth_43 : decode cX8_truth 43 = .ok (.getfield 13, 3) := by decide +kernel
theorem dX8_truth_46 : decode cX8_truth 46 = .ok (.iload_n 2, 1) := by decide +kernel
theorem dX8_truth_47 : decode cX8_truth 47 = .ok (.iaload, 1) := by decide +kernel
theorem dX8_truth_48 : decode cX8_truth 48 = .ok (.aload_n 0, 1) := by decide +kernel
theorem dX8_truth_49 : decode cX8_truth 49 = .ok (.getfield 13, 3) := by decide +kernel
theorem dX8_truth_52 : decode cX8_truth 52 = .ok (.iload_n 3, 1) := by decide +kernel
theorem dX8_truth_53 : decode cX8_truth 53 = .ok (.iaload, 1) := by decide +kernel
theorem dX8_truth_54 : decode cX8_truth 54 = .ok (.invokestatic 116, 3) := by decide +kernel
theorem dX8_truth_57 : decode cX8_truth 57 = .ok (.goto 5, 3) := by decide +kernel
theorem dX8_truth_60 : decode cX8_truth 60 = .ok (.iload 4, 2) := by decide +kernel
theorem dX8_truth_62 : decode cX8_truth 62 = .ok (.ireturn, 1) := by decide +kernel
theorem dX8_truth_63 : decode cX8_truth 63 = .ok (.aload_n 0, 1) := by decide +kernel
theorem dX8_truth_64 : decode cX8_truth 64 = .ok (.getfield 16, 3) := by decide +kernel
theorem dX8_truth_67 : decode cX8_truth 67 = .ok (.iload_n 1, 1) := by decide +kernel
theorem dX8_truth_68 : decode cX8_truth 68 = .ok (.iaload, 1) := by decide +kernel
theorem dX8_truth_69 : decode cX8_truth 69 = .ok (.ifCond .ne 8, 3) := by decide +kernel
theorem dX8_truth_72 : decode cX8_truth 72 = .ok (.iload 4, 2) := by decide +kernel
theorem dX8_truth_74 : decode cX8_truth 74 = .ok (.goto 6, 3) := by decide +kernel
theorem dX8_truth_77 : decode cX8_truth 77 = .ok (.iload 4, 2) := by decide +kernel
theorem dX8_truth_79 : decode cX8_truth 79 = .ok (.ineg, 1) := by decide +kernel
theorem dX8_truth_80 : decode cX8_truth 80 = .ok (.ireturn, 1) := by decide +kernel
theorem dX8_isAhead_0 : decode cX8_isAhead 0 = .ok (.aload_n 0, 1) := by decide +kernel
theorem dX8_isAhead_1 : decode cX8_isAhead 1 = .ok (.iload_n 1, 1) := by decide +kernel
theorem dX8_isAhead_2 : decode cX8_isAhead 2 = .ok (.invokevirtual 119, 3) := by decide +kernel
theorem dX8_isAhead_5 : decode cX8_isAhead 5 = .ok (.istore 4, 2) := by decide +kernel
theorem dX8_isAhead_7 : decode cX8_isAhead 7 = .ok (.aload_n 0, 1) := by decide +kernel
theorem dX8_isAhead_8 : decode cX8_isAhead 8 = .ok (.iload_n 1, 1) := by decide +kernel
theorem dX8_isAhead_9 : decode cX8_isAhead 9 = .ok (.iload_n 2, 1) := by decide +kernel
theorem dX8_isAhead_10 : decode cX8_isAhead 10 = .ok (.iload_n 3, 1) := by decide +kernel
theorem dX8_isAhead_11 : decode cX8_isAhead 11 = .ok (.invokevirtual 122, 3) := by decide +kernel
theorem dX8_isAhead_14 : decode cX8_isAhead 14 = .ok (.istore 5, 2) := by decide +kernel
theorem dX8_isAhead_16 : decode cX8_isAhead 16 = .ok (.aload_n 0, 1) := by decide +kernel
theorem dX8_isAhead_17 : decode cX8_isAhead 17 = .ok (.getfield 106, 3) := by decide +kernel
theorem dX8_isAhead_20 : decode cX8_isAhead 20 = .ok (.ifCond .ne 25, 3) := by decide +kernel
theorem dX8_isAhead_23 : decode cX8_isAhead 23 = .ok (.iload 4, 2) := by decide +kernel
theorem dX8_isAhead_25 : decode cX8_isAhead 25 = .ok (.ifCond .eq 11, 3) := by decide +kernel
theorem dX8_isAhead_28 : decode cX8_isAhead 28 = .ok (.iload 5, 2) := by decide +kernel
theorem dX8_isAhead_30 : decode cX8_isAhead 30 = .ok (.ifCond .le 15, 3) := by decide +kernel
theorem dX8_isAhead_33 : decode cX8_isAhead 33 = .ok (.goto 8, 3) := by decide +kernel
theorem dX8_isAhead_36 : decode cX8_isAhead 36 = .ok (.iload 5, 2) := by decide +kernel
theorem dX8_isAhead_38 : decode cX8_isAhead 38 = .ok (.ifCond .ge 7, 3) := by decide +kernel
theorem dX8_isAhead_41 : decode cX8_isAhead 41 = .ok (.iconst 1, 1) := by decide +kernel
theorem dX8_isAhead_42 : decode cX8_isAhead 42 = .ok (.goto 4, 3) := by decide +kernel
theorem dX8_isAhead_45 : decode cX8_isAhead 45 = .ok (.iconst 0, 1) := by decide +kernel
theorem dX8_isAhead_46 : decode cX8_isAhead 46 = .ok (.ireturn, 1) := by decide +kernel
theorem dX8_tray_0 : decode cX8_tray 0 = .ok (.iload_n 1, 1) := by decide +kernel
theorem dX8_tray_1 : decode cX8_tray 1 = .ok (.i2l, 1) := by decide +kernel
theorem dX8_tray_2 : decode cX8_tray 2 = .ok (.lconst 0, 1) := by decide +kernel
theorem dX8_tray_3 : decode cX8_tray 3 = .ok (.ldc2_w 96, 3) := by decide +kernel
theorem dX8_tray_6 : decode cX8_tray 6 = .ok (.invokestatic 68, 3) := by decide +kernel
theorem dX8_tray_9 : decode cX8_tray 9 = .ok (.ifCond .eq 15, 3) := by decide +kernel
theorem dX8_tray_12 : decode cX8_tray 12 = .ok (.iload_n 1, 1) := by decide +kernel
theorem dX8_tray_13 : decode cX8_tray 13 = .ok (.ifCond .eq 13, 3) := by decide +kernel
theorem dX8_tray_16 : decode cX8_tray 16 = .ok (.aload_n 0, 1) := by decide +kernel
theorem dX8_tray_17 : decode cX8_tray 17 = .ok (.iload_n 2, 1) := by decide +kernel
theorem dX8_tray_18 : decode cX8_tray 18 = .ok (.invokevirtual 91, 3) := by decide +kernel
theorem dX8_tray_21 : decode cX8_tray 21 = .ok (.ifCond .ne 5, 3) := by decide +kernel
theorem dX8_tray_24 : decode cX8_tray 24 = .ok (.iconst (-1), 1) := by decide +kernel
theorem dX8_tray_25 : decode cX8_tray 25 = .ok (.ireturn, 1) := by decide +kernel
theorem dX8_tray_26 : decode cX8_tray 26 = .ok (.iload_n 1, 1) := by decide +kernel
theorem dX8_tray_27 : decode cX8_tray 27 = .ok (.ifCond .eq 14, 3) := by decide +kernel
theorem dX8_tray_30 : decode cX8_tray 30 = .ok (.aload_n 0, 1) := by decide +kernel
theorem dX8_tray_31 : decode cX8_tray 31 = .ok (.iload_n 2, 1) := by decide +kernel
theorem dX8_tray_32 : decode cX8_tray 32 = .ok (.invokevirtual 126, 3) := by decide +kernel
theorem dX8_tray_35 : decode cX8_tray 35 = .ok (.ifCond .ne 6, 3) := by decide +kernel
theorem dX8_tray_38 : decode cX8_tray 38 = .ok (.bipush (-2), 2) := by decide +kernel
theorem dX8_tray_40 : decode cX8_tray 40 = .ok (.ireturn, 1) := by decide +kernel
theorem dX8_tray_41 : decode cX8_tray 41 = .ok (.aload_n 0, 1) := by decide +kernel
theorem dX8_tray_42 : decode cX8_tray 42 = .ok (.getfield 75, 3) := by decide +kernel
theorem dX8_tray_45 : decode cX8_tray 45 = .ok (.bipush 6, 2) := by decide +kernel
theorem dX8_tray_47 : decode cX8_tray 47 = .ok (.if_icmp .ne 6, 3) := by decide +kernel
theorem dX8_tray_50 : decode cX8_tray 50 = .ok (.bipush (-3), 2) := by decide +kernel
theorem dX8_tray_52 : decode cX8_tray 52 = .ok (.ireturn, 1) := by decide +kernel
theorem dX8_tray_53 : decode cX8_tray 53 = .ok (.aload_n 0, 1) := by decide +kernel
theorem dX8_tray_54 : decode cX8_tray 54 = .ok (.getfield 43, 3) := by decide +kernel
theorem dX8_tray_57 : decode cX8_tray 57 = .ok (.aload_n 0, 1) := by decide +kernel
theorem dX8_tray_58 : decode cX8_tray 58 = .ok (.getfield 75, 3) := by decide +kernel
theorem dX8_tray_61 : decode cX8_tray 61 = .ok (.iload_n 1, 1) := by decide +kernel
theorem dX8_tray_62 : decode cX8_tray 62 = .ok (.iastore, 1) := by decide +kernel
theorem dX8_tray_63 : decode cX8_tray 63 = .ok (.aload_n 0, 1) := by decide +kernel
theorem dX8_tray_64 : decode cX8_tray 64 = .ok (.getfield 46, 3) := by decide +kernel
theorem dX8_tray_67 : decode cX8_tray 67 = .ok (.aload_n 0, 1) := by decide +kernel
theorem dX8_tray_68 : decode cX8_tray 68 = .ok (.getfield 75, 3) := by decide +kernel
theorem dX8_tray_71 : decode cX8_tray 71 = .ok (.iload_n 1, 1) := by decide +kernel
theorem dX8_tray_72 : decode cX8_tray 72 = .ok (.ifCond .ne 8, 3) := by decide +kernel
theorem dX8_tray_75 : decode cX8_tray 75 = .ok (.bipush (-4), 2) := by decide +kernel
theorem dX8_tray_77 : decode cX8_tray 77 = .ok (.goto 4, 3) := by decide +kernel
theorem dX8_tray_80 : decode cX8_tray 80 = .ok (.iload_n 2, 1) := by decide +kernel
theorem dX8_tray_81 : decode cX8_tray 81 = .ok (.iastore, 1) := by decide +kernel
theorem dX8_tray_82 : decode cX8_tray 82 = .ok (.aload_n 0, 1) := by decide +kernel
theorem dX8_tray_83 : decode cX8_tray 83 = .ok (.dup, 1) := by decide +kernel
theorem dX8_tray_84 : decode cX8_tray 84 = .ok (.getfield 75, 3) := by decide +kernel
theorem dX8_tray_87 : decode cX8_tray 87 = .ok (.iconst 1, 1) := by decide +kernel
theorem dX8_tray_88 : decode cX8_tray 88 = .ok (.iadd, 1) := by decide +kernel
theorem dX8_tray_89 : decode cX8_tray 89 = .ok (.putfield 75, 3) := by decide +kernel
theorem dX8_tray_92 : decode cX8_tray 92 = .ok (.aload_n 0, 1) := by decide +kernel
theorem dX8_tray_93 : decode cX8_tray 93 = .ok (.getfield 75, 3) := by decide +kernel
theorem dX8_tray_96 : decode cX8_tray 96 = .ok (.iconst 1, 1) := by decide +kernel
theorem dX8_tray_97 : decode cX8_tray 97 = .ok (.isub, 1) := by decide +kernel
theorem dX8_tray_98 : decode cX8_tray 98 = .ok (.ireturn, 1) := by decide +kernel
theorem dX8_beginAct_0 : decode cX8_beginAct 0 = .ok (.aload_n 0, 1) := by decide +kernel
theorem dX8_beginAct_1 : decode cX8_beginAct 1 = .ok (.dup, 1) := by decide +kernel
theorem dX8_beginAct_2 : decode cX8_beginAct 2 = .ok (.getfield 129, 3) := by decide +kernel
theorem dX8_beginAct_5 : decode cX8_beginAct 5 = .ok (.iconst 1, 1) := by decide +kernel
theorem dX8_beginAct_6 : decode cX8_beginAct 6 = .ok (.iadd, 1) := by decide +kernel
theorem dX8_beginAct_7 : decode cX8_beginAct 7 = .ok (.putfield 129, 3) := by decide +kernel
theorem dX8_beginAct_10 : decode cX8_beginAct 10 = .ok (.aload_n 0, 1) := by decide +kernel
theorem dX8_beginAct_11 : decode cX8_beginAct 11 = .ok (.iconst 0, 1) := by decide +kernel
theorem dX8_beginAct_12 : decode cX8_beginAct 12 = .ok (.putfield 106, 3) := by decide +kernel
theorem dX8_beginAct_15 : decode cX8_beginAct 15 = .ok (.aload_n 0, 1) := by decide +kernel
theorem dX8_beginAct_16 : decode cX8_beginAct 16 = .ok (.iconst 0, 1) := by decide +kernel
theorem dX8_beginAct_17 : decode cX8_beginAct 17 = .ok (.putfield 110, 3) := by decide +kernel
theorem dX8_beginAct_20 : decode cX8_beginAct 20 = .ok (.aload_n 0, 1) := by decide +kernel
theorem dX8_beginAct_21 : decode cX8_beginAct 21 = .ok (.bipush (-4), 2) := by decide +kernel
theorem dX8_beginAct_23 : decode cX8_beginAct 23 = .ok (.putfield 55, 3) := by decide +kernel
theorem dX8_beginAct_26 : decode cX8_beginAct 26 = .ok (.aload_n 0, 1) := by decide +kernel
theorem dX8_beginAct_27 : decode cX8_beginAct 27 = .ok (.iconst 0, 1) := by decide +kernel
theorem dX8_beginAct_28 : decode cX8_beginAct 28 = .ok (.putfield 113, 3) := by decide +kernel
theorem dX8_beginAct_31 : decode cX8_beginAct 31 = .ok (.aload_n 0, 1) := by decide +kernel
theorem dX8_beginAct_32 : decode cX8_beginAct 32 = .ok (.iconst 0, 1) := by decide +kernel
theorem dX8_beginAct_33 : decode cX8_beginAct 33 = .ok (.putfield 132, 3) := by decide +kernel
theorem dX8_beginAct_36 : decode cX8_beginAct 36 = .ok (.iconst 0, 1) := by decide +kernel
theorem dX8_beginAct_37 : decode cX8_beginAct 37 = .ok (.istore_n 1, 1) := by decide +kernel
theorem dX8_beginAct_38 : decode cX8_beginAct 38 = .ok (.iload_n 1, 1) := by decide +kernel
theorem dX8_beginAct_39 : decode cX8_beginAct 39 = .ok (.bipush 8, 2) := by decide +kernel
theorem dX8_beginAct_41 : decode cX8_beginAct 41 = .ok (.if_icmp .ge 16, 3) := by decide +kernel
theorem dX8_beginAct_44 : decode cX8_beginAct 44 = .ok (.aload_n 0, 1) := by decide +kernel
theorem dX8_beginAct_45 : decode cX8_beginAct 45 = .ok (.getfield 25, 3) := by decide +kernel
theorem dX8_beginAct_48 : decode cX8_beginAct 48 = .ok (.iload_n 1, 1) := by decide +kernel
theorem dX8_beginAct_49 : decode cX8_beginAct 49 = .ok (.iconst 0, 1) := by decide +kernel
theorem dX8_beginAct_50 : decode cX8_beginAct 50 = .ok (.iastore, 1) := by decide +kernel
theorem dX8_beginAct_51 : decode cX8_beginAct 51 = .ok (.iinc 1 1, 3) := by decide +kernel
theorem dX8_beginAct_54 : decode cX8_beginAct 54 = .ok (.goto (-16), 3) := by decide +kernel
theorem dX8_beginAct_57 : decode cX8_beginAct 57 = .ok (.return_, 1) := by decide +kernel
theorem dX8_load_0 : decode cX8_load 0 = .ok (.aload_n 0, 1) := by decide +kernel
theorem dX8_load_1 : decode cX8_load 1 = .ok (.aload_n 0, 1) := by decide +kernel
theorem dX8_load_2 : decode cX8_load 2 = .ok (.getfield 49, 3) := by decide +kernel
theorem dX8_load_5 : decode cX8_load 5 = .ok (.iload_n 1, 1) := by decide +kernel
theorem dX8_load_6 : decode cX8_load 6 = .ok (.iaload, 1) := by decide +kernel
theorem dX8_load_7 : decode cX8_load 7 = .ok (.putfield 135, 3) := by decide +kernel
theorem dX8_load_10 : decode cX8_load 10 = .ok (.iconst 0, 1) := by decide +kernel
theorem dX8_load_11 : decode cX8_load 11 = .ok (.istore_n 2, 1) := by decide +kernel
theorem dX8_load_12 : decode cX8_load 12 = .ok (.iload_n 2, 1) := by decide +kernel
theorem dX8_load_13 : decode cX8_load 13 = .ok (.aload_n 0, 1) := by decide +kernel
theorem dX8_load_14 : decode cX8_load 14 = .ok (.getfield 135, 3) := by decide +kernel
theorem dX8_load_17 : decode cX8_load 17 = .ok (.if_icmp .ge 26, 3) := by decide +kernel
theorem dX8_load_20 : decode cX8_load 20 = .ok (.aload_n 0, 1) := by decide +kernel
theorem dX8_load_21 : decode cX8_load 21 = .ok (.getfield 59, 3) := by decide +kernel
theorem dX8_load_24 : decode cX8_load 24 = .ok (.iload_n 2, 1) := by decide +kernel
theorem dX8_load_25 : decode cX8_load 25 = .ok (.aload_n 0, 1) := by decide +kernel
theorem dX8_load_26 : decode cX8_load 26 = .ok (.getfield 52, 3) := by decide +kernel
theorem dX8_load_29 : decode cX8_load 29 = .ok (.bipush 40, 2) := by decide +kernel
theorem dX8_load_31 : decode cX8_load 31 = .ok (.iload_n 1, 1) := by decide +kernel
theorem dX8_load_32 : decode cX8_load 32 = .ok (.imul, 1) := by decide +kernel
theorem dX8_load_33 : decode cX8_load 33 = .ok (.iload_n 2, 1) := by decide +kernel
theorem dX8_load_34 : decode cX8_load 34 = .ok (.iadd, 1) := by decide +kernel
theorem dX8_load_35 : decode cX8_load 35 = .ok (.iaload, 1) := by decide +kernel
theorem dX8_load_36 : decode cX8_load 36 = .ok (.iastore, 1) := by decide +kernel
theorem dX8_load_37 : decode cX8_load 37 = .ok (.iinc 2 1, 3) := by decide +kernel
theorem dX8_load_40 : decode cX8_load 40 = .ok (.goto (-28), 3) := by decide +kernel
theorem dX8_load_43 : decode cX8_load 43 = .ok (.return_, 1) := by decide +kernel
theorem dX8_give_0 : decode cX8_give 0 = .ok (.aload_n 0, 1) := by decide +kernel
theorem dX8_give_1 : decode cX8_give 1 = .ok (.getfield 49, 3) := by decide +kernel
theorem dX8_give_4 : decode cX8_give 4 = .ok (.iload_n 1, 1) := by decide +kernel
theorem dX8_give_5 : decode cX8_give 5 = .ok (.aload_n 0, 1) := by decide +kernel
theorem dX8_give_6 : decode cX8_give 6 = .ok (.getfield 135, 3) := by decide +kernel
theorem dX8_give_9 : decode cX8_give 9 = .ok (.iastore, 1) := by decide +kernel
theorem dX8_give_10 : decode cX8_give 10 = .ok (.iconst 0, 1) := by decide +kernel
theorem dX8_give_11 : decode cX8_give 11 = .ok (.istore_n 2, 1) := by decide +kernel
theorem dX8_give_12 : decode cX8_give 12 = .ok (.iload_n 2, 1) := by decide +kernel
theorem dX8_give_13 : decode cX8_give 13 = .ok (.aload_n 0, 1) := by decide +kernel
theorem dX8_give_14 : decode cX8_give 14 = .ok (.getfield 135, 3) := by decide +kernel
theorem dX8_give_17 : decode cX8_give 17 = .ok (.if_icmp .ge 26, 3) := by decide +kernel
theorem dX8_give_20 : decode cX8_give 20 = .ok (.aload_n 0, 1) := by decide +kernel
theorem dX8_give_21 : decode cX8_give 21 = .ok (.getfield 52, 3) := by decide +kernel
theorem dX8_give_24 : decode cX8_give 24 = .ok (.bipush 40, 2) := by decide +kernel
theorem dX8_give_26 : decode cX8_give 26 = .ok (.iload_n 1, 1) := by decide +kernel
theorem dX8_give_27 : decode cX8_give 27 = .ok (.imul, 1) := by decide +kernel
theorem dX8_give_28 : decode cX8_give 28 = .ok (.iload_n 2, 1) := by decide +kernel
theorem dX8_give_29 : decode cX8_give 29 = .ok (.iadd, 1) := by decide +kernel
theorem dX8_give_30 : decode cX8_give 30 = .ok (.aload_n 0, 1) := by decide +kernel
theorem dX8_give_31 : decode cX8_give 31 = .ok (.getfield 59, 3) := by decide +kernel
theorem dX8_give_34 : decode cX8_give 34 = .ok (.iload_n 2, 1) := by decide +kernel
theorem dX8_give_35 : decode cX8_give 35 = .ok (.iaload, 1) := by decide +kernel
theorem dX8_give_36 : decode cX8_give 36 = .ok (.iastore, 1) := by decide +kernel
theorem dX8_give_37 : decode cX8_give 37 = .ok (.iinc 2 1, 3) := by decide +kernel
theorem dX8_give_40 : decode cX8_give 40 = .ok (.goto (-28), 3) := by decide +kernel
theorem dX8_give_43 : decode cX8_give 43 = .ok (.return_, 1) := by decide +kernel
theorem dX8_ends_0 : decode cX8_ends 0 = .ok (.aload_n 0, 1) := by decide +kernel
theorem dX8_ends_1 : decode cX8_ends 1 = .ok (.getfield 106, 3) := by decide +kernel
theorem dX8_ends_4 : decode cX8_ends 4 = .ok (.ifCond .eq 15, 3) := by decide +kernel
theorem dX8_ends_7 : decode cX8_ends 7 = .ok (.aload_n 0, 1) := by decide +kernel
theorem dX8_ends_8 : decode cX8_ends 8 = .ok (.dup, 1) := by decide +kernel
theorem dX8_ends_9 : decode cX8_ends 9 = .ok (.getfield 138, 3) := by decide +kernel
theorem dX8_ends_12 : decode cX8_ends 12 = .ok (.iconst 1, 1) := by decide +kernel
theorem dX8_ends_13 : decode cX8_ends 13 = .ok (.iadd, 1) := by decide +kernel
theorem dX8_ends_14 : decode cX8_ends 14 = .ok (.putfield 138, 3) := by decide +kernel
theorem dX8_ends_17 : decode cX8_ends 17 = .ok (.iconst 1, 1) := by decide +kernel
theorem dX8_ends_18 : decode cX8_ends 18 = .ok (.ireturn, 1) := by decide +kernel
theorem dX8_ends_19 : decode cX8_ends 19 = .ok (.aload_n 0, 1) := by decide +kernel
theorem dX8_ends_20 : decode cX8_ends 20 = .ok (.iload_n 1, 1) := by decide +kernel
theorem dX8_ends_21 : decode cX8_ends 21 = .ok (.invokevirtual 141, 3) := by decide +kernel
theorem dX8_ends_24 : decode cX8_ends 24 = .ok (.iconst 0, 1) := by decide +kernel
theorem dX8_ends_25 : decode cX8_ends 25 = .ok (.ireturn, 1) := by decide +kernel
theorem dX8_insert_0 : decode cX8_insert 0 = .ok (.aload_n 0, 1) := by decide +kernel
theorem dX8_insert_1 : decode cX8_insert 1 = .ok (.getfield 135, 3) := by decide +kernel
theorem dX8_insert_4 : decode cX8_insert 4 = .ok (.istore_n 3, 1) := by decide +kernel
theorem dX8_insert_5 : decode cX8_insert 5 = .ok (.iload_n 3, 1) := by decide +kernel
theorem dX8_insert_6 : decode cX8_insert 6 = .ok (.iload_n 1, 1) := by decide +kernel
theorem dX8_insert_7 : decode cX8_insert 7 = .ok (.if_icmp .le 23, 3) := by decide +kernel
theorem dX8_insert_10 : decode cX8_insert 10 = .ok (.aload_n 0, 1) := by decide +kernel
theorem dX8_insert_11 : decode cX8_insert 11 = .ok (.getfield 59, 3) := by decide +kernel
theorem dX8_insert_14 : decode cX8_insert 14 = .ok (.iload_n 3, 1) := by decide +kernel
theorem dX8_insert_15 : decode cX8_insert 15 = .ok (.aload_n 0, 1) := by decide +kernel
theorem dX8_insert_16 : decode cX8_insert 16 = .ok (.getfield 59, 3) := by decide +kernel
theorem dX8_insert_19 : decode cX8_insert 19 = .ok (.iload_n 3, 1) := by decide +kernel
theorem dX8_insert_20 : decode cX8_insert 20 = .ok (.iconst 1, 1) := by decide +kernel
theorem dX8_insert_21 : decode cX8_insert 21 = .ok (.isub, 1) := by decide +kernel
theorem dX8_insert_22 : decode cX8_insert 22 = .ok (.iaload, 1) := by decide +kernel
theorem dX8_insert_23 : decode cX8_insert 23 = .ok (.iastore, 1) := by decide +kernel
theorem dX8_insert_24 : decode cX8_insert 24 = .ok (.iinc 3 (-1), 3) := by decide +kernel
theorem dX8_insert_27 : decode cX8_insert 27 = .ok (.goto (-22), 3) := by decide +kernel
theorem dX8_insert_30 : decode cX8_insert 30 = .ok (.aload_n 0, 1) := by decide +kernel
theorem dX8_insert_31 : decode cX8_insert 31 = .ok (.getfield 59, 3) := by decide +kernel
theorem dX8_insert_34 : decode cX8_insert 34 = .ok (.iload_n 1, 1) := by decide +kernel
theorem dX8_insert_35 : decode cX8_insert 35 = .ok (.iload_n 2, 1) := by decide +kernel
theorem dX8_insert_36 : decode cX8_insert 36 = .ok (.iastore, 1) := by decide +kernel
theorem dX8_insert_37 : decode cX8_insert 37 = .ok (.aload_n 0, 1) := by decide +kernel
theorem dX8_insert_38 : decode cX8_insert 38 = .ok (.dup, 1) := by decide +kernel
theorem dX8_insert_39 : decode cX8_insert 39 = .ok (.getfield 135, 3) := by decide +kernel
theorem dX8_insert_42 : decode cX8_insert 42 = .ok (.iconst 1, 1) := by decide +kernel
theorem dX8_insert_43 : decode cX8_insert 43 = .ok (.iadd, 1) := by decide +kernel
theorem dX8_insert_44 : decode cX8_insert 44 = .ok (.putfield 135, 3) := by decide +kernel
theorem dX8_insert_47 : decode cX8_insert 47 = .ok (.return_, 1) := by decide +kernel
theorem dX8_remove_0 : decode cX8_remove 0 = .ok (.aload_n 0, 1) := by decide +kernel
theorem dX8_remove_1 : decode cX8_remove 1 = .ok (.dup, 1) := by decide +kernel
theorem dX8_remove_2 : decode cX8_remove 2 = .ok (.getfield 135, 3) := by decide +kernel
theorem dX8_remove_5 : decode cX8_remove 5 = .ok (.iconst 1, 1) := by decide +kernel
theorem dX8_remove_6 : decode cX8_remove 6 = .ok (.isub, 1) := by decide +kernel
theorem dX8_remove_7 : decode cX8_remove 7 = .ok (.putfield 135, 3) := by decide +kernel
theorem dX8_remove_10 : decode cX8_remove 10 = .ok (.iload_n 1, 1) := by decide +kernel
theorem dX8_remove_11 : decode cX8_remove 11 = .ok (.istore_n 2, 1) := by decide +kernel
theorem dX8_remove_12 : decode cX8_remove 12 = .ok (.iload_n 2, 1) := by decide +kernel
theorem dX8_remove_13 : decode cX8_remove 13 = .ok (.aload_n 0, 1) := by decide +kernel
theorem dX8_remove_14 : decode cX8_remove 14 = .ok (.getfield 135, 3) := by decide +kernel
theorem dX8_remove_17 : decode cX8_remove 17 = .ok (.if_icmp .ge 23, 3) := by decide +kernel
theorem dX8_remove_20 : decode cX8_remove 20 = .ok (.aload_n 0, 1) := by decide +kernel
theorem dX8_remove_21 : decode cX8_remove 21 = .ok (.getfield 59, 3) := by decide +kernel
theorem dX8_remove_24 : decode cX8_remove 24 = .ok (.iload_n 2, 1) := by decide +kernel
theorem dX8_remove_25 : decode cX8_remove 25 = .ok (.aload_n 0, 1) := by decide +kernel
theorem dX8_remove_26 : decode cX8_remove 26 = .ok (.getfield 59, 3) := by decide +kernel
theorem dX8_remove_29 : decode cX8_remove 29 = .ok (.iload_n 2, 1) := by decide +kernel
theorem dX8_remove_30 : decode cX8_remove 30 = .ok (.iconst 1, 1) := by decide +kernel
theorem dX8_remove_31 : decode cX8_remove 31 = .ok (.iadd, 1) := by decide +kernel
theorem dX8_remove_32 : decode cX8_remove 32 = .ok (.iaload, 1) := by decide +kernel
theorem dX8_remove_33 : decode cX8_remove 33 = .ok (.iastore, 1) := by decide +kernel
theorem dX8_remove_34 : decode cX8_remove 34 = .ok (.iinc 2 1, 3) := by decide +kernel
theorem dX8_remove_37 : decode cX8_remove 37 = .ok (.goto (-25), 3) := by decide +kernel
theorem dX8_remove_40 : decode cX8_remove 40 = .ok (.return_, 1) := by decide +kernel
theorem dX8_halving_0 : decode cX8_halving 0 = .ok (.iconst 0, 1) := by decide +kernel
theorem dX8_halving_1 : decode cX8_halving 1 = .ok (.istore_n 3, 1) := by decide +kernel
theorem dX8_halving_2 : decode cX8_halving 2 = .ok (.aload_n 0, 1) := by decide +kernel
theorem dX8_halving_3 : decode cX8_halving 3 = .ok (.getfield 135, 3) := by decide +kernel
theorem dX8_halving_6 : decode cX8_halving 6 = .ok (.istore 4, 2) := by decide +kernel
theorem dX8_halving_8 : decode cX8_halving 8 = .ok (.iload_n 3, 1) := by decide +kernel
theorem dX8_halving_9 : decode cX8_halving 9 = .ok (.iload 4, 2) := by decide +kernel
theorem dX8_halving_11 : decode cX8_halving 11 = .ok (.if_icmp .ge 49, 3) := by decide +kernel
theorem dX8_halving_14 : decode cX8_halving 14 = .ok (.aload_n 0, 1) := by decide +kernel
theorem dX8_halving_15 : decode cX8_halving 15 = .ok (.getfield 106, 3) := by decide +kernel
theorem dX8_halving_18 : decode cX8_halving 18 = .ok (.ifCond .ne 42, 3) := by decide +kernel
theorem dX8_halving_21 : decode cX8_halving 21 = .ok (.iload_n 3, 1) := by decide +kernel
theorem dX8_halving_22 : decode cX8_halving 22 = .ok (.iload 4, 2) := by decide +kernel
theorem dX8_halving_24 : decode cX8_halving 24 = .ok (.iadd, 1) := by decide +kernel
theorem dX8_halving_25 : decode cX8_halving 25 = .ok (.iconst 2, 1) := by decide +kernel
theorem dX8_halving_26 : decode cX8_halving 26 = .ok (.idiv, 1) := by decide +kernel
theorem dX8_halving_27 : decode cX8_halving 27 = .ok (.istore 5, 2) := by decide +kernel
theorem dX8_halving_29 : decode cX8_halving 29 = .ok (.aload_n 0, 1) := by decide +kernel
theorem dX8_halving_30 : decode cX8_halving 30 = .ok (.iload_n 1, 1) := by decide +kernel
theorem dX8_halving_31 : decode cX8_halving 31 = .ok (.iload_n 2, 1) := by decide +kernel
theorem dX8_halving_32 : decode cX8_halving 32 = .ok (.aload_n 0, 1) := by decide +kernel
theorem dX8_halving_33 : decode cX8_halving 33 = .ok (.getfield 59, 3) := by decide +kernel
theorem dX8_halving_36 : decode cX8_halving 36 = .ok (.iload 5, 2) := by decide +kernel
theorem dX8_halving_38 : decode cX8_halving 38 = .ok (.iaload, 1) := by decide +kernel
theorem dX8_halving_39 : decode cX8_halving 39 = .ok (.invokevirtual 144, 3) := by decide +kernel
theorem dX8_halving_42 : decode cX8_halving 42 = .ok (.ifCond .eq 10, 3) := by decide +kernel
theorem dX8_halving_45 : decode cX8_halving 45 = .ok (.iload 5, 2) := by decide +kernel
theorem dX8_halving_47 : decode cX8_halving 47 = .ok (.istore 4, 2) := by decide +kernel
theorem dX8_halving_49 : decode cX8_halving 49 = .ok (.goto 8, 3) := by decide +kernel
theorem dX8_halving_52 : decode cX8_halving 52 = .ok (.iload 5, 2) := by decide +kernel
theorem dX8_halving_54 : decode cX8_halving 54 = .ok (.iconst 1, 1) := by decide +kernel
theorem dX8_halving_55 : decode cX8_halving 55 = .ok (.iadd, 1) := by decide +kernel
theorem dX8_halving_56 : decode cX8_halving 56 = .ok (.istore_n 3, 1) := by decide +kernel
theorem dX8_halving_57 : decode cX8_halving 57 = .ok (.goto (-49), 3) := by decide +kernel
theorem dX8_halving_60 : decode cX8_halving 60 = .ok (.iload_n 3, 1) := by decide +kernel
theorem dX8_halving_61 : decode cX8_halving 61 = .ok (.ireturn, 1) := by decide +kernel
theorem dX8_turn_0 : decode cX8_turn 0 = .ok (.aload_n 0, 1) := by decide +kernel
theorem dX8_turn_1 : decode cX8_turn 1 = .ok (.getfield 59, 3) := by decide +kernel
theorem dX8_turn_4 : decode cX8_turn 4 = .ok (.iload_n 1, 1) := by decide +kernel
theorem dX8_turn_5 : decode cX8_turn 5 = .ok (.iaload, 1) := by decide +kernel
theorem dX8_turn_6 : decode cX8_turn 6 = .ok (.istore_n 3, 1) := by decide +kernel
theorem dX8_turn_7 : decode cX8_turn 7 = .ok (.aload_n 0, 1) := by decide +kernel
theorem dX8_turn_8 : decode cX8_turn 8 = .ok (.getfield 59, 3) := by decide +kernel
theorem dX8_turn_11 : decode cX8_turn 11 = .ok (.iload_n 1, 1) := by decide +kernel
theorem dX8_turn_12 : decode cX8_turn 12 = .ok (.aload_n 0, 1) := by decide +kernel
theorem dX8_turn_13 : decode cX8_turn 13 = .ok (.getfield 59, 3) := by decide +kernel
theorem dX8_turn_16 : decode cX8_turn 16 = .ok (.iload_n 2, 1) := by decide +kernel
theorem dX8_turn_17 : decode cX8_turn 17 = .ok (.iaload, 1) := by decide +kernel
theorem dX8_turn_18 : decode cX8_turn 18 = .ok (.iastore, 1) := by decide +kernel
theorem dX8_turn_19 : decode cX8_turn 19 = .ok (.aload_n 0, 1) := by decide +kernel
theorem dX8_turn_20 : decode cX8_turn 20 = .ok (.getfield 59, 3) := by decide +kernel
theorem dX8_turn_23 : decode cX8_turn 23 = .ok (.iload_n 2, 1) := by decide +kernel
theorem dX8_turn_24 : decode cX8_turn 24 = .ok (.iload_n 3, 1) := by decide +kernel
theorem dX8_turn_25 : decode cX8_turn 25 = .ok (.iastore, 1) := by decide +kernel
theorem dX8_turn_26 : decode cX8_turn 26 = .ok (.return_, 1) := by decide +kernel
theorem dX8_up_0 : decode cX8_up 0 = .ok (.iload_n 2, 1) := by decide +kernel
theorem dX8_up_1 : decode cX8_up 1 = .ok (.istore_n 3, 1) := by decide +kernel
theorem dX8_up_2 : decode cX8_up 2 = .ok (.iload_n 3, 1) := by decide +kernel
theorem dX8_up_3 : decode cX8_up 3 = .ok (.ifCond .le 7, 3) := by decide +kernel
theorem dX8_up_6 : decode cX8_up 6 = .ok (.iconst 1, 1) := by decide +kernel
theorem dX8_up_7 : decode cX8_up 7 = .ok (.goto 4, 3) := by decide +kernel
theorem dX8_up_10 : decode cX8_up 10 = .ok (.iconst 0, 1) := by decide +kernel
theorem dX8_up_11 : decode cX8_up 11 = .ok (.istore 4, 2) := by decide +kernel
theorem dX8_up_13 : decode cX8_up 13 = .ok (.iload 4, 2) := by decide +kernel
theorem dX8_up_15 : decode cX8_up 15 = .ok (.ifCond .eq 59, 3) := by decide +kernel
theorem dX8_up_18 : decode cX8_up 18 = .ok (.iload_n 3, 1) := by decide +kernel
theorem dX8_up_19 : decode cX8_up 19 = .ok (.iconst 1, 1) := by decide +kernel
theorem dX8_up_20 : decode cX8_up 20 = .ok (.isub, 1) := by decide +kernel
theorem dX8_up_21 : decode cX8_up 21 = .ok (.iconst 2, 1) := by decide +kernel
theorem dX8_up_22 : decode cX8_up 22 = .ok (.idiv, 1) := by decide +kernel
theorem dX8_up_23 : decode cX8_up 23 = .ok (.istore 5, 2) := by decide +kernel
theorem dX8_up_25 : decode cX8_up 25 = .ok (.aload_n 0, 1) := by decide +kernel
theorem dX8_up_26 : decode cX8_up 26 = .ok (.iload_n 1, 1) := by decide +kernel
theorem dX8_up_27 : decode cX8_up 27 = .ok (.aload_n 0, 1) := by decide +kernel
theorem dX8_up_28 : decode cX8_up 28 = .ok (.getfield 59, 3) := by decide +kernel
theorem dX8_up_31 : decode cX8_up 31 = .ok (.iload_n 3, 1) := by decide +kernel
theorem dX8_up_32 : decode cX8_up 32 = .ok (.iaload, 1) := by decide +kernel
theorem dX8_up_33 : decode cX8_up 33 = .ok (.aload_n 0, 1) := by decide +kernel
theorem dX8_up_34 : decode cX8_up 34 = .ok (.getfield 59, 3) := by decide +kernel
theorem dX8_up_37 : decode cX8_up 37 = .ok (.iload 5, 2) := by decide +kernel
theorem dX8_up_39 : decode cX8_up 39 = .ok (.iaload, 1) := by decide +kernel
theorem dX8_up_40 : decode cX8_up 40 = .ok (.invokevirtual 144, 3) := by decide +kernel
theorem dX8_up_43 : decode cX8_up 43 = .ok (.istore 4, 2) := by decide +kernel
theorem dX8_up_45 : decode cX8_up 45 = .ok (.iload 4, 2) := by decide +kernel
theorem dX8_up_47 : decode cX8_up 47 = .ok (.ifCond .eq 24, 3) := by decide +kernel
theorem dX8_up_50 : decode cX8_up 50 = .ok (.aload_n 0, 1) := by decide +kernel
theorem dX8_up_51 : decode cX8_up 51 = .ok (.iload_n 3, 1) := by decide +kernel
theorem dX8_up_52 : decode cX8_up 52 = .ok (.iload 5, 2) := by decide +kernel
theorem dX8_up_54 : decode cX8_up 54 = .ok (.invokevirtual 148, 3) := by decide +kernel
theorem dX8_up_57 : decode cX8_up 57 = .ok (.iload 5, 2) := by decide +kernel
theorem dX8_up_59 : decode cX8_up 59 = .ok (.istore_n 3, 1) := by decide +kernel
theorem dX8_up_60 : decode cX8_up 60 = .ok (.iload_n 3, 1) := by decide +kernel
theorem dX8_up_61 : decode cX8_up 61 = .ok (.ifCond .le 7, 3) := by decide +kernel
theorem dX8_up_64 : decode cX8_up 64 = .ok (.iconst 1, 1) := by decide +kernel
theorem dX8_up_65 : decode cX8_up 65 = .ok (.goto 4, 3) := by decide +kernel
theorem dX8_up_68 : decode cX8_up 68 = .ok (.iconst 0, 1) := by decide +kernel
theorem dX8_up_69 : decode cX8_up 69 = .ok (.istore 4, 2) := by decide +kernel
theorem dX8_up_71 : decode cX8_up 71 = .ok (.goto (-58), 3) := by decide +kernel
theorem dX8_up_74 : decode cX8_up 74 = .ok (.iload_n 3, 1) := by decide +kernel
theorem dX8_up_75 : decode cX8_up 75 = .ok (.iload_n 2, 1) := by decide +kernel
theorem dX8_up_76 : decode cX8_up 76 = .ok (.if_icmp .eq 7, 3) := by decide +kernel
theorem dX8_up_79 : decode cX8_up 79 = .ok (.iconst 1, 1) := by decide +kernel
theorem dX8_up_80 : decode cX8_up 80 = .ok (.goto 4, 3) := by decide +kernel
theorem dX8_up_83 : decode cX8_up 83 = .ok (.iconst 0, 1) := by decide +kernel
theorem dX8_up_84 : decode cX8_up 84 = .ok (.ireturn, 1) := by decide +kernel
theorem dX8_down_0 : decode cX8_down 0 = .ok (.iload_n 2, 1) := by decide +kernel
theorem dX8_down_1 : decode cX8_down 1 = .ok (.istore_n 3, 1) := by decide +kernel
theorem dX8_down_2 : decode cX8_down 2 = .ok (.iconst 2, 1) := by decide +kernel
theorem dX8_down_3 : decode cX8_down 3 = .ok (.iload_n 3, 1) := by decide +kernel
theorem dX8_down_4 : decode cX8_down 4 = .ok (.imul, 1) := by decide +kernel
theorem dX8_down_5 : decode cX8_down 5 = .ok (.iconst 1, 1) := by decide +kernel
theorem dX8_down_6 : decode cX8_down 6 = .ok (.iadd, 1) := by decide +kernel
theorem dX8_down_7 : decode cX8_down 7 = .ok (.aload_n 0, 1) := by decide +kernel
theorem dX8_down_8 : decode cX8_down 8 = .ok (.getfield 135, 3) := by decide +kernel
theorem dX8_down_11 : decode cX8_down 11 = .ok (.if_icmp .ge 7, 3) := by decide +kernel
theorem dX8_down_14 : decode cX8_down 14 = .ok (.iconst 1, 1) := by decide +kernel
theorem dX8_down_15 : decode cX8_down 15 = .ok (.goto 4, 3) := by decide +kernel
theorem dX8_down_18 : decode cX8_down 18 = .ok (.iconst 0, 1) := by decide +kernel
theorem dX8_down_19 : decode cX8_down 19 = .ok (.istore 4, 2) := by decide +kernel
theorem dX8_down_21 : decode cX8_down 21 = .ok (.iload 4, 2) := by decide +kernel
theorem dX8_down_23 : decode cX8_down 23 = .ok (.ifCond .eq 120, 3) := by decide +kernel
theorem dX8_down_26 : decode cX8_down 26 = .ok (.iconst 2, 1) := by decide +kernel
theorem dX8_down_27 : decode cX8_down 27 = .ok (.iload_n 3, 1) := by decide +kernel
theorem dX8_down_28 : decode cX8_down 28 = .ok (.imul, 1) := by decide +kernel
theorem dX8_down_29 : decode cX8_down 29 = .ok (.iconst 1, 1) := by decide +kernel
theorem dX8_down_30 : decode cX8_down 30 = .ok (.iadd, 1) := by decide +kernel
theorem dX8_down_31 : decode cX8_down 31 = .ok (.istore 5, 2) := by decide +kernel
theorem dX8_down_33 : decode cX8_down 33 = .ok (.iload 5, 2) := by decide +kernel
theorem dX8_down_35 : decode cX8_down 35 = .ok (.iconst 1, 1) := by decide +kernel
theorem dX8_down_36 : decode cX8_down 36 = .ok (.iadd, 1) := by decide +kernel
theorem dX8_down_37 : decode cX8_down 37 = .ok (.aload_n 0, 1) := by decide +kernel
theorem dX8_down_38 : decode cX8_down 38 = .ok (.getfield 135, 3) := by decide +kernel
theorem dX8_down_41 : decode cX8_down 41 = .ok (.if_icmp .ge 30, 3) := by decide +kernel
theorem dX8_down_44 : decode cX8_down 44 = .ok (.aload_n 0, 1) := by decide +kernel
theorem dX8_down_45 : decode cX8_down 45 = .ok (.iload_n 1, 1) := by decide +kernel
theorem dX8_down_46 : decode cX8_down 46 = .ok (.aload_n 0, 1) := by decide +kernel
theorem dX8_down_47 : decode cX8_down 47 = .ok (.getfield 59, 3) := by decide +kernel
theorem dX8_down_50 : decode cX8_down 50 = .ok (.iload 5, 2) := by decide +kernel
theorem dX8_down_52 : decode cX8_down 52 = .ok (.iconst 1, 1) := by decide +kernel
theorem dX8_down_53 : decode cX8_down 53 = .ok (.iadd, 1) := by decide +kernel
theorem dX8_down_54 : decode cX8_down 54 = .ok (.iaload, 1) := by decide +kernel
theorem dX8_down_55 : decode cX8_down 55 = .ok (.aload_n 0, 1) := by decide +kernel
theorem dX8_down_56 : decode cX8_down 56 = .ok (.getfield 59, 3) := by decide +kernel
theorem dX8_down_59 : decode cX8_down 59 = .ok (.iload 5, 2) := by decide +kernel
theorem dX8_down_61 : decode cX8_down 61 = .ok (.iaload, 1) := by decide +kernel
theorem dX8_down_62 : decode cX8_down 62 = .ok (.invokevirtual 144, 3) := by decide +kernel
theorem dX8_down_65 : decode cX8_down 65 = .ok (.ifCond .eq 6, 3) := by decide +kernel
theorem dX8_down_68 : decode cX8_down 68 = .ok (.iinc 5 1, 3) := by decide +kernel
theorem dX8_down_71 : decode cX8_down 71 = .ok (.aload_n 0, 1) := by decide +kernel
theorem dX8_down_72 : decode cX8_down 72 = .ok (.getfield 106, 3) := by decide +kernel
theorem dX8_down_75 : decode cX8_down 75 = .ok (.ifCond .ne 28, 3) := by decide +kernel
theorem dX8_down_78 : decode cX8_down 78 = .ok (.aload_n 0, 1) := by decide +kernel
theorem dX8_down_79 : decode cX8_down 79 = .ok (.iload_n 1, 1) := by decide +kernel
theorem dX8_down_80 : decode cX8_down 80 = .ok (.aload_n 0, 1) := by decide +kernel
theorem dX8_down_81 : decode cX8_down 81 = .ok (.getfield 59, 3) := by decide +kernel
theorem dX8_down_84 : decode cX8_down 84 = .ok (.iload 5, 2) := by decide +kernel
theorem dX8_down_86 : decode cX8_down 86 = .ok (.iaload, 1) := by decide +kernel
theorem dX8_down_87 : decode cX8_down 87 = .ok (.aload_n 0, 1) := by decide +kernel
theorem dX8_down_88 : decode cX8_down 88 = .ok (.getfield 59, 3) := by decide +kernel
theorem dX8_down_91 : decode cX8_down 91 = .ok (.iload_n 3, 1) := by decide +kernel
theorem dX8_down_92 : decode cX8_down 92 = .ok (.iaload, 1) := by decide +kernel
theorem dX8_down_93 : decode cX8_down 93 = .ok (.invokevirtual 144, 3) := by decide +kernel
theorem dX8_down_96 : decode cX8_down 96 = .ok (.ifCond .eq 7, 3) := by decide +kernel
theorem dX8_down_99 : decode cX8_down 99 = .ok (.iconst 1, 1) := by decide +kernel
theorem dX8_down_100 : decode cX8_down 100 = .ok (.goto 4, 3) := by decide +kernel
theorem dX8_down_103 : decode cX8_down 103 = .ok (.iconst 0, 1) := by decide +kernel
theorem dX8_down_104 : decode cX8_down 104 = .ok (.istore 4, 2) := by decide +kernel
theorem dX8_down_106 : decode cX8_down 106 = .ok (.iload 4, 2) := by decide +kernel
theorem dX8_down_108 : decode cX8_down 108 = .ok (.ifCond .eq 32, 3) := by decide +kernel
theorem dX8_down_111 : decode cX8_down 111 = .ok (.aload_n 0, 1) := by decide +kernel
theorem dX8_down_112 : decode cX8_down 112 = .ok (.iload_n 3, 1) := by decide +kernel
theorem dX8_down_113 : decode cX8_down 113 = .ok (.iload 5, 2) := by decide +kernel
theorem dX8_down_115 : decode cX8_down 115 = .ok (.invokevirtual 148, 3) := by decide +kernel
theorem dX8_down_118 : decode cX8_down 118 = .ok (.iload 5, 2) := by decide +kernel
theorem dX8_down_120 : decode cX8_down 120 = .ok (.istore_n 3, 1) := by decide +kernel
theorem dX8_down_121 : decode cX8_down 121 = .ok (.iconst 2, 1) := by decide +kernel
theorem dX8_down_122 : decode cX8_down 122 = .ok (.iload_n 3, 1) := by decide +kernel
theorem dX8_down_123 : decode cX8_down 123 = .ok (.imul, 1) := by decide +kernel
theorem dX8_down_124 : decode cX8_down 124 = .ok (.iconst 1, 1) := by decide +kernel
theorem dX8_down_125 : decode cX8_down 125 = .ok (.iadd, 1) := by decide +kernel
theorem dX8_down_126 : decode cX8_down 126 = .ok (.aload_n 0, 1) := by decide +kernel
theorem dX8_down_127 : decode cX8_down 127 = .ok (.getfield 135, 3) := by decide +kernel
theorem dX8_down_130 : decode cX8_down 130 = .ok (.if_icmp .ge 7, 3) := by decide +kernel
theorem dX8_down_133 : decode cX8_down 133 = .ok (.iconst 1, 1) := by decide +kernel
theorem dX8_down_134 : decode cX8_down 134 = .ok (.goto 4, 3) := by decide +kernel
theorem dX8_down_137 : decode cX8_down 137 = .ok (.iconst 0, 1) := by decide +kernel
theorem dX8_down_138 : decode cX8_down 138 = .ok (.istore 4, 2) := by decide +kernel
theorem dX8_down_140 : decode cX8_down 140 = .ok (.goto (-119), 3) := by decide +kernel
theorem dX8_down_143 : decode cX8_down 143 = .ok (.return_, 1) := by decide +kernel
theorem dX8_comes_0 : decode cX8_comes 0 = .ok (.iload_n 1, 1) := by decide +kernel
theorem dX8_comes_1 : decode cX8_comes 1 = .ok (.iconst 1, 1) := by decide +kernel
theorem dX8_comes_2 : decode cX8_comes 2 = .ok (.if_icmp .ne 21, 3) := by decide +kernel
theorem dX8_comes_5 : decode cX8_comes 5 = .ok (.aload_n 0, 1) := by decide +kernel
theorem dX8_comes_6 : decode cX8_comes 6 = .ok (.iload_n 2, 1) := by decide +kernel
theorem dX8_comes_7 : decode cX8_comes 7 = .ok (.iload_n 3, 1) := by decide +kernel
theorem dX8_comes_8 : decode cX8_comes 8 = .ok (.invokevirtual 152, 3) := by decide +kernel
theorem dX8_comes_11 : decode cX8_comes 11 = .ok (.istore 4, 2) := by decide +kernel
theorem dX8_comes_13 : decode cX8_comes 13 = .ok (.aload_n 0, 1) := by decide +kernel
theorem dX8_comes_14 : decode cX8_comes 14 = .ok (.iload 4, 2) := by decide +kernel
theorem dX8_comes_16 : decode cX8_comes 16 = .ok (.iload_n 3, 1) := by decide +kernel
theorem dX8_comes_17 : decode cX8_comes 17 = .ok (.invokevirtual 155, 3) := by decide +kernel
theorem dX8_comes_20 : decode cX8_comes 20 = .ok (.goto 41, 3) := by decide +kernel
theorem dX8_comes_23 : decode cX8_comes 23 = .ok (.aload_n 0, 1) := by decide +kernel
theorem dX8_comes_24 : decode cX8_comes 24 = .ok (.getfield 59, 3) := by decide +kernel
theorem dX8_comes_27 : decode cX8_comes 27 = .ok (.aload_n 0, 1) := by decide +kernel
theorem dX8_comes_28 : decode cX8_comes 28 = .ok (.getfield 135, 3) := by decide +kernel
theorem dX8_comes_31 : decode cX8_comes 31 = .ok (.iload_n 3, 1) := by decide +kernel
theorem dX8_comes_32 : decode cX8_comes 32 = .ok (.iastore, 1) := by decide +kernel
theorem dX8_comes_33 : decode cX8_comes 33 = .ok (.aload_n 0, 1) := by decide +kernel
theorem dX8_comes_34 : decode cX8_comes 34 = .ok (.dup, 1) := by decide +kernel
theorem dX8_comes_35 : decode cX8_comes 35 = .ok (.getfield 135, 3) := by decide +kernel
theorem dX8_comes_38 : decode cX8_comes 38 = .ok (.iconst 1, 1) := by decide +kernel
theorem dX8_comes_39 : decode cX8_comes 39 = .ok (.iadd, 1) := by decide +kernel
theorem dX8_comes_40 : decode cX8_comes 40 = .ok (.putfield 135, 3) := by decide +kernel
theorem dX8_comes_43 : decode cX8_comes 43 = .ok (.iload_n 1, 1) := by decide +kernel
theorem dX8_comes_44 : decode cX8_comes 44 = .ok (.iconst 2, 1) := by decide +kernel
theorem dX8_comes_45 : decode cX8_comes 45 = .ok (.if_icmp .ne 16, 3) := by decide +kernel
theorem dX8_comes_48 : decode cX8_comes 48 = .ok (.aload_n 0, 1) := by decide +kernel
theorem dX8_comes_49 : decode cX8_comes 49 = .ok (.iload_n 2, 1) := by decide +kernel
theorem dX8_comes_50 : decode cX8_comes 50 = .ok (.aload_n 0, 1) := by decide +kernel
theorem dX8_comes_51 : decode cX8_comes 51 = .ok (.getfield 135, 3) := by decide +kernel
theorem dX8_comes_54 : decode cX8_comes 54 = .ok (.iconst 1, 1) := by decide +kernel
theorem dX8_comes_55 : decode cX8_comes 55 = .ok (.isub, 1) := by decide +kernel
theorem dX8_comes_56 : decode cX8_comes 56 = .ok (.invokevirtual 158, 3) := by decide +kernel
theorem dX8_comes_59 : decode cX8_comes 59 = .ok (.istore 4, 2) := by decide +kernel
theorem dX8_comes_61 : decode cX8_comes 61 = .ok (.return_, 1) := by decide +kernel
theorem dX8_put_0 : decode cX8_put 0 = .ok (.aload_n 0, 1) := by decide +kernel
theorem dX8_put_1 : decode cX8_put 1 = .ok (.iload_n 1, 1) := by decide +kernel
theorem dX8_put_2 : decode cX8_put 2 = .ok (.invokevirtual 162, 3) := by decide +kernel
theorem dX8_put_5 : decode cX8_put 5 = .ok (.ifCond .eq 11, 3) := by decide +kernel
theorem dX8_put_8 : decode cX8_put 8 = .ok (.aload_n 0, 1) := by decide +kernel
theorem dX8_put_9 : decode cX8_put 9 = .ok (.iload_n 2, 1) := by decide +kernel
theorem dX8_put_10 : decode cX8_put 10 = .ok (.invokevirtual 80, 3) := by decide +kernel
theorem dX8_put_13 : decode cX8_put 13 = .ok (.ifCond .ne 5, 3) := by decide +kernel
theorem dX8_put_16 : decode cX8_put 16 = .ok (.iconst (-1), 1) := by decide +kernel
theorem dX8_put_17 : decode cX8_put 17 = .ok (.ireturn, 1) := by decide +kernel
theorem dX8_put_18 : decode cX8_put 18 = .ok (.aload_n 0, 1) := by decide +kernel
theorem dX8_put_19 : decode cX8_put 19 = .ok (.getfield 49, 3) := by decide +kernel
theorem dX8_put_22 : decode cX8_put 22 = .ok (.iload_n 1, 1) := by decide +kernel
theorem dX8_put_23 : decode cX8_put 23 = .ok (.iaload, 1) := by decide +kernel
theorem dX8_put_24 : decode cX8_put 24 = .ok (.bipush 40, 2) := by decide +kernel
theorem dX8_put_26 : decode cX8_put 26 = .ok (.if_icmp .ne 6, 3) := by decide +kernel
theorem dX8_put_29 : decode cX8_put 29 = .ok (.bipush (-3), 2) := by decide +kernel
theorem dX8_put_31 : decode cX8_put 31 = .ok (.ireturn, 1) := by decide +kernel
theorem dX8_put_32 : decode cX8_put 32 = .ok (.aload_n 0, 1) := by decide +kernel
theorem dX8_put_33 : decode cX8_put 33 = .ok (.invokevirtual 165, 3) := by decide +kernel
theorem dX8_put_36 : decode cX8_put 36 = .ok (.aload_n 0, 1) := by decide +kernel
theorem dX8_put_37 : decode cX8_put 37 = .ok (.iload_n 1, 1) := by decide +kernel
theorem dX8_put_38 : decode cX8_put 38 = .ok (.invokevirtual 168, 3) := by decide +kernel
theorem dX8_put_41 : decode cX8_put 41 = .ok (.aload_n 0, 1) := by decide +kernel
theorem dX8_put_42 : decode cX8_put 42 = .ok (.aload_n 0, 1) := by decide +kernel
theorem dX8_put_43 : decode cX8_put 43 = .ok (.getfield 43, 3) := by decide +kernel
theorem dX8_put_46 : decode cX8_put 46 = .ok (.iload_n 1, 1) := by decide +kernel
theorem dX8_put_47 : decode cX8_put 47 = .ok (.iaload, 1) := by decide +kernel
theorem dX8_put_48 : decode cX8_put 48 = .ok (.aload_n 0, 1) := by decide +kernel
theorem dX8_put_49 : decode cX8_put 49 = .ok (.getfield 46, 3) := by decide +kernel
theorem dX8_put_52 : decode cX8_put 52 = .ok (.iload_n 1, 1) := by decide +kernel
theorem dX8_put_53 : decode cX8_put 53 = .ok (.iaload, 1) := by decide +kernel
theorem dX8_put_54 : decode cX8_put 54 = .ok (.iload_n 2, 1) := by decide +kernel
theorem dX8_put_55 : decode cX8_put 55 = .ok (.invokevirtual 171, 3) := by decide +kernel
theorem dX8_put_58 : decode cX8_put 58 = .ok (.aload_n 0, 1) := by decide +kernel
theorem dX8_put_59 : decode cX8_put 59 = .ok (.iload_n 1, 1) := by decide +kernel
theorem dX8_put_60 : decode cX8_put 60 = .ok (.invokevirtual 175, 3) := by decide +kernel
theorem dX8_put_63 : decode cX8_put 63 = .ok (.ireturn, 1) := by decide +kernel
theorem dX8_goes_0 : decode cX8_goes 0 = .ok (.aload_n 0, 1) := by decide +kernel
theorem dX8_goes_1 : decode cX8_goes 1 = .ok (.getfield 43, 3) := by decide +kernel
theorem dX8_goes_4 : decode cX8_goes 4 = .ok (.iload_n 1, 1) := by decide +kernel
theorem dX8_goes_5 : decode cX8_goes 5 = .ok (.iaload, 1) := by decide +kernel
theorem dX8_goes_6 : decode cX8_goes 6 = .ok (.iconst 2, 1) := by decide +kernel
theorem dX8_goes_7 : decode cX8_goes 7 = .ok (.if_icmp .eq 9, 3) := by decide +kernel
theorem dX8_goes_10 : decode cX8_goes 10 = .ok (.aload_n 0, 1) := by decide +kernel
theorem dX8_goes_11 : decode cX8_goes 11 = .ok (.iload_n 2, 1) := by decide +kernel
theorem dX8_goes_12 : decode cX8_goes 12 = .ok (.invokevirtual 179, 3) := by decide +kernel
theorem dX8_goes_15 : decode cX8_goes 15 = .ok (.return_, 1) := by decide +kernel
theorem dX8_goes_16 : decode cX8_goes 16 = .ok (.aload_n 0, 1) := by decide +kernel
theorem dX8_goes_17 : decode cX8_goes 17 = .ok (.dup, 1) := by decide +kernel
theorem dX8_goes_18 : decode cX8_goes 18 = .ok (.getfield 135, 3) := by decide +kernel
theorem dX8_goes_21 : decode cX8_goes 21 = .ok (.iconst 1, 1) := by decide +kernel
theorem dX8_goes_22 : decode cX8_goes 22 = .ok (.isub, 1) := by decide +kernel
theorem dX8_goes_23 : decode cX8_goes 23 = .ok (.putfield 135, 3) := by decide +kernel
theorem dX8_goes_26 : decode cX8_goes 26 = .ok (.iload_n 2, 1) := by decide +kernel
theorem dX8_goes_27 : decode cX8_goes 27 = .ok (.aload_n 0, 1) := by decide +kernel
theorem dX8_goes_28 : decode cX8_goes 28 = .ok (.getfield 135, 3) := by decide +kernel
theorem dX8_goes_31 : decode cX8_goes 31 = .ok (.if_icmp .ge 50, 3) := by decide +kernel
theorem dX8_goes_34 : decode cX8_goes 34 = .ok (.aload_n 0, 1) := by decide +kernel
theorem dX8_goes_35 : decode cX8_goes 35 = .ok (.getfield 59, 3) := by decide +kernel
theorem dX8_goes_38 : decode cX8_goes 38 = .ok (.iload_n 2, 1) := by decide +kernel
theorem dX8_goes_39 : decode cX8_goes 39 = .ok (.aload_n 0, 1) := by decide +kernel
theorem dX8_goes_40 : decode cX8_goes 40 = .ok (.getfield 59, 3) := by decide +kernel
theorem dX8_goes_43 : decode cX8_goes 43 = .ok (.aload_n 0, 1) := by decide +kernel
theorem dX8_goes_44 : decode cX8_goes 44 = .ok (.getfield 135, 3) := by decide +kernel
theorem dX8_goes_47 : decode cX8_goes 47 = .ok (.iaload, 1) := by decide +kernel
theorem dX8_goes_48 : decode cX8_goes 48 = .ok (.iastore, 1) := by decide +kernel
theorem dX8_goes_49 : decode cX8_goes 49 = .ok (.aload_n 0, 1) := by decide +kernel
theorem dX8_goes_50 : decode cX8_goes 50 = .ok (.aload_n 0, 1) := by decide +kernel
theorem dX8_goes_51 : decode cX8_goes 51 = .ok (.getfield 46, 3) := by decide +kernel
theorem dX8_goes_54 : decode cX8_goes 54 = .ok (.iload_n 1, 1) := by decide +kernel
theorem dX8_goes_55 : decode cX8_goes 55 = .ok (.iaload, 1) := by decide +kernel
theorem dX8_goes_56 : decode cX8_goes 56 = .ok (.iload_n 2, 1) := by decide +kernel
theorem dX8_goes_57 : decode cX8_goes 57 = .ok (.invokevirtual 158, 3) := by decide +kernel
theorem dX8_goes_60 : decode cX8_goes 60 = .ok (.ifCond .ne 21, 3) := by decide +kernel
theorem dX8_goes_63 : decode cX8_goes 63 = .ok (.aload_n 0, 1) := by decide +kernel
theorem dX8_goes_64 : decode cX8_goes 64 = .ok (.getfield 106, 3) := by decide +kernel
theorem dX8_goes_67 : decode cX8_goes 67 = .ok (.ifCond .ne 14, 3) := by decide +kernel
theorem dX8_goes_70 : decode cX8_goes 70 = .ok (.aload_n 0, 1) := by decide +kernel
theorem dX8_goes_71 : decode cX8_goes 71 = .ok (.aload_n 0, 1) := by decide +kernel
theorem dX8_goes_72 : decode cX8_goes 72 = .ok (.getfield 46, 3) := by decide +kernel
theorem dX8_goes_75 : decode cX8_goes 75 = .ok (.iload_n 1, 1) := by decide +kernel
theorem dX8_goes_76 : decode cX8_goes 76 = .ok (.iaload, 1) := by decide +kernel
theorem dX8_goes_77 : decode cX8_goes 77 = .ok (.iload_n 2, 1) := by decide +kernel
theorem dX8_goes_78 : decode cX8_goes 78 = .ok (.invokevirtual 182, 3) := by decide +kernel
theorem dX8_goes_81 : decode cX8_goes 81 = .ok (.return_, 1) := by decide +kernel
theorem dX8_take_0 : decode cX8_take 0 = .ok (.aload_n 0, 1) := by decide +kernel
theorem dX8_take_1 : decode cX8_take 1 = .ok (.iload_n 1, 1) := by decide +kernel
theorem dX8_take_2 : decode cX8_take 2 = .ok (.invokevirtual 162, 3) := by decide +kernel
theorem dX8_take_5 : decode cX8_take 5 = .ok (.ifCond .eq 21, 3) := by decide +kernel
theorem dX8_take_8 : decode cX8_take 8 = .ok (.iload_n 2, 1) := by decide +kernel
theorem dX8_take_9 : decode cX8_take 9 = .ok (.i2l, 1) := by decide +kernel
theorem dX8_take_10 : decode cX8_take 10 = .ok (.lconst 0, 1) := by decide +kernel
theorem dX8_take_11 : decode cX8_take 11 = .ok (.aload_n 0, 1) := by decide +kernel
theorem dX8_take_12 : decode cX8_take 12 = .ok (.getfield 49, 3) := by decide +kernel
theorem dX8_take_15 : decode cX8_take 15 = .ok (.iload_n 1, 1) := by decide +kernel
theorem dX8_take_16 : decode cX8_take 16 = .ok (.iaload, 1) := by decide +kernel
theorem dX8_take_17 : decode cX8_take 17 = .ok (.iconst 1, 1) := by decide +kernel
theorem dX8_take_18 : decode cX8_take 18 = .ok (.isub, 1) := by decide +kernel
theorem dX8_take_19 : decode cX8_take 19 = .ok (.i2l, 1) := by decide +kernel
theorem dX8_take_20 : decode cX8_take 20 = .ok (.invokestatic 68, 3) := by decide +kernel
theorem dX8_take_23 : decode cX8_take 23 = .ok (.ifCond .ne 5, 3) := by decide +kernel
theorem dX8_take_26 : decode cX8_take 26 = .ok (.iconst (-1), 1) := by decide +kernel
theorem dX8_take_27 : decode cX8_take 27 = .ok (.ireturn, 1) := by decide +kernel
theorem dX8_take_28 : decode cX8_take 28 = .ok (.aload_n 0, 1) := by decide +kernel
theorem dX8_take_29 : decode cX8_take 29 = .ok (.invokevirtual 165, 3) := by decide +kernel
theorem dX8_take_32 : decode cX8_take 32 = .ok (.aload_n 0, 1) := by decide +kernel
theorem dX8_take_33 : decode cX8_take 33 = .ok (.iload_n 1, 1) := by decide +kernel
theorem dX8_take_34 : decode cX8_take 34 = .ok (.invokevirtual 168, 3) := by decide +kernel
theorem dX8_take_37 : decode cX8_take 37 = .ok (.aload_n 0, 1) := by decide +kernel
theorem dX8_take_38 : decode cX8_take 38 = .ok (.iload_n 1, 1) := by decide +kernel
theorem dX8_take_39 : decode cX8_take 39 = .ok (.iload_n 2, 1) := by decide +kernel
theorem dX8_take_40 : decode cX8_take 40 = .ok (.invokevirtual 185, 3) := by decide +kernel
theorem dX8_take_43 : decode cX8_take 43 = .ok (.aload_n 0, 1) := by decide +kernel
theorem dX8_take_44 : decode cX8_take 44 = .ok (.iload_n 1, 1) := by decide +kernel
theorem dX8_take_45 : decode cX8_take 45 = .ok (.invokevirtual 175, 3) := by decide +kernel
theorem dX8_take_48 : decode cX8_take 48 = .ok (.ireturn, 1) := by decide +kernel
theorem dX8_first_0 : decode cX8_first 0 = .ok (.aload_n 0, 1) := by decide +kernel
theorem dX8_first_1 : decode cX8_first 1 = .ok (.iload_n 1, 1) := by decide +kernel
theorem dX8_first_2 : decode cX8_first 2 = .ok (.invokevirtual 162, 3) := by decide +kernel
theorem dX8_first_5 : decode cX8_first 5 = .ok (.ifCond .eq 12, 3) := by decide +kernel
theorem dX8_first_8 : decode cX8_first 8 = .ok (.aload_n 0, 1) := by decide +kernel
theorem dX8_first_9 : decode cX8_first 9 = .ok (.getfield 49, 3) := by decide +kernel
theorem dX8_first_12 : decode cX8_first 12 = .ok (.iload_n 1, 1) := by decide +kernel
theorem dX8_first_13 : decode cX8_first 13 = .ok (.iaload, 1) := by decide +kernel
theorem dX8_first_14 : decode cX8_first 14 = .ok (.ifCond .ne 5, 3) := by decide +kernel
theorem dX8_first_17 : decode cX8_first 17 = .ok (.iconst (-1), 1) := by decide +kernel
theorem dX8_first_18 : decode cX8_first 18 = .ok (.ireturn, 1) := by decide +kernel
theorem dX8_first_19 : decode cX8_first 19 = .ok (.aload_n 0, 1) := by decide +kernel
theorem dX8_first_20 : decode cX8_first 20 = .ok (.getfield 52, 3) := by decide +kernel
theorem dX8_first_23 : decode cX8_first 23 = .ok (.bipush 40, 2) := by decide +kernel
theorem dX8_first_25 : decode cX8_first 25 = .ok (.iload_n 1, 1) := by decide +kernel
theorem dX8_first_26 : decode cX8_first 26 = .ok (.imul, 1) := by decide +kernel
theorem dX8_first_27 : decode cX8_first 27 = .ok (.iaload, 1) := by decide +kernel
theorem dX8_first_28 : decode cX8_first 28 = .ok (.istore_n 2, 1) := by decide +kernel
theorem dX8_first_29 : decode cX8_first 29 = .ok (.aload_n 0, 1) := by decide +kernel
theorem dX8_first_30 : decode cX8_first 30 = .ok (.invokevirtual 165, 3) := by decide +kernel
theorem dX8_first_33 : decode cX8_first 33 = .ok (.aload_n 0, 1) := by decide +kernel
theorem dX8_first_34 : decode cX8_first 34 = .ok (.iload_n 1, 1) := by decide +kernel
theorem dX8_first_35 : decode cX8_first 35 = .ok (.invokevirtual 168, 3) := by decide +kernel
theorem dX8_first_38 : decode cX8_first 38 = .ok (.aload_n 0, 1) := by decide +kernel
theorem dX8_first_39 : decode cX8_first 39 = .ok (.iload_n 1, 1) := by decide +kernel
theorem dX8_first_40 : decode cX8_first 40 = .ok (.iconst 0, 1) := by decide +kernel
theorem dX8_first_41 : decode cX8_first 41 = .ok (.invokevirtual 185, 3) := by decide +kernel
theorem dX8_first_44 : decode cX8_first 44 = .ok (.aload_n 0, 1) := by decide +kernel
theorem dX8_first_45 : decode cX8_first 45 = .ok (.iload_n 1, 1) := by decide +kernel
theorem dX8_first_46 : decode cX8_first 46 = .ok (.invokevirtual 175, 3) := by decide +kernel
theorem dX8_first_49 : decode cX8_first 49 = .ok (.ifCond .ne 7, 3) := by decide +kernel
theorem dX8_first_52 : decode cX8_first 52 = .ok (.iload_n 2, 1) := by decide +kernel
theorem dX8_first_53 : decode cX8_first 53 = .ok (.goto 5, 3) := by decide +kernel
theorem dX8_first_56 : decode cX8_first 56 = .ok (.bipush (-11), 2) := by decide +kernel
theorem dX8_first_58 : decode cX8_first 58 = .ok (.ireturn, 1) := by decide +kernel
theorem dX8_find_0 : decode cX8_find 0 = .ok (.aload_n 0, 1) := by decide +kernel
theorem dX8_find_1 : decode cX8_find 1 = .ok (.iload_n 1, 1) := by decide +kernel
theorem dX8_find_2 : decode cX8_find 2 = .ok (.invokevirtual 162, 3) := by decide +kernel
theorem dX8_find_5 : decode cX8_find 5 = .ok (.ifCond .eq 11, 3) := by decide +kernel
theorem dX8_find_8 : decode cX8_find 8 = .ok (.aload_n 0, 1) := by decide +kernel
theorem dX8_find_9 : decode cX8_find 9 = .ok (.iload_n 2, 1) := by decide +kernel
theorem dX8_find_10 : decode cX8_find 10 = .ok (.invokevirtual 80, 3) := by decide +kernel
theorem dX8_find_13 : decode cX8_find 13 = .ok (.ifCond .ne 5, 3) := by decide +kernel
theorem dX8_find_16 : decode cX8_find 16 = .ok (.iconst (-1), 1) := by decide +kernel
theorem dX8_find_17 : decode cX8_find 17 = .ok (.ireturn, 1) := by decide +kernel
theorem dX8_find_18 : decode cX8_find 18 = .ok (.aload_n 0, 1) := by decide +kernel
theorem dX8_find_19 : decode cX8_find 19 = .ok (.getfield 43, 3) := by decide +kernel
theorem dX8_find_22 : decode cX8_find 22 = .ok (.iload_n 1, 1) := by decide +kernel
theorem dX8_find_23 : decode cX8_find 23 = .ok (.iaload, 1) := by decide +kernel
theorem dX8_find_24 : decode cX8_find 24 = .ok (.iconst 1, 1) := by decide +kernel
theorem dX8_find_25 : decode cX8_find 25 = .ok (.if_icmp .eq 6, 3) := by decide +kernel
theorem dX8_find_28 : decode cX8_find 28 = .ok (.bipush (-2), 2) := by decide +kernel
theorem dX8_find_30 : decode cX8_find 30 = .ok (.ireturn, 1) := by decide +kernel
theorem dX8_find_31 : decode cX8_find 31 = .ok (.aload_n 0, 1) := by decide +kernel
theorem dX8_find_32 : decode cX8_find 32 = .ok (.invokevirtual 165, 3) := by decide +kernel
theorem dX8_find_35 : decode cX8_find 35 = .ok (.aload_n 0, 1) := by decide +kernel
theorem dX8_find_36 : decode cX8_find 36 = .ok (.iload_n 1, 1) := by decide +kernel
theorem dX8_find_37 : decode cX8_find 37 = .ok (.invokevirtual 168, 3) := by decide +kernel
theorem dX8_find_40 : decode cX8_find 40 = .ok (.aload_n 0, 1) := by decide +kernel
theorem dX8_find_41 : decode cX8_find 41 = .ok (.aload_n 0, 1) := by decide +kernel
theorem dX8_find_42 : decode cX8_find 42 = .ok (.getfield 46, 3) := by decide +kernel
theorem dX8_find_45 : decode cX8_find 45 = .ok (.iload_n 1, 1) := by decide +kernel
theorem dX8_find_46 : decode cX8_find 46 = .ok (.iaload, 1) := by decide +kernel
theorem dX8_find_47 : decode cX8_find 47 = .ok (.iload_n 2, 1) := by decide +kernel
theorem dX8_find_48 : decode cX8_find 48 = .ok (.invokevirtual 152, 3) := by decide +kernel
theorem dX8_find_51 : decode cX8_find 51 = .ok (.istore_n 3, 1) := by decide +kernel
theorem dX8_find_52 : decode cX8_find 52 = .ok (.aload_n 0, 1) := by decide +kernel
theorem dX8_find_53 : decode cX8_find 53 = .ok (.iload_n 1, 1) := by decide +kernel
theorem dX8_find_54 : decode cX8_find 54 = .ok (.invokevirtual 175, 3) := by decide +kernel
theorem dX8_find_57 : decode cX8_find 57 = .ok (.ifCond .ne 7, 3) := by decide +kernel
theorem dX8_find_60 : decode cX8_find 60 = .ok (.iload_n 3, 1) := by decide +kernel
theorem dX8_find_61 : decode cX8_find 61 = .ok (.goto 5, 3) := by decide +kernel
theorem dX8_find_64 : decode cX8_find 64 = .ok (.bipush (-11), 2) := by decide +kernel
theorem dX8_find_66 : decode cX8_find 66 = .ok (.ireturn, 1) := by decide +kernel
theorem dX8_merge_0 : decode cX8_merge 0 = .ok (.iload_n 2, 1) := by decide +kernel
theorem dX8_merge_1 : decode cX8_merge 1 = .ok (.istore 5, 2) := by decide +kernel
theorem dX8_merge_3 : decode cX8_merge 3 = .ok (.iload_n 3, 1) := by decide +kernel
theorem dX8_merge_4 : decode cX8_merge 4 = .ok (.istore 6, 2) := by decide +kernel
theorem dX8_merge_6 : decode cX8_merge 6 = .ok (.iload_n 2, 1) := by decide +kernel
theorem dX8_merge_7 : decode cX8_merge 7 = .ok (.istore 7, 2) := by decide +kernel
theorem dX8_merge_9 : decode cX8_merge 9 = .ok (.iload 5, 2) := by decide +kernel
theorem dX8_merge_11 : decode cX8_merge 11 = .ok (.iload_n 3, 1) := by decide +kernel
theorem dX8_merge_12 : decode cX8_merge 12 = .ok (.if_icmp .ge 103, 3) := by decide +kernel
theorem dX8_merge_15 : decode cX8_merge 15 = .ok (.iload 6, 2) := by decide +kernel
theorem dX8_merge_17 : decode cX8_merge 17 = .ok (.iload 4, 2) := by decide +kernel
theorem dX8_merge_19 : decode cX8_merge 19 = .ok (.if_icmp .ge 96, 3) := by decide +kernel
theorem dX8_merge_22 : decode cX8_merge 22 = .ok (.aload_n 0, 1) := by decide +kernel
theorem dX8_merge_23 : decode cX8_merge 23 = .ok (.getfield 106, 3) := by decide +kernel
theorem dX8_merge_26 : decode cX8_merge 26 = .ok (.ifCond .ne 89, 3) := by decide +kernel
theorem dX8_merge_29 : decode cX8_merge 29 = .ok (.aload_n 0, 1) := by decide +kernel
theorem dX8_merge_30 : decode cX8_merge 30 = .ok (.iload_n 1, 1) := by decide +kernel
theorem dX8_merge_31 : decode cX8_merge 31 = .ok (.aload_n 0, 1) := by decide +kernel
theorem dX8_merge_32 : decode cX8_merge 32 = .ok (.getfield 59, 3) := by decide +kernel
theorem dX8_merge_35 : decode cX8_merge 35 = .ok (.iload 6, 2) := by decide +kernel
theorem dX8_merge_37 : decode cX8_merge 37 = .ok (.iaload, 1) := by decide +kernel
theorem dX8_merge_38 : decode cX8_merge 38 = .ok (.aload_n 0, 1) := by decide +kernel
theorem dX8_merge_39 : decode cX8_merge 39 = .ok (.getfield 59, 3) := by decide +kernel
theorem dX8_merge_42 : decode cX8_merge 42 = .ok (.iload 5, 2) := by decide +kernel
theorem dX8_merge_44 : decode cX8_merge 44 = .ok (.iaload, 1) := by decide +kernel
theorem dX8_merge_45 : decode cX8_merge 45 = .ok (.invokevirtual 144, 3) := by decide +kernel
theorem dX8_merge_48 : decode cX8_merge 48 = .ok (.istore 8, 2) := by decide +kernel
theorem dX8_merge_50 : decode cX8_merge 50 = .ok (.aload_n 0, 1) := by decide +kernel
theorem dX8_merge_51 : decode cX8_merge 51 = .ok (.getfield 62, 3) := by decide +kernel
theorem dX8_merge_54 : decode cX8_merge 54 = .ok (.iload 7, 2) := by decide +kernel
theorem dX8_merge_56 : decode cX8_merge 56 = .ok (.iload 8, 2) := by decide +kernel
theorem dX8_merge_58 : decode cX8_merge 58 = .ok (.ifCond .eq 13, 3) := by decide +kernel
theorem dX8_merge_61 : decode cX8_merge 61 = .ok (.aload_n 0, 1) := by decide +kernel
theorem dX8_merge_62 : decode cX8_merge 62 = .ok (.getfield 59, 3) := by decide +kernel
theorem dX8_merge_65 : decode cX8_merge 65 = .ok (.iload 6, 2) := by decide +kernel
theorem dX8_merge_67 : decode cX8_merge 67 = .ok (.iaload, 1) := by decide +kernel
theorem dX8_merge_68 : decode cX8_merge 68 = .ok (.goto 10, 3) := by decide +kernel
theorem dX8_merge_71 : decode cX8_merge 71 = .ok (.aload_n 0, 1) := by decide +kernel
theorem dX8_merge_72 : decode cX8_merge 72 = .ok (.getfield 59, 3) := by decide +kernel
theorem dX8_merge_75 : decode cX8_merge 75 = .ok (.iload 5, 2) := by decide +kernel
theorem dX8_merge_77 : decode cX8_merge 77 = .ok (.iaload, 1) := by decide +kernel
theorem dX8_merge_78 : decode cX8_merge 78 = .ok (.iastore, 1) := by decide +kernel
theorem dX8_merge_79 : decode cX8_merge 79 = .ok (.iinc 7 1, 3) := by decide +kernel
theorem dX8_merge_82 : decode cX8_merge 82 = .ok (.iload 5, 2) := by decide +kernel
theorem dX8_merge_84 : decode cX8_merge 84 = .ok (.iload 8, 2) := by decide +kernel
theorem dX8_merge_86 : decode cX8_merge 86 = .ok (.ifCond .eq 7, 3) := by decide +kernel
theorem dX8_merge_89 : decode cX8_merge 89 = .ok (.iconst 0, 1) := by decide +kernel
theorem dX8_merge_90 : decode cX8_merge 90 = .ok (.goto 4, 3) := by decide +kernel
theorem dX8_merge_93 : decode cX8_merge 93 = .ok (.iconst 1, 1) := by decide +kernel
theorem dX8_merge_94 : decode cX8_merge 94 = .ok (.iadd, 1) := by decide +kernel
theorem dX8_merge_95 : decode cX8_merge 95 = .ok (.istore 5, 2) := by decide +kernel
theorem dX8_merge_97 : decode cX8_merge 97 = .ok (.iload 6, 2) := by decide +kernel
theorem dX8_merge_99 : decode cX8_merge 99 = .ok (.iload 8, 2) := by decide +kernel
theorem dX8_merge_101 : decode cX8_merge 101 = .ok (.ifCond .eq 7, 3) := by decide +kernel
theorem dX8_merge_104 : decode cX8_merge 104 = .ok (.iconst 1, 1) := by decide +kernel
theorem dX8_merge_105 : decode cX8_merge 105 = .ok (.goto 4, 3) := by decide +kernel
theorem dX8_merge_108 : decode cX8_merge 108 = .ok (.iconst 0, 1) := by decide +kernel
theorem dX8_merge_109 : decode cX8_merge 109 = .ok (.iadd, 1) := by decide +kernel
theorem dX8_merge_110 : decode cX8_merge 110 = .ok (.istore 6, 2) := by decide +kernel
theorem dX8_merge_112 : decode cX8_merge 112 = .ok (.goto (-103), 3) := by decide +kernel
theorem dX8_merge_115 : decode cX8_merge 115 = .ok (.iload 5, 2) := by decide +kernel
theorem dX8_merge_117 : decode cX8_merge 117 = .ok (.iload_n 3, 1) := by decide +kernel
theorem dX8_merge_118 : decode cX8_merge 118 = .ok (.if_icmp .ge 33, 3) := by decide +kernel
theorem dX8_merge_121 : decode cX8_merge 121 = .ok (.aload_n 0, 1) := by decide +kernel
theorem dX8_merge_122 : decode cX8_merge 122 = .ok (.getfield 106, 3) := by decide +kernel
theorem dX8_merge_125 : decode cX8_merge 125 = .ok (.ifCond .ne 26, 3) := by decide +kernel
theorem dX8_merge_128 : decode cX8_merge 128 = .ok (.aload_n 0, 1) := by decide +kernel
theorem dX8_merge_129 : decode cX8_merge 129 = .ok (.getfield 62, 3) := by decide +kernel
theorem dX8_merge_132 : decode cX8_merge 132 = .ok (.iload 7, 2) := by decide +kernel
theorem dX8_merge_134 : decode cX8_merge 134 = .ok (.aload_n 0, 1) := by decide +kernel
theorem dX8_merge_135 : decode cX8_merge 135 = .ok (.getfield 59, 3) := by decide +kernel
theorem dX8_merge_138 : decode cX8_merge 138 = .ok (.iload 5, 2) := by decide +kernel
theorem dX8_merge_140 : decode cX8_merge 140 = .ok (.iaload, 1) := by decide +kernel
theorem dX8_merge_141 : decode cX8_merge 141 = .ok (.iastore, 1) := by decide +kernel
theorem dX8_merge_142 : decode cX8_merge 142 = .ok (.iinc 7 1, 3) := by decide +kernel
theorem dX8_merge_145 : decode cX8_merge 145 = .ok (.iinc 5 1, 3) := by decide +kernel
theorem dX8_merge_148 : decode cX8_merge 148 = .ok (.goto (-33), 3) := by decide +kernel
theorem dX8_merge_151 : decode cX8_merge 151 = .ok (.iload 6, 2) := by decide +kernel
theorem dX8_merge_153 : decode cX8_merge 153 = .ok (.iload 4, 2) := by decide +kernel
theorem dX8_merge_155 : decode cX8_merge 155 = .ok (.if_icmp .ge 33, 3) := by decide +kernel
theorem dX8_merge_158 : decode cX8_merge 158 = .ok (.aload_n 0, 1) := by decide +kernel
theorem dX8_merge_159 : decode cX8_merge 159 = .ok (.getfield 106, 3) := by decide +kernel
theorem dX8_merge_162 : decode cX8_merge 162 = .ok (.ifCond .ne 26, 3) := by decide +kernel
theorem dX8_merge_165 : decode cX8_merge 165 = .ok (.aload_n 0, 1) := by decide +kernel
theorem dX8_merge_166 : decode cX8_merge 166 = .ok (.getfield 62, 3) := by decide +kernel
theorem dX8_merge_169 : decode cX8_merge 169 = .ok (.iload 7, 2) := by decide +kernel
theorem dX8_merge_171 : decode cX8_merge 171 = .ok (.aload_n 0, 1) := by decide +kernel
theorem dX8_merge_172 : decode cX8_merge 172 = .ok (.getfield 59, 3) := by decide +kernel
theorem dX8_merge_175 : decode cX8_merge 175 = .ok (.iload 6, 2) := by decide +kernel
theorem dX8_merge_177 : decode cX8_merge 177 = .ok (.iaload, 1) := by decide +kernel
theorem dX8_merge_178 : decode cX8_merge 178 = .ok (.iastore, 1) := by decide +kernel
theorem dX8_merge_179 : decode cX8_merge 179 = .ok (.iinc 7 1, 3) := by decide +kernel
theorem dX8_merge_182 : decode cX8_merge 182 = .ok (.iinc 6 1, 3) := by decide +kernel
theorem dX8_merge_185 : decode cX8_merge 185 = .ok (.goto (-34), 3) := by decide +kernel
theorem dX8_merge_188 : decode cX8_merge 188 = .ok (.iload_n 2, 1) := by decide +kernel
theorem dX8_merge_189 : decode cX8_merge 189 = .ok (.istore 8, 2) := by decide +kernel
theorem dX8_merge_191 : decode cX8_merge 191 = .ok (.iload 8, 2) := by decide +kernel
theorem dX8_merge_193 : decode cX8_merge 193 = .ok (.iload 4, 2) := by decide +kernel
theorem dX8_merge_195 : decode cX8_merge 195 = .ok (.if_icmp .ge 30, 3) := by decide +kernel
theorem dX8_merge_198 : decode cX8_merge 198 = .ok (.aload_n 0, 1) := by decide +kernel
theorem dX8_merge_199 : decode cX8_merge 199 = .ok (.getfield 106, 3) := by decide +kernel
theorem dX8_merge_202 : decode cX8_merge 202 = .ok (.ifCond .ne 23, 3) := by decide +kernel
theorem dX8_merge_205 : decode cX8_merge 205 = .ok (.aload_n 0, 1) := by decide +kernel
theorem dX8_merge_206 : decode cX8_merge 206 = .ok (.getfield 59, 3) := by decide +kernel
theorem dX8_merge_209 : decode cX8_merge 209 = .ok (.iload 8, 2) := by decide +kernel
theorem dX8_merge_211 : decode cX8_merge 211 = .ok (.aload_n 0, 1) := by decide +kernel
theorem dX8_merge_212 : decode cX8_merge 212 = .ok (.getfield 62, 3) := by decide +kernel
theorem dX8_merge_215 : decode cX8_merge 215 = .ok (.iload 8, 2) := by decide +kernel
theorem dX8_merge_217 : decode cX8_merge 217 = .ok (.iaload, 1) := by decide +kernel
theorem dX8_merge_218 : decode cX8_merge 218 = .ok (.iastore, 1) := by decide +kernel
theorem dX8_merge_219 : decode cX8_merge 219 = .ok (.iinc 8 1, 3) := by decide +kernel
theorem dX8_merge_222 : decode cX8_merge 222 = .ok (.goto (-31), 3) := by decide +kernel
theorem dX8_merge_225 : decode cX8_merge 225 = .ok (.return_, 1) := by decide +kernel
theorem dX8_sort_0 : decode cX8_sort 0 = .ok (.aload_n 0, 1) := by decide +kernel
theorem dX8_sort_1 : decode cX8_sort 1 = .ok (.iload_n 1, 1) := by decide +kernel
theorem dX8_sort_2 : decode cX8_sort 2 = .ok (.invokevirtual 162, 3) := by decide +kernel
theorem dX8_sort_5 : decode cX8_sort 5 = .ok (.ifCond .eq 11, 3) := by decide +kernel
theorem dX8_sort_8 : decode cX8_sort 8 = .ok (.aload_n 0, 1) := by decide +kernel
theorem dX8_sort_9 : decode cX8_sort 9 = .ok (.iload_n 2, 1) := by decide +kernel
theorem dX8_sort_10 : decode cX8_sort 10 = .ok (.invokevirtual 91, 3) := by decide +kernel
theorem dX8_sort_13 : decode cX8_sort 13 = .ok (.ifCond .ne 5, 3) := by decide +kernel
theorem dX8_sort_16 : decode cX8_sort 16 = .ok (.iconst (-1), 1) := by decide +kernel
theorem dX8_sort_17 : decode cX8_sort 17 = .ok (.ireturn, 1) := by decide +kernel
theorem dX8_sort_18 : decode cX8_sort 18 = .ok (.aload_n 0, 1) := by decide +kernel
theorem dX8_sort_19 : decode cX8_sort 19 = .ok (.getfield 43, 3) := by decide +kernel
theorem dX8_sort_22 : decode cX8_sort 22 = .ok (.iload_n 1, 1) := by decide +kernel
theorem dX8_sort_23 : decode cX8_sort 23 = .ok (.iaload, 1) := by decide +kernel
theorem dX8_sort_24 : decode cX8_sort 24 = .ok (.ifCond .ne 11, 3) := by decide +kernel
theorem dX8_sort_27 : decode cX8_sort 27 = .ok (.aload_n 0, 1) := by decide +kernel
theorem dX8_sort_28 : decode cX8_sort 28 = .ok (.iload_n 2, 1) := by decide +kernel
theorem dX8_sort_29 : decode cX8_sort 29 = .ok (.invokevirtual 126, 3) := by decide +kernel
theorem dX8_sort_32 : decode cX8_sort 32 = .ok (.ifCond .ne 6, 3) := by decide +kernel
theorem dX8_sort_35 : decode cX8_sort 35 = .ok (.bipush (-2), 2) := by decide +kernel
theorem dX8_sort_37 : decode cX8_sort 37 = .ok (.ireturn, 1) := by decide +kernel
theorem dX8_sort_38 : decode cX8_sort 38 = .ok (.aload_n 0, 1) := by decide +kernel
theorem dX8_sort_39 : decode cX8_sort 39 = .ok (.invokevirtual 165, 3) := by decide +kernel
theorem dX8_sort_42 : decode cX8_sort 42 = .ok (.aload_n 0, 1) := by decide +kernel
theorem dX8_sort_43 : decode cX8_sort 43 = .ok (.iload_n 1, 1) := by decide +kernel
theorem dX8_sort_44 : decode cX8_sort 44 = .ok (.invokevirtual 168, 3) := by decide +kernel
theorem dX8_sort_47 : decode cX8_sort 47 = .ok (.iconst 1, 1) := by decide +kernel
theorem dX8_sort_48 : decode cX8_sort 48 = .ok (.istore_n 3, 1) := by decide +kernel
theorem dX8_sort_49 : decode cX8_sort 49 = .ok (.iload_n 3, 1) := by decide +kernel
theorem dX8_sort_50 : decode cX8_sort 50 = .ok (.aload_n 0, 1) := by decide +kernel
theorem dX8_sort_51 : decode cX8_sort 51 = .ok (.getfield 135, 3) := by decide +kernel
theorem dX8_sort_54 : decode cX8_sort 54 = .ok (.if_icmp .ge 86, 3) := by decide +kernel
theorem dX8_sort_57 : decode cX8_sort 57 = .ok (.aload_n 0, 1) := by decide +kernel
theorem dX8_sort_58 : decode cX8_sort 58 = .ok (.getfield 106, 3) := by decide +kernel
theorem dX8_sort_61 : decode cX8_sort 61 = .ok (.ifCond .ne 79, 3) := by decide +kernel
theorem dX8_sort_64 : decode cX8_sort 64 = .ok (.iconst 0, 1) := by decide +kernel
theorem dX8_sort_65 : decode cX8_sort 65 = .ok (.istore 4, 2) := by decide +kernel
theorem dX8_sort_67 : decode cX8_sort 67 = .ok (.iload 4, 2) := by decide +kernel
theorem dX8_sort_69 : decode cX8_sort 69 = .ok (.iload_n 3, 1) := by decide +kernel
theorem dX8_sort_70 : decode cX8_sort 70 = .ok (.iadd, 1) := by decide +kernel
theorem dX8_sort_71 : decode cX8_sort 71 = .ok (.aload_n 0, 1) := by decide +kernel
theorem dX8_sort_72 : decode cX8_sort 72 = .ok (.getfield 135, 3) := by decide +kernel
theorem dX8_sort_75 : decode cX8_sort 75 = .ok (.if_icmp .ge 58, 3) := by decide +kernel
theorem dX8_sort_78 : decode cX8_sort 78 = .ok (.aload_n 0, 1) := by decide +kernel
theorem dX8_sort_79 : decode cX8_sort 79 = .ok (.getfield 106, 3) := by decide +kernel
theorem dX8_sort_82 : decode cX8_sort 82 = .ok (.ifCond .ne 51, 3) := by decide +kernel
theorem dX8_sort_85 : decode cX8_sort 85 = .ok (.aload_n 0, 1) := by decide +kernel
theorem dX8_sort_86 : decode cX8_sort 86 = .ok (.iload_n 2, 1) := by decide +kernel
theorem dX8_sort_87 : decode cX8_sort 87 = .ok (.iload 4, 2) := by decide +kernel
theorem dX8_sort_89 : decode cX8_sort 89 = .ok (.iload 4, 2) := by decide +kernel
theorem dX8_sort_91 : decode cX8_sort 91 = .ok (.iload_n 3, 1) := by decide +kernel
theorem dX8_sort_92 : decode cX8_sort 92 = .ok (.iadd, 1) := by decide +kernel
theorem dX8_sort_93 : decode cX8_sort 93 = .ok (.iload 4, 2) := by decide +kernel
theorem dX8_sort_95 : decode cX8_sort 95 = .ok (.iconst 2, 1) := by decide +kernel
theorem dX8_sort_96 : decode cX8_sort 96 = .ok (.iload_n 3, 1) := by decide +kernel
theorem dX8_sort_97 : decode cX8_sort 97 = .ok (.imul, 1) := by decide +kernel
theorem dX8_sort_98 : decode cX8_sort 98 = .ok (.iadd, 1) := by decide +kernel
theorem dX8_sort_99 : decode cX8_sort 99 = .ok (.aload_n 0, 1) := by decide +kernel
theorem dX8_sort_100 : decode cX8_sort 100 = .ok (.getfield 135, 3) := by decide +kernel
theorem dX8_sort_103 : decode cX8_sort 103 = .ok (.if_icmp .ge 12, 3) := by decide +kernel
theorem dX8_sort_106 : decode cX8_sort 106 = .ok (.iload 4, 2) := by decide +kernel
theorem dX8_sort_108 : decode cX8_sort 108 = .ok (.iconst 2, 1) := by decide +kernel
theorem dX8_sort_109 : decode cX8_sort 109 = .ok (.iload_n 3, 1) := by decide +kernel
theorem dX8_sort_110 : decode cX8_sort 110 = .ok (.imul, 1) := by decide +kernel
theorem dX8_sort_111 : decode cX8_sort 111 = .ok (.iadd, 1) := by decide +kernel
theorem dX8_sort_112 : decode cX8_sort 112 = .ok (.goto 7, 3) := by decide +kernel
theorem dX8_sort_115 : decode cX8_sort 115 = .ok (.aload_n 0, 1) := by decide +kernel
theorem dX8_sort_116 : decode cX8_sort 116 = .ok (.getfield 135, 3) := by decide +kernel
theorem dX8_sort_119 : decode cX8_sort 119 = .ok (.invokevirtual 188, 3) := by decide +kernel
theorem dX8_sort_122 : decode cX8_sort 122 = .ok (.iload 4, 2) := by decide +kernel
theorem dX8_sort_124 : decode cX8_sort 124 = .ok (.iconst 2, 1) := by decide +kernel
theorem dX8_sort_125 : decode cX8_sort 125 = .ok (.iload_n 3, 1) := by decide +kernel
theorem dX8_sort_126 : decode cX8_sort 126 = .ok (.imul, 1) := by decide +kernel
theorem dX8_sort_127 : decode cX8_sort 127 = .ok (.iadd, 1) := by decide +kernel
theorem dX8_sort_128 : decode cX8_sort 128 = .ok (.istore 4, 2) := by decide +kernel
theorem dX8_sort_130 : decode cX8_sort 130 = .ok (.goto (-63), 3) := by decide +kernel
theorem dX8_sort_133 : decode cX8_sort 133 = .ok (.iload_n 3, 1) := by decide +kernel
theorem dX8_sort_134 : decode cX8_sort 134 = .ok (.iconst 2, 1) := by decide +kernel
theorem dX8_sort_135 : decode cX8_sort 135 = .ok (.imul, 1) := by decide +kernel
theorem dX8_sort_136 : decode cX8_sort 136 = .ok (.istore_n 3, 1) := by decide +kernel
theorem dX8_sort_137 : decode cX8_sort 137 = .ok (.goto (-88), 3) := by decide +kernel
theorem dX8_sort_140 : decode cX8_sort 140 = .ok (.aload_n 0, 1) := by decide +kernel
theorem dX8_sort_141 : decode cX8_sort 141 = .ok (.iload_n 1, 1) := by decide +kernel
theorem dX8_sort_142 : decode cX8_sort 142 = .ok (.invokevirtual 175, 3) := by decide +kernel
theorem dX8_sort_145 : decode cX8_sort 145 = .ok (.ireturn, 1) := by decide +kernel
theorem dX8_isKept_0 : decode cX8_isKept 0 = .ok (.aload_n 0, 1) := by decide +kernel
theorem dX8_isKept_1 : decode cX8_isKept 1 = .ok (.iload_n 1, 1) := by decide +kernel
theorem dX8_isKept_2 : decode cX8_isKept 2 = .ok (.invokevirtual 119, 3) := by decide +kernel
theorem dX8_isKept_5 : decode cX8_isKept 5 = .ok (.istore_n 3, 1) := by decide +kernel
theorem dX8_isKept_6 : decode cX8_isKept 6 = .ok (.aload_n 0, 1) := by decide +kernel
theorem dX8_isKept_7 : decode cX8_isKept 7 = .ok (.getfield 7, 3) := by decide +kernel
theorem dX8_isKept_10 : decode cX8_isKept 10 = .ok (.iload_n 2, 1) := by decide +kernel
theorem dX8_isKept_11 : decode cX8_isKept 11 = .ok (.iaload, 1) := by decide +kernel
theorem dX8_isKept_12 : decode cX8_isKept 12 = .ok (.aload_n 0, 1) := by decide +kernel
theorem dX8_isKept_13 : decode cX8_isKept 13 = .ok (.getfield 19, 3) := by decide +kernel
theorem dX8_isKept_16 : decode cX8_isKept 16 = .ok (.iload_n 1, 1) := by decide +kernel
theorem dX8_isKept_17 : decode cX8_isKept 17 = .ok (.iaload, 1) := by decide +kernel
theorem dX8_isKept_18 : decode cX8_isKept 18 = .ok (.if_icmp .lt 7, 3) := by decide +kernel
theorem dX8_isKept_21 : decode cX8_isKept 21 = .ok (.iconst 1, 1) := by decide +kernel
theorem dX8_isKept_22 : decode cX8_isKept 22 = .ok (.goto 4, 3) := by decide +kernel
theorem dX8_isKept_25 : decode cX8_isKept 25 = .ok (.iconst 0, 1) := by decide +kernel
theorem dX8_isKept_26 : decode cX8_isKept 26 = .ok (.iload_n 3, 1) := by decide +kernel
theorem dX8_isKept_27 : decode cX8_isKept 27 = .ok (.if_icmp .eq 7, 3) := by decide +kernel
theorem dX8_isKept_30 : decode cX8_isKept 30 = .ok (.iconst 1, 1) := by decide +kernel
theorem dX8_isKept_31 : decode cX8_isKept 31 = .ok (.goto 4, 3) := by decide +kernel
theorem dX8_isKept_34 : decode cX8_isKept 34 = .ok (.iconst 0, 1) := by decide +kernel
theorem dX8_isKept_35 : decode cX8_isKept 35 = .ok (.ireturn, 1) := by decide +kernel
theorem dX8_filter_0 : decode cX8_filter 0 = .ok (.aload_n 0, 1) := by decide +kernel
theorem dX8_filter_1 : decode cX8_filter 1 = .ok (.iload_n 1, 1) := by decide +kernel
theorem dX8_filter_2 : decode cX8_filter 2 = .ok (.invokevirtual 162, 3) := by decide +kernel
theorem dX8_filter_5 : decode cX8_filter 5 = .ok (.ifCond .eq 11, 3) := by decide +kernel
theorem dX8_filter_8 : decode cX8_filter 8 = .ok (.aload_n 0, 1) := by decide +kernel
theorem dX8_filter_9 : decode cX8_filter 9 = .ok (.iload_n 2, 1) := by decide +kernel
theorem dX8_filter_10 : decode cX8_filter 10 = .ok (.invokevirtual 91, 3) := by decide +kernel
theorem dX8_filter_13 : decode cX8_filter 13 = .ok (.ifCond .ne 5, 3) := by decide +kernel
theorem dX8_filter_16 : decode cX8_filter 16 = .ok (.iconst (-1), 1) := by decide +kernel
theorem dX8_filter_17 : decode cX8_filter 17 = .ok (.ireturn, 1) := by decide +kernel
theorem dX8_filter_18 : decode cX8_filter 18 = .ok (.aload_n 0, 1) := by decide +kernel
theorem dX8_filter_19 : decode cX8_filter 19 = .ok (.getfield 16, 3) := by decide +kernel
theorem dX8_filter_22 : decode cX8_filter 22 = .ok (.iload_n 2, 1) := by decide +kernel
theorem dX8_filter_23 : decode cX8_filter 23 = .ok (.iaload, 1) := by decide +kernel
theorem dX8_filter_24 : decode cX8_filter 24 = .ok (.iconst 3, 1) := by decide +kernel
theorem dX8_filter_25 : decode cX8_filter 25 = .ok (.if_icmp .eq 6, 3) := by decide +kernel
theorem dX8_filter_28 : decode cX8_filter 28 = .ok (.bipush (-2), 2) := by decide +kernel
theorem dX8_filter_30 : decode cX8_filter 30 = .ok (.ireturn, 1) := by decide +kernel
theorem dX8_filter_31 : decode cX8_filter 31 = .ok (.aload_n 0, 1) := by decide +kernel
theorem dX8_filter_32 : decode cX8_filter 32 = .ok (.invokevirtual 165, 3) := by decide +kernel
theorem dX8_filter_35 : decode cX8_filter 35 = .ok (.aload_n 0, 1) := by decide +kernel
theorem dX8_filter_36 : decode cX8_filter 36 = .ok (.iload_n 1, 1) := by decide +kernel
theorem dX8_filter_37 : decode cX8_filter 37 = .ok (.invokevirtual 168, 3) := by decide +kernel
theorem dX8_filter_40 : decode cX8_filter 40 = .ok (.aload_n 0, 1) := by decide +kernel
theorem dX8_filter_41 : decode cX8_filter 41 = .ok (.getfield 135, 3) := by decide +kernel
theorem dX8_filter_44 : decode cX8_filter 44 = .ok (.istore_n 3, 1) := by decide +kernel
theorem dX8_filter_45 : decode cX8_filter 45 = .ok (.iconst 0, 1) := by decide +kernel
theorem dX8_filter_46 : decode cX8_filter 46 = .ok (.istore 4, 2) := by decide +kernel
theorem dX8_filter_48 : decode cX8_filter 48 = .ok (.iconst 0, 1) := by decide +kernel
theorem dX8_filter_49 : decode cX8_filter 49 = .ok (.istore 5, 2) := by decide +kernel
theorem dX8_filter_51 : decode cX8_filter 51 = .ok (.iload 5, 2) := by decide +kernel
theorem dX8_filter_53 : decode cX8_filter 53 = .ok (.iload_n 3, 1) := by decide +kernel
theorem dX8_filter_54 : decode cX8_filter 54 = .ok (.if_icmp .ge 76, 3) := by decide +kernel
theorem dX8_filter_57 : decode cX8_filter 57 = .ok (.aload_n 0, 1) := by decide +kernel
theorem dX8_filter_58 : decode cX8_filter 58 = .ok (.getfield 106, 3) := by decide +kernel
theorem dX8_filter_61 : decode cX8_filter 61 = .ok (.ifCond .ne 69, 3) := by decide +kernel
theorem dX8_filter_64 : decode cX8_filter 64 = .ok (.aload_n 0, 1) := by decide +kernel
theorem dX8_filter_65 : decode cX8_filter 65 = .ok (.iload_n 2, 1) := by decide +kernel
theorem dX8_filter_66 : decode cX8_filter 66 = .ok (.aload_n 0, 1) := by decide +kernel
theorem dX8_filter_67 : decode cX8_filter 67 = .ok (.getfield 59, 3) := by decide +kernel
theorem dX8_filter_70 : decode cX8_filter 70 = .ok (.iload 5, 2) := by decide +kernel
theorem dX8_filter_72 : decode cX8_filter 72 = .ok (.iaload, 1) := by decide +kernel
theorem dX8_filter_73 : decode cX8_filter 73 = .ok (.invokevirtual 192, 3) := by decide +kernel
theorem dX8_filter_76 : decode cX8_filter 76 = .ok (.istore 6, 2) := by decide +kernel
theorem dX8_filter_78 : decode cX8_filter 78 = .ok (.aload_n 0, 1) := by decide +kernel
theorem dX8_filter_79 : decode cX8_filter 79 = .ok (.getfield 106, 3) := by decide +kernel
theorem dX8_filter_82 : decode cX8_filter 82 = .ok (.ifCond .ne 42, 3) := by decide +kernel
theorem dX8_filter_85 : decode cX8_filter 85 = .ok (.aload_n 0, 1) := by decide +kernel
theorem dX8_filter_86 : decode cX8_filter 86 = .ok (.dup, 1) := by decide +kernel
theorem dX8_filter_87 : decode cX8_filter 87 = .ok (.getfield 132, 3) := by decide +kernel
theorem dX8_filter_90 : decode cX8_filter 90 = .ok (.iconst 1, 1) := by decide +kernel
theorem dX8_filter_91 : decode cX8_filter 91 = .ok (.iadd, 1) := by decide +kernel
theorem dX8_filter_92 : decode cX8_filter 92 = .ok (.putfield 132, 3) := by decide +kernel
theorem dX8_filter_95 : decode cX8_filter 95 = .ok (.aload_n 0, 1) := by decide +kernel
theorem dX8_filter_96 : decode cX8_filter 96 = .ok (.getfield 62, 3) := by decide +kernel
theorem dX8_filter_99 : decode cX8_filter 99 = .ok (.iload 4, 2) := by decide +kernel
theorem dX8_filter_101 : decode cX8_filter 101 = .ok (.aload_n 0, 1) := by decide +kernel
theorem dX8_filter_102 : decode cX8_filter 102 = .ok (.getfield 59, 3) := by decide +kernel
theorem dX8_filter_105 : decode cX8_filter 105 = .ok (.iload 5, 2) := by decide +kernel
theorem dX8_filter_107 : decode cX8_filter 107 = .ok (.iaload, 1) := by decide +kernel
theorem dX8_filter_108 : decode cX8_filter 108 = .ok (.iastore, 1) := by decide +kernel
theorem dX8_filter_109 : decode cX8_filter 109 = .ok (.iload 4, 2) := by decide +kernel
theorem dX8_filter_111 : decode cX8_filter 111 = .ok (.iload 6, 2) := by decide +kernel
theorem dX8_filter_113 : decode cX8_filter 113 = .ok (.ifCond .eq 7, 3) := by decide +kernel
theorem dX8_filter_116 : decode cX8_filter 116 = .ok (.iconst 1, 1) := by decide +kernel
theorem dX8_filter_117 : decode cX8_filter 117 = .ok (.goto 4, 3) := by decide +kernel
theorem dX8_filter_120 : decode cX8_filter 120 = .ok (.iconst 0, 1) := by decide +kernel
theorem dX8_filter_121 : decode cX8_filter 121 = .ok (.iadd, 1) := by decide +kernel
theorem dX8_filter_122 : decode cX8_filter 122 = .ok (.istore 4, 2) := by decide +kernel
theorem dX8_filter_124 : decode cX8_filter 124 = .ok (.iinc 5 1, 3) := by decide +kernel
theorem dX8_filter_127 : decode cX8_filter 127 = .ok (.goto (-76), 3) := by decide +kernel
theorem dX8_filter_130 : decode cX8_filter 130 = .ok (.aload_n 0, 1) := by decide +kernel
theorem dX8_filter_131 : decode cX8_filter 131 = .ok (.getfield 43, 3) := by decide +kernel
theorem dX8_filter_134 : decode cX8_filter 134 = .ok (.iload_n 1, 1) := by decide +kernel
theorem dX8_filter_135 : decode cX8_filter 135 = .ok (.iaload, 1) := by decide +kernel
theorem dX8_filter_136 : decode cX8_filter 136 = .ok (.iconst 2, 1) := by decide +kernel
theorem dX8_filter_137 : decode cX8_filter 137 = .ok (.if_icmp .ne 55, 3) := by decide +kernel
theorem dX8_filter_140 : decode cX8_filter 140 = .ok (.aload_n 0, 1) := by decide +kernel
theorem dX8_filter_141 : decode cX8_filter 141 = .ok (.iconst 0, 1) := by decide +kernel
theorem dX8_filter_142 : decode cX8_filter 142 = .ok (.putfield 135, 3) := by decide +kernel
theorem dX8_filter_145 : decode cX8_filter 145 = .ok (.iconst 0, 1) := by decide +kernel
theorem dX8_filter_146 : decode cX8_filter 146 = .ok (.istore 5, 2) := by decide +kernel
theorem dX8_filter_148 : decode cX8_filter 148 = .ok (.iload 5, 2) := by decide +kernel
theorem dX8_filter_150 : decode cX8_filter 150 = .ok (.iload 4, 2) := by decide +kernel
theorem dX8_filter_152 : decode cX8_filter 152 = .ok (.if_icmp .ge 34, 3) := by decide +kernel
theorem dX8_filter_155 : decode cX8_filter 155 = .ok (.aload_n 0, 1) := by decide +kernel
theorem dX8_filter_156 : decode cX8_filter 156 = .ok (.getfield 106, 3) := by decide +kernel
theorem dX8_filter_159 : decode cX8_filter 159 = .ok (.ifCond .ne 27, 3) := by decide +kernel
theorem dX8_filter_162 : decode cX8_filter 162 = .ok (.aload_n 0, 1) := by decide +kernel
theorem dX8_filter_163 : decode cX8_filter 163 = .ok (.iconst 2, 1) := by decide +kernel
theorem dX8_filter_164 : decode cX8_filter 164 = .ok (.aload_n 0, 1) := by decide +kernel
theorem dX8_filter_165 : decode cX8_filter 165 = .ok (.getfield 46, 3) := by decide +kernel
theorem dX8_filter_168 : decode cX8_filter 168 = .ok (.iload_n 1, 1) := by decide +kernel
theorem dX8_filter_169 : decode cX8_filter 169 = .ok (.iaload, 1) := by decide +kernel
theorem dX8_filter_170 : decode cX8_filter 170 = .ok (.aload_n 0, 1) := by decide +kernel
theorem dX8_filter_171 : decode cX8_filter 171 = .ok (.getfield 62, 3) := by decide +kernel
theorem dX8_filter_174 : decode cX8_filter 174 = .ok (.iload 5, 2) := by decide +kernel
theorem dX8_filter_176 : decode cX8_filter 176 = .ok (.iaload, 1) := by decide +kernel
theorem dX8_filter_177 : decode cX8_filter 177 = .ok (.invokevirtual 171, 3) := by decide +kernel
theorem dX8_filter_180 : decode cX8_filter 180 = .ok (.iinc 5 1, 3) := by decide +kernel
theorem dX8_filter_183 : decode cX8_filter 183 = .ok (.goto (-35), 3) := by decide +kernel
theorem dX8_filter_186 : decode cX8_filter 186 = .ok (.aload_n 0, 1) := by decide +kernel
theorem dX8_filter_187 : decode cX8_filter 187 = .ok (.iload_n 1, 1) := by decide +kernel
theorem dX8_filter_188 : decode cX8_filter 188 = .ok (.invokevirtual 175, 3) := by decide +kernel
theorem dX8_filter_191 : decode cX8_filter 191 = .ok (.ireturn, 1) := by decide +kernel
theorem dX8_filter_192 : decode cX8_filter 192 = .ok (.aload_n 0, 1) := by decide +kernel
theorem dX8_filter_193 : decode cX8_filter 193 = .ok (.getfield 132, 3) := by decide +kernel
theorem dX8_filter_196 : decode cX8_filter 196 = .ok (.istore 5, 2) := by decide +kernel
theorem dX8_filter_198 : decode cX8_filter 198 = .ok (.iload 5, 2) := by decide +kernel
theorem dX8_filter_200 : decode cX8_filter 200 = .ok (.iload_n 3, 1) := by decide +kernel
theorem dX8_filter_201 : decode cX8_filter 201 = .ok (.if_icmp .ge 26, 3) := by decide +kernel
theorem dX8_filter_204 : decode cX8_filter 204 = .ok (.aload_n 0, 1) := by decide +kernel
theorem dX8_filter_205 : decode cX8_filter 205 = .ok (.getfield 62, 3) := by decide +kernel
theorem dX8_filter_208 : decode cX8_filter 208 = .ok (.iload 4, 2) := by decide +kernel
theorem dX8_filter_210 : decode cX8_filter 210 = .ok (.aload_n 0, 1) := by decide +kernel
theorem dX8_filter_211 : decode cX8_filter 211 = .ok (.getfield 59, 3) := by decide +kernel
theorem dX8_filter_214 : decode cX8_filter 214 = .ok (.iload 5, 2) := by decide +kernel
theorem dX8_filter_216 : decode cX8_filter 216 = .ok (.iaload, 1) := by decide +kernel
theorem dX8_filter_217 : decode cX8_filter 217 = .ok (.iastore, 1) := by decide +kernel
theorem dX8_filter_218 : decode cX8_filter 218 = .ok (.iinc 4 1, 3) := by decide +kernel
theorem dX8_filter_221 : decode cX8_filter 221 = .ok (.iinc 5 1, 3) := by decide +kernel
theorem dX8_filter_224 : decode cX8_filter 224 = .ok (.goto (-26), 3) := by decide +kernel
theorem dX8_filter_227 : decode cX8_filter 227 = .ok (.aload_n 0, 1) := by decide +kernel
theorem dX8_filter_228 : decode cX8_filter 228 = .ok (.iload 4, 2) := by decide +kernel
theorem dX8_filter_230 : decode cX8_filter 230 = .ok (.putfield 135, 3) := by decide +kernel
theorem dX8_filter_233 : decode cX8_filter 233 = .ok (.iconst 0, 1) := by decide +kernel
theorem dX8_filter_234 : decode cX8_filter 234 = .ok (.istore 5, 2) := by decide +kernel
theorem dX8_filter_236 : decode cX8_filter 236 = .ok (.iload 5, 2) := by decide +kernel
theorem dX8_filter_238 : decode cX8_filter 238 = .ok (.iload 4, 2) := by decide +kernel
theorem dX8_filter_240 : decode cX8_filter 240 = .ok (.if_icmp .ge 23, 3) := by decide +kernel
theorem dX8_filter_243 : decode cX8_filter 243 = .ok (.aload_n 0, 1) := by decide +kernel
theorem dX8_filter_244 : decode cX8_filter 244 = .ok (.getfield 59, 3) := by decide +kernel
theorem dX8_filter_247 : decode cX8_filter 247 = .ok (.iload 5, 2) := by decide +kernel
theorem dX8_filter_249 : decode cX8_filter 249 = .ok (.aload_n 0, 1) := by decide +kernel
theorem dX8_filter_250 : decode cX8_filter 250 = .ok (.getfield 62, 3) := by decide +kernel
theorem dX8_filter_253 : decode cX8_filter 253 = .ok (.iload 5, 2) := by decide +kernel
theorem dX8_filter_255 : decode cX8_filter 255 = .ok (.iaload, 1) := by decide +kernel
theorem dX8_filter_256 : decode cX8_filter 256 = .ok (.iastore, 1) := by decide +kernel
theorem dX8_filter_257 : decode cX8_filter 257 = .ok (.iinc 5 1, 3) := by decide +kernel
theorem dX8_filter_260 : decode cX8_filter 260 = .ok (.goto (-24), 3) := by decide +kernel
theorem dX8_filter_263 : decode cX8_filter 263 = .ok (.aload_n 0, 1) := by decide +kernel
theorem dX8_filter_264 : decode cX8_filter 264 = .ok (.iload_n 1, 1) := by decide +kernel
theorem dX8_filter_265 : decode cX8_filter 265 = .ok (.invokevirtual 141, 3) := by decide +kernel
theorem dX8_filter_268 : decode cX8_filter 268 = .ok (.aload_n 0, 1) := by decide +kernel
theorem dX8_filter_269 : decode cX8_filter 269 = .ok (.dup, 1) := by decide +kernel
theorem dX8_filter_270 : decode cX8_filter 270 = .ok (.getfield 138, 3) := by decide +kernel
theorem dX8_filter_273 : decode cX8_filter 273 = .ok (.aload_n 0, 1) := by decide +kernel
theorem dX8_filter_274 : decode cX8_filter 274 = .ok (.getfield 106, 3) := by decide +kernel
theorem dX8_filter_277 : decode cX8_filter 277 = .ok (.ifCond .eq 7, 3) := by decide +kernel
theorem dX8_filter_280 : decode cX8_filter 280 = .ok (.iconst 1, 1) := by decide +kernel
theorem dX8_filter_281 : decode cX8_filter 281 = .ok (.goto 4, 3) := by decide +kernel
theorem dX8_filter_284 : decode cX8_filter 284 = .ok (.iconst 0, 1) := by decide +kernel
theorem dX8_filter_285 : decode cX8_filter 285 = .ok (.iadd, 1) := by decide +kernel
theorem dX8_filter_286 : decode cX8_filter 286 = .ok (.putfield 138, 3) := by decide +kernel
theorem dX8_filter_289 : decode cX8_filter 289 = .ok (.aload_n 0, 1) := by decide +kernel
theorem dX8_filter_290 : decode cX8_filter 290 = .ok (.getfield 106, 3) := by decide +kernel
theorem dX8_filter_293 : decode cX8_filter 293 = .ok (.ifCond .eq 7, 3) := by decide +kernel
theorem dX8_filter_296 : decode cX8_filter 296 = .ok (.iconst 2, 1) := by decide +kernel
theorem dX8_filter_297 : decode cX8_filter 297 = .ok (.goto 4, 3) := by decide +kernel
theorem dX8_filter_300 : decode cX8_filter 300 = .ok (.iconst 0, 1) := by decide +kernel
theorem dX8_filter_301 : decode cX8_filter 301 = .ok (.ireturn, 1) := by decide +kernel
theorem dX8_change_0 : decode cX8_change 0 = .ok (.aload_n 0, 1) := by decide +kernel
theorem dX8_change_1 : decode cX8_change 1 = .ok (.iload_n 1, 1) := by decide +kernel
theorem dX8_change_2 : decode cX8_change 2 = .ok (.invokevirtual 162, 3) := by decide +kernel
theorem dX8_change_5 : decode cX8_change 5 = .ok (.ifCond .eq 11, 3) := by decide +kernel
theorem dX8_change_8 : decode cX8_change 8 = .ok (.aload_n 0, 1) := by decide +kernel
theorem dX8_change_9 : decode cX8_change 9 = .ok (.iload_n 2, 1) := by decide +kernel
theorem dX8_change_10 : decode cX8_change 10 = .ok (.invokevirtual 91, 3) := by decide +kernel
theorem dX8_change_13 : decode cX8_change 13 = .ok (.ifCond .ne 5, 3) := by decide +kernel
theorem dX8_change_16 : decode cX8_change 16 = .ok (.iconst (-1), 1) := by decide +kernel
theorem dX8_change_17 : decode cX8_change 17 = .ok (.ireturn, 1) := by decide +kernel
theorem dX8_change_18 : decode cX8_change 18 = .ok (.aload_n 0, 1) := by decide +kernel
theorem dX8_change_19 : decode cX8_change 19 = .ok (.getfield 43, 3) := by decide +kernel
theorem dX8_change_22 : decode cX8_change 22 = .ok (.iload_n 1, 1) := by decide +kernel
theorem dX8_change_23 : decode cX8_change 23 = .ok (.iaload, 1) := by decide +kernel
theorem dX8_change_24 : decode cX8_change 24 = .ok (.ifCond .ne 13, 3) := by decide +kernel
theorem dX8_change_27 : decode cX8_change 27 = .ok (.aload_n 0, 1) := by decide +kernel
theorem dX8_change_28 : decode cX8_change 28 = .ok (.getfield 16, 3) := by decide +kernel
theorem dX8_change_31 : decode cX8_change 31 = .ok (.iload_n 2, 1) := by decide +kernel
theorem dX8_change_32 : decode cX8_change 32 = .ok (.iaload, 1) := by decide +kernel
theorem dX8_change_33 : decode cX8_change 33 = .ok (.iconst 4, 1) := by decide +kernel
theorem dX8_change_34 : decode cX8_change 34 = .ok (.if_icmp .eq 6, 3) := by decide +kernel
theorem dX8_change_37 : decode cX8_change 37 = .ok (.bipush (-2), 2) := by decide +kernel
theorem dX8_change_39 : decode cX8_change 39 = .ok (.ireturn, 1) := by decide +kernel
theorem dX8_change_40 : decode cX8_change 40 = .ok (.aload_n 0, 1) := by decide +kernel
theorem dX8_change_41 : decode cX8_change 41 = .ok (.getfield 65, 3) := by decide +kernel
theorem dX8_change_44 : decode cX8_change 44 = .ok (.aload_n 0, 1) := by decide +kernel
theorem dX8_change_45 : decode cX8_change 45 = .ok (.getfield 49, 3) := by decide +kernel
theorem dX8_change_48 : decode cX8_change 48 = .ok (.iload_n 1, 1) := by decide +kernel
theorem dX8_change_49 : decode cX8_change 49 = .ok (.iaload, 1) := by decide +kernel
theorem dX8_change_50 : decode cX8_change 50 = .ok (.iadd, 1) := by decide +kernel
theorem dX8_change_51 : decode cX8_change 51 = .ok (.bipush 120, 2) := by decide +kernel
theorem dX8_change_53 : decode cX8_change 53 = .ok (.if_icmp .le 6, 3) := by decide +kernel
theorem dX8_change_56 : decode cX8_change 56 = .ok (.bipush (-3), 2) := by decide +kernel
theorem dX8_change_58 : decode cX8_change 58 = .ok (.ireturn, 1) := by decide +kernel
theorem dX8_change_59 : decode cX8_change 59 = .ok (.aload_n 0, 1) := by decide +kernel
theorem dX8_change_60 : decode cX8_change 60 = .ok (.invokevirtual 165, 3) := by decide +kernel
theorem dX8_change_63 : decode cX8_change 63 = .ok (.iconst 0, 1) := by decide +kernel
theorem dX8_change_64 : decode cX8_change 64 = .ok (.istore_n 3, 1) := by decide +kernel
theorem dX8_change_65 : decode cX8_change 65 = .ok (.iload_n 3, 1) := by decide +kernel
theorem dX8_change_66 : decode cX8_change 66 = .ok (.aload_n 0, 1) := by decide +kernel
theorem dX8_change_67 : decode cX8_change 67 = .ok (.getfield 49, 3) := by decide +kernel
theorem dX8_change_70 : decode cX8_change 70 = .ok (.iload_n 1, 1) := by decide +kernel
theorem dX8_change_71 : decode cX8_change 71 = .ok (.iaload, 1) := by decide +kernel
theorem dX8_change_72 : decode cX8_change 72 = .ok (.if_icmp .ge 139, 3) := by decide +kernel
theorem dX8_change_75 : decode cX8_change 75 = .ok (.aload_n 0, 1) := by decide +kernel
theorem dX8_change_76 : decode cX8_change 76 = .ok (.getfield 106, 3) := by decide +kernel
theorem dX8_change_79 : decode cX8_change 79 = .ok (.ifCond .ne 132, 3) := by decide +kernel
theorem dX8_change_82 : decode cX8_change 82 = .ok (.aload_n 0, 1) := by decide +kernel
theorem dX8_change_83 : decode cX8_change 83 = .ok (.getfield 52, 3) := by decide +kernel
theorem dX8_change_86 : decode cX8_change 86 = .ok (.bipush 40, 2) := by decide +kernel
theorem dX8_change_88 : decode cX8_change 88 = .ok (.iload_n 1, 1) := by decide +kernel
theorem dX8_change_89 : decode cX8_change 89 = .ok (.imul, 1) := by decide +kernel
theorem dX8_change_90 : decode cX8_change 90 = .ok (.iload_n 3, 1) := by decide +kernel
theorem dX8_change_91 : decode cX8_change 91 = .ok (.iadd, 1) := by decide +kernel
theorem dX8_change_92 : decode cX8_change 92 = .ok (.iaload, 1) := by decide +kernel
theorem dX8_change_93 : decode cX8_change 93 = .ok (.istore 4, 2) := by decide +kernel
theorem dX8_change_95 : decode cX8_change 95 = .ok (.aload_n 0, 1) := by decide +kernel
theorem dX8_change_96 : decode cX8_change 96 = .ok (.iload_n 2, 1) := by decide +kernel
theorem dX8_change_97 : decode cX8_change 97 = .ok (.invokevirtual 119, 3) := by decide +kernel
theorem dX8_change_100 : decode cX8_change 100 = .ok (.istore 5, 2) := by decide +kernel
theorem dX8_change_102 : decode cX8_change 102 = .ok (.aload_n 0, 1) := by decide +kernel
theorem dX8_change_103 : decode cX8_change 103 = .ok (.getfield 106, 3) := by decide +kernel
theorem dX8_change_106 : decode cX8_change 106 = .ok (.ifCond .ne 99, 3) := by decide +kernel
theorem dX8_change_109 : decode cX8_change 109 = .ok (.aload_n 0, 1) := by decide +kernel
theorem dX8_change_110 : decode cX8_change 110 = .ok (.getfield 7, 3) := by decide +kernel
theorem dX8_change_113 : decode cX8_change 113 = .ok (.aload_n 0, 1) := by decide +kernel
theorem dX8_change_114 : decode cX8_change 114 = .ok (.getfield 65, 3) := by decide +kernel
theorem dX8_change_117 : decode cX8_change 117 = .ok (.iload 5, 2) := by decide +kernel
theorem dX8_change_119 : decode cX8_change 119 = .ok (.ifCond .eq 20, 3) := by decide +kernel
theorem dX8_change_122 : decode cX8_change 122 = .ok (.aload_n 0, 1) := by decide +kernel
theorem dX8_change_123 : decode cX8_change 123 = .ok (.getfield 7, 3) := by decide +kernel
theorem dX8_change_126 : decode cX8_change 126 = .ok (.iload 4, 2) := by decide +kernel
theorem dX8_change_128 : decode cX8_change 128 = .ok (.iaload, 1) := by decide +kernel
theorem dX8_change_129 : decode cX8_change 129 = .ok (.aload_n 0, 1) := by decide +kernel
theorem dX8_change_130 : decode cX8_change 130 = .ok (.getfield 19, 3) := by decide +kernel
theorem dX8_change_133 : decode cX8_change 133 = .ok (.iload_n 2, 1) := by decide +kernel
theorem dX8_change_134 : decode cX8_change 134 = .ok (.iaload, 1) := by decide +kernel
theorem dX8_change_135 : decode cX8_change 135 = .ok (.isub, 1) := by decide +kernel
theorem dX8_change_136 : decode cX8_change 136 = .ok (.goto 17, 3) := by decide +kernel
theorem dX8_change_139 : decode cX8_change 139 = .ok (.aload_n 0, 1) := by decide +kernel
theorem dX8_change_140 : decode cX8_change 140 = .ok (.getfield 7, 3) := by decide +kernel
theorem dX8_change_143 : decode cX8_change 143 = .ok (.iload 4, 2) := by decide +kernel
theorem dX8_change_145 : decode cX8_change 145 = .ok (.iaload, 1) := by decide +kernel
theorem dX8_change_146 : decode cX8_change 146 = .ok (.aload_n 0, 1) := by decide +kernel
theorem dX8_change_147 : decode cX8_change 147 = .ok (.getfield 19, 3) := by decide +kernel
theorem dX8_change_150 : decode cX8_change 150 = .ok (.iload_n 2, 1) := by decide +kernel
theorem dX8_change_151 : decode cX8_change 151 = .ok (.iaload, 1) := by decide +kernel
theorem dX8_change_152 : decode cX8_change 152 = .ok (.iadd, 1) := by decide +kernel
theorem dX8_change_153 : decode cX8_change 153 = .ok (.iastore, 1) := by decide +kernel
theorem dX8_change_154 : decode cX8_change 154 = .ok (.aload_n 0, 1) := by decide +kernel
theorem dX8_change_155 : decode cX8_change 155 = .ok (.getfield 13, 3) := by decide +kernel
theorem dX8_change_158 : decode cX8_change 158 = .ok (.aload_n 0, 1) := by decide +kernel
theorem dX8_change_159 : decode cX8_change 159 = .ok (.getfield 65, 3) := by decide +kernel
theorem dX8_change_162 : decode cX8_change 162 = .ok (.aload_n 0, 1) := by decide +kernel
theorem dX8_change_163 : decode cX8_change 163 = .ok (.getfield 13, 3) := by decide +kernel
theorem dX8_change_166 : decode cX8_change 166 = .ok (.iload 4, 2) := by decide +kernel
theorem dX8_change_168 : decode cX8_change 168 = .ok (.iaload, 1) := by decide +kernel
theorem dX8_change_169 : decode cX8_change 169 = .ok (.iastore, 1) := by decide +kernel
theorem dX8_change_170 : decode cX8_change 170 = .ok (.aload_n 0, 1) := by decide +kernel
theorem dX8_change_171 : decode cX8_change 171 = .ok (.getfield 52, 3) := by decide +kernel
theorem dX8_change_174 : decode cX8_change 174 = .ok (.bipush 40, 2) := by decide +kernel
theorem dX8_change_176 : decode cX8_change 176 = .ok (.iload_n 1, 1) := by decide +kernel
theorem dX8_change_177 : decode cX8_change 177 = .ok (.imul, 1) := by decide +kernel
theorem dX8_change_178 : decode cX8_change 178 = .ok (.iload_n 3, 1) := by decide +kernel
theorem dX8_change_179 : decode cX8_change 179 = .ok (.iadd, 1) := by decide +kernel
theorem dX8_change_180 : decode cX8_change 180 = .ok (.aload_n 0, 1) := by decide +kernel
theorem dX8_change_181 : decode cX8_change 181 = .ok (.getfield 65, 3) := by decide +kernel
theorem dX8_change_184 : decode cX8_change 184 = .ok (.iastore, 1) := by decide +kernel
theorem dX8_change_185 : decode cX8_change 185 = .ok (.aload_n 0, 1) := by decide +kernel
theorem dX8_change_186 : decode cX8_change 186 = .ok (.dup, 1) := by decide +kernel
theorem dX8_change_187 : decode cX8_change 187 = .ok (.getfield 65, 3) := by decide +kernel
theorem dX8_change_190 : decode cX8_change 190 = .ok (.iconst 1, 1) := by decide +kernel
theorem dX8_change_191 : decode cX8_change 191 = .ok (.iadd, 1) := by decide +kernel
theorem dX8_change_192 : decode cX8_change 192 = .ok (.putfield 65, 3) := by decide +kernel
theorem dX8_change_195 : decode cX8_change 195 = .ok (.aload_n 0, 1) := by decide +kernel
theorem dX8_change_196 : decode cX8_change 196 = .ok (.dup, 1) := by decide +kernel
theorem dX8_change_197 : decode cX8_change 197 = .ok (.getfield 132, 3) := by decide +kernel
theorem dX8_change_200 : decode cX8_change 200 = .ok (.iconst 1, 1) := by decide +kernel
theorem dX8_change_201 : decode cX8_change 201 = .ok (.iadd, 1) := by decide +kernel
theorem dX8_change_202 : decode cX8_change 202 = .ok (.putfield 132, 3) := by decide +kernel
theorem dX8_change_205 : decode cX8_change 205 = .ok (.iinc 3 1, 3) := by decide +kernel
theorem dX8_change_208 : decode cX8_change 208 = .ok (.goto (-143), 3) := by decide +kernel
theorem dX8_change_211 : decode cX8_change 211 = .ok (.aload_n 0, 1) := by decide +kernel
theorem dX8_change_212 : decode cX8_change 212 = .ok (.dup, 1) := by decide +kernel
theorem dX8_change_213 : decode cX8_change 213 = .ok (.getfield 138, 3) := by decide +kernel
theorem dX8_change_216 : decode cX8_change 216 = .ok (.aload_n 0, 1) := by decide +kernel
theorem dX8_change_217 : decode cX8_change 217 = .ok (.getfield 106, 3) := by decide +kernel
theorem dX8_change_220 : decode cX8_change 220 = .ok (.ifCond .eq 7, 3) := by decide +kernel
theorem dX8_change_223 : decode cX8_change 223 = .ok (.iconst 1, 1) := by decide +kernel
theorem dX8_change_224 : decode cX8_change 224 = .ok (.goto 4, 3) := by decide +kernel
theorem dX8_change_227 : decode cX8_change 227 = .ok (.iconst 0, 1) := by decide +kernel
theorem dX8_change_228 : decode cX8_change 228 = .ok (.iadd, 1) := by decide +kernel
theorem dX8_change_229 : decode cX8_change 229 = .ok (.putfield 138, 3) := by decide +kernel
theorem dX8_change_232 : decode cX8_change 232 = .ok (.aload_n 0, 1) := by decide +kernel
theorem dX8_change_233 : decode cX8_change 233 = .ok (.getfield 106, 3) := by decide +kernel
theorem dX8_change_236 : decode cX8_change 236 = .ok (.ifCond .eq 7, 3) := by decide +kernel
theorem dX8_change_239 : decode cX8_change 239 = .ok (.iconst 2, 1) := by decide +kernel
theorem dX8_change_240 : decode cX8_change 240 = .ok (.goto 4, 3) := by decide +kernel
theorem dX8_change_243 : decode cX8_change 243 = .ok (.iconst 0, 1) := by decide +kernel
theorem dX8_change_244 : decode cX8_change 244 = .ok (.ireturn, 1) := by decide +kernel
theorem dX8_all_0 : decode cX8_all 0 = .ok (.aload_n 0, 1) := by decide +kernel
theorem dX8_all_1 : decode cX8_all 1 = .ok (.iload_n 1, 1) := by decide +kernel
theorem dX8_all_2 : decode cX8_all 2 = .ok (.invokevirtual 162, 3) := by decide +kernel
theorem dX8_all_5 : decode cX8_all 5 = .ok (.ifCond .eq 16, 3) := by decide +kernel
theorem dX8_all_8 : decode cX8_all 8 = .ok (.aload_n 0, 1) := by decide +kernel
theorem dX8_all_9 : decode cX8_all 9 = .ok (.iload_n 2, 1) := by decide +kernel
theorem dX8_all_10 : decode cX8_all 10 = .ok (.invokevirtual 162, 3) := by decide +kernel
theorem dX8_all_13 : decode cX8_all 13 = .ok (.ifCond .eq 8, 3) := by decide +kernel
theorem dX8_all_16 : decode cX8_all 16 = .ok (.iload_n 1, 1) := by decide +kernel
theorem dX8_all_17 : decode cX8_all 17 = .ok (.iload_n 2, 1) := by decide +kernel
theorem dX8_all_18 : decode cX8_all 18 = .ok (.if_icmp .ne 5, 3) := by decide +kernel
theorem dX8_all_21 : decode cX8_all 21 = .ok (.iconst (-1), 1) := by decide +kernel
theorem dX8_all_22 : decode cX8_all 22 = .ok (.ireturn, 1) := by decide +kernel
theorem dX8_all_23 : decode cX8_all 23 = .ok (.aload_n 0, 1) := by decide +kernel
theorem dX8_all_24 : decode cX8_all 24 = .ok (.getfield 43, 3) := by decide +kernel
theorem dX8_all_27 : decode cX8_all 27 = .ok (.iload_n 1, 1) := by decide +kernel
theorem dX8_all_28 : decode cX8_all 28 = .ok (.iaload, 1) := by decide +kernel
theorem dX8_all_29 : decode cX8_all 29 = .ok (.aload_n 0, 1) := by decide +kernel
theorem dX8_all_30 : decode cX8_all 30 = .ok (.getfield 43, 3) := by decide +kernel
theorem dX8_all_33 : decode cX8_all 33 = .ok (.iload_n 2, 1) := by decide +kernel
theorem dX8_all_34 : decode cX8_all 34 = .ok (.iaload, 1) := by decide +kernel
theorem dX8_all_35 : decode cX8_all 35 = .ok (.if_icmp .ne 18, 3) := by decide +kernel
theorem dX8_all_38 : decode cX8_all 38 = .ok (.aload_n 0, 1) := by decide +kernel
theorem dX8_all_39 : decode cX8_all 39 = .ok (.getfield 46, 3) := by decide +kernel
theorem dX8_all_42 : decode cX8_all 42 = .ok (.iload_n 1, 1) := by decide +kernel
theorem dX8_all_43 : decode cX8_all 43 = .ok (.iaload, 1) := by decide +kernel
theorem dX8_all_44 : decode cX8_all 44 = .ok (.aload_n 0, 1) := by decide +kernel
theorem dX8_all_45 : decode cX8_all 45 = .ok (.getfield 46, 3) := by decide +kernel
theorem dX8_all_48 : decode cX8_all 48 = .ok (.iload_n 2, 1) := by decide +kernel
theorem dX8_all_49 : decode cX8_all 49 = .ok (.iaload, 1) := by decide +kernel
theorem dX8_all_50 : decode cX8_all 50 = .ok (.if_icmp .eq 6, 3) := by decide +kernel
theorem dX8_all_53 : decode cX8_all 53 = .ok (.bipush (-2), 2) := by decide +kernel
theorem dX8_all_55 : decode cX8_all 55 = .ok (.ireturn, 1) := by decide +kernel
theorem dX8_all_56 : decode cX8_all 56 = .ok (.aload_n 0, 1) := by decide +kernel
theorem dX8_all_57 : decode cX8_all 57 = .ok (.getfield 49, 3) := by decide +kernel
theorem dX8_all_60 : decode cX8_all 60 = .ok (.iload_n 1, 1) := by decide +kernel
theorem dX8_all_61 : decode cX8_all 61 = .ok (.iaload, 1) := by decide +kernel
theorem dX8_all_62 : decode cX8_all 62 = .ok (.aload_n 0, 1) := by decide +kernel
theorem dX8_all_63 : decode cX8_all 63 = .ok (.getfield 49, 3) := by decide +kernel
theorem dX8_all_66 : decode cX8_all 66 = .ok (.iload_n 2, 1) := by decide +kernel
theorem dX8_all_67 : decode cX8_all 67 = .ok (.iaload, 1) := by decide +kernel
theorem dX8_all_68 : decode cX8_all 68 = .ok (.iadd, 1) := by decide +kernel
theorem dX8_all_69 : decode cX8_all 69 = .ok (.bipush 40, 2) := by decide +kernel
theorem dX8_all_71 : decode cX8_all 71 = .ok (.if_icmp .le 6, 3) := by decide +kernel
theorem dX8_all_74 : decode cX8_all 74 = .ok (.bipush (-3), 2) := by decide +kernel
theorem dX8_all_76 : decode cX8_all 76 = .ok (.ireturn, 1) := by decide +kernel
theorem dX8_all_77 : decode cX8_all 77 = .ok (.aload_n 0, 1) := by decide +kernel
theorem dX8_all_78 : decode cX8_all 78 = .ok (.invokevirtual 165, 3) := by decide +kernel
theorem dX8_all_81 : decode cX8_all 81 = .ok (.aload_n 0, 1) := by decide +kernel
theorem dX8_all_82 : decode cX8_all 82 = .ok (.iload_n 2, 1) := by decide +kernel
theorem dX8_all_83 : decode cX8_all 83 = .ok (.invokevirtual 168, 3) := by decide +kernel
theorem dX8_all_86 : decode cX8_all 86 = .ok (.aload_n 0, 1) := by decide +kernel
theorem dX8_all_87 : decode cX8_all 87 = .ok (.getfield 135, 3) := by decide +kernel
theorem dX8_all_90 : decode cX8_all 90 = .ok (.istore_n 3, 1) := by decide +kernel
theorem dX8_all_91 : decode cX8_all 91 = .ok (.iconst 0, 1) := by decide +kernel
theorem dX8_all_92 : decode cX8_all 92 = .ok (.istore 4, 2) := by decide +kernel
theorem dX8_all_94 : decode cX8_all 94 = .ok (.iload 4, 2) := by decide +kernel
theorem dX8_all_96 : decode cX8_all 96 = .ok (.aload_n 0, 1) := by decide +kernel
theorem dX8_all_97 : decode cX8_all 97 = .ok (.getfield 49, 3) := by decide +kernel
theorem dX8_all_100 : decode cX8_all 100 = .ok (.iload_n 1, 1) := by decide +kernel
theorem dX8_all_101 : decode cX8_all 101 = .ok (.iaload, 1) := by decide +kernel
theorem dX8_all_102 : decode cX8_all 102 = .ok (.if_icmp .ge 82, 3) := by decide +kernel
theorem dX8_all_105 : decode cX8_all 105 = .ok (.aload_n 0, 1) := by decide +kernel
theorem dX8_all_106 : decode cX8_all 106 = .ok (.getfield 106, 3) := by decide +kernel
theorem dX8_all_109 : decode cX8_all 109 = .ok (.ifCond .ne 75, 3) := by decide +kernel
theorem dX8_all_112 : decode cX8_all 112 = .ok (.aload_n 0, 1) := by decide +kernel
theorem dX8_all_113 : decode cX8_all 113 = .ok (.getfield 52, 3) := by decide +kernel
theorem dX8_all_116 : decode cX8_all 116 = .ok (.bipush 40, 2) := by decide +kernel
theorem dX8_all_118 : decode cX8_all 118 = .ok (.iload_n 1, 1) := by decide +kernel
theorem dX8_all_119 : decode cX8_all 119 = .ok (.imul, 1) := by decide +kernel
theorem dX8_all_120 : decode cX8_all 120 = .ok (.iload 4, 2) := by decide +kernel
theorem dX8_all_122 : decode cX8_all 122 = .ok (.iadd, 1) := by decide +kernel
theorem dX8_all_123 : decode cX8_all 123 = .ok (.iaload, 1) := by decide +kernel
theorem dX8_all_124 : decode cX8_all 124 = .ok (.istore 5, 2) := by decide +kernel
theorem dX8_all_126 : decode cX8_all 126 = .ok (.aload_n 0, 1) := by decide +kernel
theorem dX8_all_127 : decode cX8_all 127 = .ok (.getfield 43, 3) := by decide +kernel
theorem dX8_all_130 : decode cX8_all 130 = .ok (.iload_n 2, 1) := by decide +kernel
theorem dX8_all_131 : decode cX8_all 131 = .ok (.iaload, 1) := by decide +kernel
theorem dX8_all_132 : decode cX8_all 132 = .ok (.iconst 1, 1) := by decide +kernel
theorem dX8_all_133 : decode cX8_all 133 = .ok (.if_icmp .ne 27, 3) := by decide +kernel
theorem dX8_all_136 : decode cX8_all 136 = .ok (.aload_n 0, 1) := by decide +kernel
theorem dX8_all_137 : decode cX8_all 137 = .ok (.getfield 59, 3) := by decide +kernel
theorem dX8_all_140 : decode cX8_all 140 = .ok (.aload_n 0, 1) := by decide +kernel
theorem dX8_all_141 : decode cX8_all 141 = .ok (.getfield 135, 3) := by decide +kernel
theorem dX8_all_144 : decode cX8_all 144 = .ok (.iload 5, 2) := by decide +kernel
theorem dX8_all_146 : decode cX8_all 146 = .ok (.iastore, 1) := by decide +kernel
theorem dX8_all_147 : decode cX8_all 147 = .ok (.aload_n 0, 1) := by decide +kernel
theorem dX8_all_148 : decode cX8_all 148 = .ok (.dup, 1) := by decide +kernel
theorem dX8_all_149 : decode cX8_all 149 = .ok (.getfield 135, 3) := by decide +kernel
theorem dX8_all_152 : decode cX8_all 152 = .ok (.iconst 1, 1) := by decide +kernel
theorem dX8_all_153 : decode cX8_all 153 = .ok (.iadd, 1) := by decide +kernel
theorem dX8_all_154 : decode cX8_all 154 = .ok (.putfield 135, 3) := by decide +kernel
theorem dX8_all_157 : decode cX8_all 157 = .ok (.goto 21, 3) := by decide +kernel
theorem dX8_all_160 : decode cX8_all 160 = .ok (.aload_n 0, 1) := by decide +kernel
theorem dX8_all_161 : decode cX8_all 161 = .ok (.aload_n 0, 1) := by decide +kernel
theorem dX8_all_162 : decode cX8_all 162 = .ok (.getfield 43, 3) := by decide +kernel
theorem dX8_all_165 : decode cX8_all 165 = .ok (.iload_n 2, 1) := by decide +kernel
theorem dX8_all_166 : decode cX8_all 166 = .ok (.iaload, 1) := by decide +kernel
theorem dX8_all_167 : decode cX8_all 167 = .ok (.aload_n 0, 1) := by decide +kernel
theorem dX8_all_168 : decode cX8_all 168 = .ok (.getfield 46, 3) := by decide +kernel
theorem dX8_all_171 : decode cX8_all 171 = .ok (.iload_n 2, 1) := by decide +kernel
theorem dX8_all_172 : decode cX8_all 172 = .ok (.iaload, 1) := by decide +kernel
theorem dX8_all_173 : decode cX8_all 173 = .ok (.iload 5, 2) := by decide +kernel
theorem dX8_all_175 : decode cX8_all 175 = .ok (.invokevirtual 171, 3) := by decide +kernel
theorem dX8_all_178 : decode cX8_all 178 = .ok (.iinc 4 1, 3) := by decide +kernel
theorem dX8_all_181 : decode cX8_all 181 = .ok (.goto (-87), 3) := by decide +kernel
theorem dX8_all_184 : decode cX8_all 184 = .ok (.aload_n 0, 1) := by decide +kernel
theorem dX8_all_185 : decode cX8_all 185 = .ok (.getfield 43, 3) := by decide +kernel
theorem dX8_all_188 : decode cX8_all 188 = .ok (.iload_n 2, 1) := by decide +kernel
theorem dX8_all_189 : decode cX8_all 189 = .ok (.iaload, 1) := by decide +kernel
theorem dX8_all_190 : decode cX8_all 190 = .ok (.iconst 1, 1) := by decide +kernel
theorem dX8_all_191 : decode cX8_all 191 = .ok (.if_icmp .ne 19, 3) := by decide +kernel
theorem dX8_all_194 : decode cX8_all 194 = .ok (.aload_n 0, 1) := by decide +kernel
theorem dX8_all_195 : decode cX8_all 195 = .ok (.aload_n 0, 1) := by decide +kernel
theorem dX8_all_196 : decode cX8_all 196 = .ok (.getfield 46, 3) := by decide +kernel
theorem dX8_all_199 : decode cX8_all 199 = .ok (.iload_n 2, 1) := by decide +kernel
theorem dX8_all_200 : decode cX8_all 200 = .ok (.iaload, 1) := by decide +kernel
theorem dX8_all_201 : decode cX8_all 201 = .ok (.iconst 0, 1) := by decide +kernel
theorem dX8_all_202 : decode cX8_all 202 = .ok (.iload_n 3, 1) := by decide +kernel
theorem dX8_all_203 : decode cX8_all 203 = .ok (.aload_n 0, 1) := by decide +kernel
theorem dX8_all_204 : decode cX8_all 204 = .ok (.getfield 135, 3) := by decide +kernel
theorem dX8_all_207 : decode cX8_all 207 = .ok (.invokevirtual 188, 3) := by decide +kernel
theorem dX8_all_210 : decode cX8_all 210 = .ok (.aload_n 0, 1) := by decide +kernel
theorem dX8_all_211 : decode cX8_all 211 = .ok (.iload_n 2, 1) := by decide +kernel
theorem dX8_all_212 : decode cX8_all 212 = .ok (.invokevirtual 175, 3) := by decide +kernel
theorem dX8_all_215 : decode cX8_all 215 = .ok (.istore 4, 2) := by decide +kernel
theorem dX8_all_217 : decode cX8_all 217 = .ok (.aload_n 0, 1) := by decide +kernel
theorem dX8_all_218 : decode cX8_all 218 = .ok (.getfield 49, 3) := by decide +kernel
theorem dX8_all_221 : decode cX8_all 221 = .ok (.iload_n 1, 1) := by decide +kernel
theorem dX8_all_222 : decode cX8_all 222 = .ok (.iload 4, 2) := by decide +kernel
theorem dX8_all_224 : decode cX8_all 224 = .ok (.ifCond .ne 7, 3) := by decide +kernel
theorem dX8_all_227 : decode cX8_all 227 = .ok (.iconst 0, 1) := by decide +kernel
theorem dX8_all_228 : decode cX8_all 228 = .ok (.goto 9, 3) := by decide +kernel
theorem dX8_all_231 : decode cX8_all 231 = .ok (.aload_n 0, 1) := by decide +kernel
theorem dX8_all_232 : decode cX8_all 232 = .ok (.getfield 49, 3) := by decide +kernel
theorem dX8_all_235 : decode cX8_all 235 = .ok (.iload_n 1, 1) := by decide +kernel
theorem dX8_all_236 : decode cX8_all 236 = .ok (.iaload, 1) := by decide +kernel
theorem dX8_all_237 : decode cX8_all 237 = .ok (.iastore, 1) := by decide +kernel
theorem dX8_all_238 : decode cX8_all 238 = .ok (.iload 4, 2) := by decide +kernel
theorem dX8_all_240 : decode cX8_all 240 = .ok (.ireturn, 1) := by decide +kernel
theorem dX8_at_0 : decode cX8_at 0 = .ok (.aload_n 0, 1) := by decide +kernel
theorem dX8_at_1 : decode cX8_at 1 = .ok (.iload_n 1, 1) := by decide +kernel
theorem dX8_at_2 : decode cX8_at 2 = .ok (.invokevirtual 162, 3) := by decide +kernel
theorem dX8_at_5 : decode cX8_at 5 = .ok (.ifCond .eq 7, 3) := by decide +kernel
theorem dX8_at_8 : decode cX8_at 8 = .ok (.iload_n 2, 1) := by decide +kernel
theorem dX8_at_9 : decode cX8_at 9 = .ok (.ifCond .ge 7, 3) := by decide +kernel
theorem dX8_at_12 : decode cX8_at 12 = .ok (.iconst (-1), 1) := by decide +kernel
theorem dX8_at_13 : decode cX8_at 13 = .ok (.goto 29, 3) := by decide +kernel
theorem dX8_at_16 : decode cX8_at 16 = .ok (.iload_n 2, 1) := by decide +kernel
theorem dX8_at_17 : decode cX8_at 17 = .ok (.aload_n 0, 1) := by decide +kernel
theorem dX8_at_18 : decode cX8_at 18 = .ok (.getfield 49, 3) := by decide +kernel
theorem dX8_at_21 : decode cX8_at 21 = .ok (.iload_n 1, 1) := by decide +kernel
theorem dX8_at_22 : decode cX8_at 22 = .ok (.iaload, 1) := by decide +kernel
theorem dX8_at_23 : decode cX8_at 23 = .ok (.if_icmp .ge 17, 3) := by decide +kernel
theorem dX8_at_26 : decode cX8_at 26 = .ok (.aload_n 0, 1) := by decide +kernel
theorem dX8_at_27 : decode cX8_at 27 = .ok (.getfield 52, 3) := by decide +kernel
theorem dX8_at_30 : decode cX8_at 30 = .ok (.bipush 40, 2) := by decide +kernel
theorem dX8_at_32 : decode cX8_at 32 = .ok (.iload_n 1, 1) := by decide +kernel
theorem dX8_at_33 : decode cX8_at 33 = .ok (.imul, 1) := by decide +kernel
theorem dX8_at_34 : decode cX8_at 34 = .ok (.iload_n 2, 1) := by decide +kernel
theorem dX8_at_35 : decode cX8_at 35 = .ok (.iadd, 1) := by decide +kernel
theorem dX8_at_36 : decode cX8_at 36 = .ok (.iaload, 1) := by decide +kernel
theorem dX8_at_37 : decode cX8_at 37 = .ok (.goto 5, 3) := by decide +kernel
theorem dX8_at_40 : decode cX8_at 40 = .ok (.bipush (-4), 2) := by decide +kernel
theorem dX8_at_42 : decode cX8_at 42 = .ok (.ireturn, 1) := by decide +kernel
theorem dX8_whole_0 : decode cX8_whole 0 = .ok (.aload_n 0, 1) := by decide +kernel
theorem dX8_whole_1 : decode cX8_whole 1 = .ok (.iload_n 1, 1) := by decide +kernel
theorem dX8_whole_2 : decode cX8_whole 2 = .ok (.invokevirtual 162, 3) := by decide +kernel
theorem dX8_whole_5 : decode cX8_whole 5 = .ok (.ifCond .eq 15, 3) := by decide +kernel
theorem dX8_whole_8 : decode cX8_whole 8 = .ok (.iload_n 2, 1) := by decide +kernel
theorem dX8_whole_9 : decode cX8_whole 9 = .ok (.i2l, 1) := by decide +kernel
theorem dX8_whole_10 : decode cX8_whole 10 = .ok (.lconst 0, 1) := by decide +kernel
theorem dX8_whole_11 : decode cX8_whole 11 = .ok (.ldc2_w 195, 3) := by decide +kernel
theorem dX8_whole_14 : decode cX8_whole 14 = .ok (.invokestatic 68, 3) := by decide +kernel
theorem dX8_whole_17 : decode cX8_whole 17 = .ok (.ifCond .ne 5, 3) := by decide +kernel
theorem dX8_whole_20 : decode cX8_whole 20 = .ok (.iconst (-1), 1) := by decide +kernel
theorem dX8_whole_21 : decode cX8_whole 21 = .ok (.ireturn, 1) := by decide +kernel
theorem dX8_whole_22 : decode cX8_whole 22 = .ok (.iload_n 2, 1) := by decide +kernel
theorem dX8_whole_23 : decode cX8_whole 23 = .ok (.iconst 3, 1) := by decide +kernel
theorem dX8_whole_24 : decode cX8_whole 24 = .ok (.if_icmp .ge 37, 3) := by decide +kernel
theorem dX8_whole_27 : decode cX8_whole 27 = .ok (.iload_n 2, 1) := by decide +kernel
theorem dX8_whole_28 : decode cX8_whole 28 = .ok (.ifCond .ne 12, 3) := by decide +kernel
theorem dX8_whole_31 : decode cX8_whole 31 = .ok (.aload_n 0, 1) := by decide +kernel
theorem dX8_whole_32 : decode cX8_whole 32 = .ok (.getfield 43, 3) := by decide +kernel
theorem dX8_whole_35 : decode cX8_whole 35 = .ok (.iload_n 1, 1) := by decide +kernel
theorem dX8_whole_36 : decode cX8_whole 36 = .ok (.iaload, 1) := by decide +kernel
theorem dX8_whole_37 : decode cX8_whole 37 = .ok (.goto 23, 3) := by decide +kernel
theorem dX8_whole_40 : decode cX8_whole 40 = .ok (.iload_n 2, 1) := by decide +kernel
theorem dX8_whole_41 : decode cX8_whole 41 = .ok (.iconst 1, 1) := by decide +kernel
theorem dX8_whole_42 : decode cX8_whole 42 = .ok (.if_icmp .ne 12, 3) := by decide +kernel
theorem dX8_whole_45 : decode cX8_whole 45 = .ok (.aload_n 0, 1) := by decide +kernel
theorem dX8_whole_46 : decode cX8_whole 46 = .ok (.getfield 49, 3) := by decide +kernel
theorem dX8_whole_49 : decode cX8_whole 49 = .ok (.iload_n 1, 1) := by decide +kernel
theorem dX8_whole_50 : decode cX8_whole 50 = .ok (.iaload, 1) := by decide +kernel
theorem dX8_whole_51 : decode cX8_whole 51 = .ok (.goto 9, 3) := by decide +kernel
theorem dX8_whole_54 : decode cX8_whole 54 = .ok (.aload_n 0, 1) := by decide +kernel
theorem dX8_whole_55 : decode cX8_whole 55 = .ok (.getfield 46, 3) := by decide +kernel
theorem dX8_whole_58 : decode cX8_whole 58 = .ok (.iload_n 1, 1) := by decide +kernel
theorem dX8_whole_59 : decode cX8_whole 59 = .ok (.iaload, 1) := by decide +kernel
theorem dX8_whole_60 : decode cX8_whole 60 = .ok (.ireturn, 1) := by decide +kernel
theorem dX8_whole_61 : decode cX8_whole 61 = .ok (.iconst 1, 1) := by decide +kernel
theorem dX8_whole_62 : decode cX8_whole 62 = .ok (.istore_n 3, 1) := by decide +kernel
theorem dX8_whole_63 : decode cX8_whole 63 = .ok (.iconst 1, 1) := by decide +kernel
theorem dX8_whole_64 : decode cX8_whole 64 = .ok (.istore 4, 2) := by decide +kernel
theorem dX8_whole_66 : decode cX8_whole 66 = .ok (.iload 4, 2) := by decide +kernel
theorem dX8_whole_68 : decode cX8_whole 68 = .ok (.aload_n 0, 1) := by decide +kernel
theorem dX8_whole_69 : decode cX8_whole 69 = .ok (.getfield 49, 3) := by decide +kernel
theorem dX8_whole_72 : decode cX8_whole 72 = .ok (.iload_n 1, 1) := by decide +kernel
theorem dX8_whole_73 : decode cX8_whole 73 = .ok (.iaload, 1) := by decide +kernel
theorem dX8_whole_74 : decode cX8_whole 74 = .ok (.if_icmp .ge 90, 3) := by decide +kernel
theorem dX8_whole_77 : decode cX8_whole 77 = .ok (.aload_n 0, 1) := by decide +kernel
theorem dX8_whole_78 : decode cX8_whole 78 = .ok (.getfield 43, 3) := by decide +kernel
theorem dX8_whole_81 : decode cX8_whole 81 = .ok (.iload_n 1, 1) := by decide +kernel
theorem dX8_whole_82 : decode cX8_whole 82 = .ok (.iaload, 1) := by decide +kernel
theorem dX8_whole_83 : decode cX8_whole 83 = .ok (.ifCond .eq 81, 3) := by decide +kernel
theorem dX8_whole_86 : decode cX8_whole 86 = .ok (.aload_n 0, 1) := by decide +kernel
theorem dX8_whole_87 : decode cX8_whole 87 = .ok (.getfield 43, 3) := by decide +kernel
theorem dX8_whole_90 : decode cX8_whole 90 = .ok (.iload_n 1, 1) := by decide +kernel
theorem dX8_whole_91 : decode cX8_whole 91 = .ok (.iaload, 1) := by decide +kernel
theorem dX8_whole_92 : decode cX8_whole 92 = .ok (.iconst 1, 1) := by decide +kernel
theorem dX8_whole_93 : decode cX8_whole 93 = .ok (.if_icmp .ne 10, 3) := by decide +kernel
theorem dX8_whole_96 : decode cX8_whole 96 = .ok (.iload 4, 2) := by decide +kernel
theorem dX8_whole_98 : decode cX8_whole 98 = .ok (.iconst 1, 1) := by decide +kernel
theorem dX8_whole_99 : decode cX8_whole 99 = .ok (.isub, 1) := by decide +kernel
theorem dX8_whole_100 : decode cX8_whole 100 = .ok (.goto 9, 3) := by decide +kernel
theorem dX8_whole_103 : decode cX8_whole 103 = .ok (.iload 4, 2) := by decide +kernel
theorem dX8_whole_105 : decode cX8_whole 105 = .ok (.iconst 1, 1) := by decide +kernel
theorem dX8_whole_106 : decode cX8_whole 106 = .ok (.isub, 1) := by decide +kernel
theorem dX8_whole_107 : decode cX8_whole 107 = .ok (.iconst 2, 1) := by decide +kernel
theorem dX8_whole_108 : decode cX8_whole 108 = .ok (.idiv, 1) := by decide +kernel
theorem dX8_whole_109 : decode cX8_whole 109 = .ok (.istore 5, 2) := by decide +kernel
theorem dX8_whole_111 : decode cX8_whole 111 = .ok (.iload_n 3, 1) := by decide +kernel
theorem dX8_whole_112 : decode cX8_whole 112 = .ok (.ifCond .eq 44, 3) := by decide +kernel
theorem dX8_whole_115 : decode cX8_whole 115 = .ok (.aload_n 0, 1) := by decide +kernel
theorem dX8_whole_116 : decode cX8_whole 116 = .ok (.aload_n 0, 1) := by decide +kernel
theorem dX8_whole_117 : decode cX8_whole 117 = .ok (.getfield 46, 3) := by decide +kernel
theorem dX8_whole_120 : decode cX8_whole 120 = .ok (.iload_n 1, 1) := by decide +kernel
theorem dX8_whole_121 : decode cX8_whole 121 = .ok (.iaload, 1) := by decide +kernel
theorem dX8_whole_122 : decode cX8_whole 122 = .ok (.aload_n 0, 1) := by decide +kernel
theorem dX8_whole_123 : decode cX8_whole 123 = .ok (.getfield 52, 3) := by decide +kernel
theorem dX8_whole_126 : decode cX8_whole 126 = .ok (.bipush 40, 2) := by decide +kernel
theorem dX8_whole_128 : decode cX8_whole 128 = .ok (.iload_n 1, 1) := by decide +kernel
theorem dX8_whole_129 : decode cX8_whole 129 = .ok (.imul, 1) := by decide +kernel
theorem dX8_whole_130 : decode cX8_whole 130 = .ok (.iload 4, 2) := by decide +kernel
theorem dX8_whole_132 : decode cX8_whole 132 = .ok (.iadd, 1) := by decide +kernel
theorem dX8_whole_133 : decode cX8_whole 133 = .ok (.iaload, 1) := by decide +kernel
theorem dX8_whole_134 : decode cX8_whole 134 = .ok (.aload_n 0, 1) := by decide +kernel
theorem dX8_whole_135 : decode cX8_whole 135 = .ok (.getfield 52, 3) := by decide +kernel
theorem dX8_whole_138 : decode cX8_whole 138 = .ok (.bipush 40, 2) := by decide +kernel
theorem dX8_whole_140 : decode cX8_whole 140 = .ok (.iload_n 1, 1) := by decide +kernel
theorem dX8_whole_141 : decode cX8_whole 141 = .ok (.imul, 1) := by decide +kernel
theorem dX8_whole_142 : decode cX8_whole 142 = .ok (.iload 5, 2) := by decide +kernel
theorem dX8_whole_144 : decode cX8_whole 144 = .ok (.iadd, 1) := by decide +kernel
theorem dX8_whole_145 : decode cX8_whole 145 = .ok (.iaload, 1) := by decide +kernel
theorem dX8_whole_146 : decode cX8_whole 146 = .ok (.invokevirtual 122, 3) := by decide +kernel
theorem dX8_whole_149 : decode cX8_whole 149 = .ok (.ifCond .lt 7, 3) := by decide +kernel
theorem dX8_whole_152 : decode cX8_whole 152 = .ok (.iconst 1, 1) := by decide +kernel
theorem dX8_whole_153 : decode cX8_whole 153 = .ok (.goto 4, 3) := by decide +kernel
theorem dX8_whole_156 : decode cX8_whole 156 = .ok (.iconst 0, 1) := by decide +kernel
theorem dX8_whole_157 : decode cX8_whole 157 = .ok (.istore_n 3, 1) := by decide +kernel
theorem dX8_whole_158 : decode cX8_whole 158 = .ok (.iinc 4 1, 3) := by decide +kernel
theorem dX8_whole_161 : decode cX8_whole 161 = .ok (.goto (-95), 3) := by decide +kernel
theorem dX8_whole_164 : decode cX8_whole 164 = .ok (.iload_n 3, 1) := by decide +kernel
theorem dX8_whole_165 : decode cX8_whole 165 = .ok (.ifCond .eq 7, 3) := by decide +kernel
theorem dX8_whole_168 : decode cX8_whole 168 = .ok (.iconst 1, 1) := by decide +kernel
theorem dX8_whole_169 : decode cX8_whole 169 = .ok (.goto 4, 3) := by decide +kernel
theorem dX8_whole_172 : decode cX8_whole 172 = .ok (.iconst 0, 1) := by decide +kernel
theorem dX8_whole_173 : decode cX8_whole 173 = .ok (.ireturn, 1) := by decide +kernel
theorem dX8_same_0 : decode cX8_same 0 = .ok (.aload_n 0, 1) := by decide +kernel
theorem dX8_same_1 : decode cX8_same 1 = .ok (.iload_n 1, 1) := by decide +kernel
theorem dX8_same_2 : decode cX8_same 2 = .ok (.invokevirtual 162, 3) := by decide +kernel
theorem dX8_same_5 : decode cX8_same 5 = .ok (.ifCond .eq 11, 3) := by decide +kernel
theorem dX8_same_8 : decode cX8_same 8 = .ok (.aload_n 0, 1) := by decide +kernel
theorem dX8_same_9 : decode cX8_same 9 = .ok (.iload_n 2, 1) := by decide +kernel
theorem dX8_same_10 : decode cX8_same 10 = .ok (.invokevirtual 162, 3) := by decide +kernel
theorem dX8_same_13 : decode cX8_same 13 = .ok (.ifCond .ne 5, 3) := by decide +kernel
theorem dX8_same_16 : decode cX8_same 16 = .ok (.iconst (-1), 1) := by decide +kernel
theorem dX8_same_17 : decode cX8_same 17 = .ok (.ireturn, 1) := by decide +kernel
theorem dX8_same_18 : decode cX8_same 18 = .ok (.aload_n 0, 1) := by decide +kernel
theorem dX8_same_19 : decode cX8_same 19 = .ok (.getfield 49, 3) := by decide +kernel
theorem dX8_same_22 : decode cX8_same 22 = .ok (.iload_n 1, 1) := by decide +kernel
theorem dX8_same_23 : decode cX8_same 23 = .ok (.iaload, 1) := by decide +kernel
theorem dX8_same_24 : decode cX8_same 24 = .ok (.aload_n 0, 1) := by decide +kernel
theorem dX8_same_25 : decode cX8_same 25 = .ok (.getfield 49, 3) := by decide +kernel
theorem dX8_same_28 : decode cX8_same 28 = .ok (.iload_n 2, 1) := by decide +kernel
theorem dX8_same_29 : decode cX8_same 29 = .ok (.iaload, 1) := by decide +kernel
theorem dX8_same_30 : decode cX8_same 30 = .ok (.if_icmp .ne 7, 3) := by decide +kernel
theorem dX8_same_33 : decode cX8_same 33 = .ok (.iconst 1, 1) := by decide +kernel
theorem dX8_same_34 : decode cX8_same 34 = .ok (.goto 4, 3) := by decide +kernel
theorem dX8_same_37 : decode cX8_same 37 = .ok (.iconst 0, 1) := by decide +kernel
theorem dX8_same_38 : decode cX8_same 38 = .ok (.istore_n 3, 1) := by decide +kernel
theorem dX8_same_39 : decode cX8_same 39 = .ok (.iconst 0, 1) := by decide +kernel
theorem dX8_same_40 : decode cX8_same 40 = .ok (.istore 4, 2) := by decide +kernel
theorem dX8_same_42 : decode cX8_same 42 = .ok (.iload 4, 2) := by decide +kernel
theorem dX8_same_44 : decode cX8_same 44 = .ok (.aload_n 0, 1) := by decide +kernel
theorem dX8_same_45 : decode cX8_same 45 = .ok (.getfield 49, 3) := by decide +kernel
theorem dX8_same_48 : decode cX8_same 48 = .ok (.iload_n 1, 1) := by decide +kernel
theorem dX8_same_49 : decode cX8_same 49 = .ok (.iaload, 1) := by decide +kernel
theorem dX8_same_50 : decode cX8_same 50 = .ok (.if_icmp .ge 46, 3) := by decide +kernel
theorem dX8_same_53 : decode cX8_same 53 = .ok (.iload_n 3, 1) := by decide +kernel
theorem dX8_same_54 : decode cX8_same 54 = .ok (.ifCond .eq 42, 3) := by decide +kernel
theorem dX8_same_57 : decode cX8_same 57 = .ok (.aload_n 0, 1) := by decide +kernel
theorem dX8_same_58 : decode cX8_same 58 = .ok (.getfield 52, 3) := by decide +kernel
theorem dX8_same_61 : decode cX8_same 61 = .ok (.bipush 40, 2) := by decide +kernel
theorem dX8_same_63 : decode cX8_same 63 = .ok (.iload_n 1, 1) := by decide +kernel
theorem dX8_same_64 : decode cX8_same 64 = .ok (.imul, 1) := by decide +kernel
theorem dX8_same_65 : decode cX8_same 65 = .ok (.iload 4, 2) := by decide +kernel
theorem dX8_same_67 : decode cX8_same 67 = .ok (.iadd, 1) := by decide +kernel
theorem dX8_same_68 : decode cX8_same 68 = .ok (.iaload, 1) := by decide +kernel
theorem dX8_same_69 : decode cX8_same 69 = .ok (.aload_n 0, 1) := by decide +kernel
theorem dX8_same_70 : decode cX8_same 70 = .ok (.getfield 52, 3) := by decide +kernel
theorem dX8_same_73 : decode cX8_same 73 = .ok (.bipush 40, 2) := by decide +kernel
theorem dX8_same_75 : decode cX8_same 75 = .ok (.iload_n 2, 1) := by decide +kernel
theorem dX8_same_76 : decode cX8_same 76 = .ok (.imul, 1) := by decide +kernel
theorem dX8_same_77 : decode cX8_same 77 = .ok (.iload 4, 2) := by decide +kernel
theorem dX8_same_79 : decode cX8_same 79 = .ok (.iadd, 1) := by decide +kernel
theorem dX8_same_80 : decode cX8_same 80 = .ok (.iaload, 1) := by decide +kernel
theorem dX8_same_81 : decode cX8_same 81 = .ok (.if_icmp .ne 7, 3) := by decide +kernel
theorem dX8_same_84 : decode cX8_same 84 = .ok (.iconst 1, 1) := by decide +kernel
theorem dX8_same_85 : decode cX8_same 85 = .ok (.goto 4, 3) := by decide +kernel
theorem dX8_same_88 : decode cX8_same 88 = .ok (.iconst 0, 1) := by decide +kernel
theorem dX8_same_89 : decode cX8_same 89 = .ok (.istore_n 3, 1) := by decide +kernel
theorem dX8_same_90 : decode cX8_same 90 = .ok (.iinc 4 1, 3) := by decide +kernel
theorem dX8_same_93 : decode cX8_same 93 = .ok (.goto (-51), 3) := by decide +kernel
theorem dX8_same_96 : decode cX8_same 96 = .ok (.iload_n 3, 1) := by decide +kernel
theorem dX8_same_97 : decode cX8_same 97 = .ok (.ifCond .eq 7, 3) := by decide +kernel
theorem dX8_same_100 : decode cX8_same 100 = .ok (.iconst 1, 1) := by decide +kernel
theorem dX8_same_101 : decode cX8_same 101 = .ok (.goto 4, 3) := by decide +kernel
theorem dX8_same_104 : decode cX8_same 104 = .ok (.iconst 0, 1) := by decide +kernel
theorem dX8_same_105 : decode cX8_same 105 = .ok (.ireturn, 1) := by decide +kernel
theorem dX8_thrown_0 : decode cX8_thrown 0 = .ok (.iload_n 1, 1) := by decide +kernel
theorem dX8_thrown_1 : decode cX8_thrown 1 = .ok (.ifCond .ne 10, 3) := by decide +kernel
theorem dX8_thrown_4 : decode cX8_thrown 4 = .ok (.aload_n 0, 1) := by decide +kernel
theorem dX8_thrown_5 : decode cX8_thrown 5 = .ok (.getfield 110, 3) := by decide +kernel
theorem dX8_thrown_8 : decode cX8_thrown 8 = .ok (.goto 40, 3) := by decide +kernel
theorem dX8_thrown_11 : decode cX8_thrown 11 = .ok (.iload_n 1, 1) := by decide +kernel
theorem dX8_thrown_12 : decode cX8_thrown 12 = .ok (.iconst 1, 1) := by decide +kernel
theorem dX8_thrown_13 : decode cX8_thrown 13 = .ok (.if_icmp .ne 10, 3) := by decide +kernel
theorem dX8_thrown_16 : decode cX8_thrown 16 = .ok (.aload_n 0, 1) := by decide +kernel
theorem dX8_thrown_17 : decode cX8_thrown 17 = .ok (.getfield 55, 3) := by decide +kernel
theorem dX8_thrown_20 : decode cX8_thrown 20 = .ok (.goto 28, 3) := by decide +kernel
theorem dX8_thrown_23 : decode cX8_thrown 23 = .ok (.iload_n 1, 1) := by decide +kernel
theorem dX8_thrown_24 : decode cX8_thrown 24 = .ok (.iconst 2, 1) := by decide +kernel
theorem dX8_thrown_25 : decode cX8_thrown 25 = .ok (.if_icmp .ne 10, 3) := by decide +kernel
theorem dX8_thrown_28 : decode cX8_thrown 28 = .ok (.aload_n 0, 1) := by decide +kernel
theorem dX8_thrown_29 : decode cX8_thrown 29 = .ok (.getfield 113, 3) := by decide +kernel
theorem dX8_thrown_32 : decode cX8_thrown 32 = .ok (.goto 16, 3) := by decide +kernel
theorem dX8_thrown_35 : decode cX8_thrown 35 = .ok (.iload_n 1, 1) := by decide +kernel
theorem dX8_thrown_36 : decode cX8_thrown 36 = .ok (.iconst 3, 1) := by decide +kernel
theorem dX8_thrown_37 : decode cX8_thrown 37 = .ok (.if_icmp .ne 10, 3) := by decide +kernel
theorem dX8_thrown_40 : decode cX8_thrown 40 = .ok (.aload_n 0, 1) := by decide +kernel
theorem dX8_thrown_41 : decode cX8_thrown 41 = .ok (.getfield 132, 3) := by decide +kernel
theorem dX8_thrown_44 : decode cX8_thrown 44 = .ok (.goto 4, 3) := by decide +kernel
theorem dX8_thrown_47 : decode cX8_thrown 47 = .ok (.iconst (-1), 1) := by decide +kernel
theorem dX8_thrown_48 : decode cX8_thrown 48 = .ok (.ireturn, 1) := by decide +kernel
theorem dX8_count_0 : decode cX8_count 0 = .ok (.iload_n 1, 1) := by decide +kernel
theorem dX8_count_1 : decode cX8_count 1 = .ok (.ifCond .ne 10, 3) := by decide +kernel
theorem dX8_count_4 : decode cX8_count 4 = .ok (.aload_n 0, 1) := by decide +kernel
theorem dX8_count_5 : decode cX8_count 5 = .ok (.getfield 65, 3) := by decide +kernel
theorem dX8_count_8 : decode cX8_count 8 = .ok (.goto 64, 3) := by decide +kernel
theorem dX8_count_11 : decode cX8_count 11 = .ok (.iload_n 1, 1) := by decide +kernel
theorem dX8_count_12 : decode cX8_count 12 = .ok (.iconst 1, 1) := by decide +kernel
theorem dX8_count_13 : decode cX8_count 13 = .ok (.if_icmp .ne 10, 3) := by decide +kernel
theorem dX8_count_16 : decode cX8_count 16 = .ok (.aload_n 0, 1) := by decide +kernel
theorem dX8_count_17 : decode cX8_count 17 = .ok (.getfield 72, 3) := by decide +kernel
theorem dX8_count_20 : decode cX8_count 20 = .ok (.goto 52, 3) := by decide +kernel
theorem dX8_count_23 : decode cX8_count 23 = .ok (.iload_n 1, 1) := by decide +kernel
theorem dX8_count_24 : decode cX8_count 24 = .ok (.iconst 2, 1) := by decide +kernel
theorem dX8_count_25 : decode cX8_count 25 = .ok (.if_icmp .ne 10, 3) := by decide +kernel
theorem dX8_count_28 : decode cX8_count 28 = .ok (.aload_n 0, 1) := by decide +kernel
theorem dX8_count_29 : decode cX8_count 29 = .ok (.getfield 75, 3) := by decide +kernel
theorem dX8_count_32 : decode cX8_count 32 = .ok (.goto 40, 3) := by decide +kernel
theorem dX8_count_35 : decode cX8_count 35 = .ok (.iload_n 1, 1) := by decide +kernel
theorem dX8_count_36 : decode cX8_count 36 = .ok (.iconst 3, 1) := by decide +kernel
theorem dX8_count_37 : decode cX8_count 37 = .ok (.if_icmp .ne 10, 3) := by decide +kernel
theorem dX8_count_40 : decode cX8_count 40 = .ok (.aload_n 0, 1) := by decide +kernel
theorem dX8_count_41 : decode cX8_count 41 = .ok (.getfield 88, 3) := by decide +kernel
theorem dX8_count_44 : decode cX8_count 44 = .ok (.goto 28, 3) := by decide +kernel
theorem dX8_count_47 : decode cX8_count 47 = .ok (.iload_n 1, 1) := by decide +kernel
theorem dX8_count_48 : decode cX8_count 48 = .ok (.iconst 4, 1) := by decide +kernel
theorem dX8_count_49 : decode cX8_count 49 = .ok (.if_icmp .ne 10, 3) := by decide +kernel
theorem dX8_count_52 : decode cX8_count 52 = .ok (.aload_n 0, 1) := by decide +kernel
theorem dX8_count_53 : decode cX8_count 53 = .ok (.getfield 129, 3) := by decide +kernel
theorem dX8_count_56 : decode cX8_count 56 = .ok (.goto 16, 3) := by decide +kernel
theorem dX8_count_59 : decode cX8_count 59 = .ok (.iload_n 1, 1) := by decide +kernel
theorem dX8_count_60 : decode cX8_count 60 = .ok (.iconst 5, 1) := by decide +kernel
theorem dX8_count_61 : decode cX8_count 61 = .ok (.if_icmp .ne 10, 3) := by decide +kernel
theorem dX8_count_64 : decode cX8_count 64 = .ok (.aload_n 0, 1) := by decide +kernel
theorem dX8_count_65 : decode cX8_count 65 = .ok (.getfield 138, 3) := by decide +kernel
theorem dX8_count_68 : decode cX8_count 68 = .ok (.goto 4, 3) := by decide +kernel
theorem dX8_count_71 : decode cX8_count 71 = .ok (.iconst (-1), 1) := by decide +kernel
theorem dX8_count_72 : decode cX8_count 72 = .ok (.ireturn, 1) := by decide +kernel
