theorem dX0_init_0 : decode cX0_init 0 = .ok (.aload_n 0, 1) := by decide +kernel
theorem dX0_init_1 : decode cX0_init 1 = .ok (.invokespecial 3, 3) := by decide +kernel
theorem dX0_init_4 : decode cX0_init 4 = .ok (.aload_n 0, 1) := by decide +kernel
theorem dX0_init_5 : decode cX0_init 5 = .ok (.iconst 0, 1) := by decide +kernel
theorem dX0_init_6 : decode cX0_init 6 = .ok (.putfield 11, 3) := by decide +kernel
theorem dX0_init_9 : decode cX0_init 9 = .ok (.aload_n 0, 1) := by decide +kernel
theorem dX0_init_10 : decode cX0_init 10 = .ok (.bipush 50, 2) := by decide +kernel
theorem dX0_init_12 : decode cX0_init 12 = .ok (.putfield 15, 3) := by decide +kernel
theorem dX0_init_15 : decode cX0_init 15 = .ok (.aload_n 0, 1) := by decide +kernel
theorem dX0_init_16 : decode cX0_init 16 = .ok (.iconst 0, 1) := by decide +kernel
theorem dX0_init_17 : decode cX0_init 17 = .ok (.putfield 18, 3) := by decide +kernel
theorem dX0_init_20 : decode cX0_init 20 = .ok (.return_, 1) := by decide +kernel
theorem dX0_tall_0 : decode cX0_tall 0 = .ok (.aload_n 0, 1) := by decide +kernel
theorem dX0_tall_1 : decode cX0_tall 1 = .ok (.getfield 15, 3) := by decide +kernel
theorem dX0_tall_4 : decode cX0_tall 4 = .ok (.istore_n 2, 1) := by decide +kernel
theorem dX0_tall_5 : decode cX0_tall 5 = .ok (.aload_n 0, 1) := by decide +kernel
theorem dX0_tall_6 : decode cX0_tall 6 = .ok (.getfield 11, 3) := by decide +kernel
theorem dX0_tall_9 : decode cX0_tall 9 = .ok (.tableswitch 88 1 5 #[35, 44, 52, 63, 73], 35) := by decide +kernel
theorem dX0_tall_44 : decode cX0_tall 44 = .ok (.aload_n 0, 1) := by decide +kernel
theorem dX0_tall_45 : decode cX0_tall 45 = .ok (.iload_n 1, 1) := by decide +kernel
theorem dX0_tall_46 : decode cX0_tall 46 = .ok (.invokevirtual 21, 3) := by decide +kernel
theorem dX0_tall_49 : decode cX0_tall 49 = .ok (.istore_n 2, 1) := by decide +kernel
theorem dX0_tall_50 : decode cX0_tall 50 = .ok (.goto 47, 3) := by decide +kernel
theorem dX0_tall_53 : decode cX0_tall 53 = .ok (.aload_n 0, 1) := by decide +kernel
theorem dX0_tall_54 : decode cX0_tall 54 = .ok (.invokevirtual 25, 3) := by decide +kernel
theorem dX0_tall_57 : decode cX0_tall 57 = .ok (.istore_n 2, 1) := by decide +kernel
theorem dX0_tall_58 : decode cX0_tall 58 = .ok (.goto 39, 3) := by decide +kernel
theorem dX0_tall_61 : decode cX0_tall 61 = .ok (.aload_n 0, 1) := by decide +kernel
theorem dX0_tall_62 : decode cX0_tall 62 = .ok (.iload_n 1, 1) := by decide +kernel
theorem dX0_tall_63 : decode cX0_tall 63 = .ok (.invokevirtual 21, 3) := by decide +kernel
theorem dX0_tall_66 : decode cX0_tall 66 = .ok (.iconst 2, 1) := by decide +kernel
theorem dX0_tall_67 : decode cX0_tall 67 = .ok (.idiv, 1) := by decide +kernel
theorem dX0_tall_68 : decode cX0_tall 68 = .ok (.istore_n 2, 1) := by decide +kernel
theorem dX0_tall_69 : decode cX0_tall 69 = .ok (.goto 28, 3) := by decide +kernel
theorem dX0_tall_72 : decode cX0_tall 72 = .ok (.aload_n 0, 1) := by decide +kernel
theorem dX0_tall_73 : decode cX0_tall 73 = .ok (.invokevirtual 25, 3) := by decide +kernel
theorem dX0_tall_76 : decode cX0_tall 76 = .ok (.iconst 2, 1) := by decide +kernel
theorem dX0_tall_77 : decode cX0_tall 77 = .ok (.iadd, 1) := by decide +kernel
theorem dX0_tall_78 : decode cX0_tall 78 = .ok (.istore_n 2, 1) := by decide +kernel
theorem dX0_tall_79 : decode cX0_tall 79 = .ok (.goto 18, 3) := by decide +kernel
theorem dX0_tall_82 : decode cX0_tall 82 = .ok (.aload_n 0, 1) := by decide +kernel
theorem dX0_tall_83 : decode cX0_tall 83 = .ok (.getfield 15, 3) := by decide +kernel
theorem dX0_tall_86 : decode cX0_tall 86 = .ok (.iload_n 1, 1) := by decide +kernel
theorem dX0_tall_87 : decode cX0_tall 87 = .ok (.aload_n 0, 1) := by decide +kernel
theorem dX0_tall_88 : decode cX0_tall 88 = .ok (.getfield 18, 3) := by decide +kernel
theorem dX0_tall_91 : decode cX0_tall 91 = .ok (.imul, 1) := by decide +kernel
theorem dX0_tall_92 : decode cX0_tall 92 = .ok (.isub, 1) := by decide +kernel
theorem dX0_tall_93 : decode cX0_tall 93 = .ok (.istore_n 2, 1) := by decide +kernel
theorem dX0_tall_94 : decode cX0_tall 94 = .ok (.goto 3, 3) := by decide +kernel
theorem dX0_tall_97 : decode cX0_tall 97 = .ok (.iconst 0, 1) := by decide +kernel
theorem dX0_tall_98 : decode cX0_tall 98 = .ok (.iload_n 2, 1) := by decide +kernel
theorem dX0_tall_99 : decode cX0_tall 99 = .ok (.invokestatic 29, 3) := by decide +kernel
theorem dX0_tall_102 : decode cX0_tall 102 = .ok (.ireturn, 1) := by decide +kernel
theorem dX0_feltTall_0 : decode cX0_feltTall 0 = .ok (.aload_n 0, 1) := by decide +kernel
theorem dX0_feltTall_1 : decode cX0_feltTall 1 = .ok (.getfield 15, 3) := by decide +kernel
theorem dX0_feltTall_4 : decode cX0_feltTall 4 = .ok (.aload_n 0, 1) := by decide +kernel
theorem dX0_feltTall_5 : decode cX0_feltTall 5 = .ok (.getfield 18, 3) := by decide +kernel
theorem dX0_feltTall_8 : decode cX0_feltTall 8 = .ok (.iadd, 1) := by decide +kernel
theorem dX0_feltTall_9 : decode cX0_feltTall 9 = .ok (.iload_n 1, 1) := by decide +kernel
theorem dX0_feltTall_10 : decode cX0_feltTall 10 = .ok (.iconst 2, 1) := by decide +kernel
theorem dX0_feltTall_11 : decode cX0_feltTall 11 = .ok (.idiv, 1) := by decide +kernel
theorem dX0_feltTall_12 : decode cX0_feltTall 12 = .ok (.isub, 1) := by decide +kernel
theorem dX0_feltTall_13 : decode cX0_feltTall 13 = .ok (.ireturn, 1) := by decide +kernel
theorem dX0_screwTall_0 : decode cX0_screwTall 0 = .ok (.aload_n 0, 1) := by decide +kernel
theorem dX0_screwTall_1 : decode cX0_screwTall 1 = .ok (.getfield 15, 3) := by decide +kernel
theorem dX0_screwTall_4 : decode cX0_screwTall 4 = .ok (.iconst 3, 1) := by decide +kernel
theorem dX0_screwTall_5 : decode cX0_screwTall 5 = .ok (.aload_n 0, 1) := by decide +kernel
theorem dX0_screwTall_6 : decode cX0_screwTall 6 = .ok (.getfield 18, 3) := by decide +kernel
theorem dX0_screwTall_9 : decode cX0_screwTall 9 = .ok (.imul, 1) := by decide +kernel
theorem dX0_screwTall_10 : decode cX0_screwTall 10 = .ok (.iadd, 1) := by decide +kernel
theorem dX0_screwTall_11 : decode cX0_screwTall 11 = .ok (.ireturn, 1) := by decide +kernel
theorem dX0_gives_0 : decode cX0_gives 0 = .ok (.aload_n 0, 1) := by decide +kernel
theorem dX0_gives_1 : decode cX0_gives 1 = .ok (.getfield 11, 3) := by decide +kernel
theorem dX0_gives_4 : decode cX0_gives 4 = .ok (.tableswitch 59 1 5 #[36, 59, 42, 59, 50], 36) := by decide +kernel
theorem dX0_gives_40 : decode cX0_gives 40 = .ok (.aload_n 0, 1) := by decide +kernel
theorem dX0_gives_41 : decode cX0_gives 41 = .ok (.iload_n 1, 1) := by decide +kernel
theorem dX0_gives_42 : decode cX0_gives 42 = .ok (.invokevirtual 35, 3) := by decide +kernel
theorem dX0_gives_45 : decode cX0_gives 45 = .ok (.ireturn, 1) := by decide +kernel
theorem dX0_gives_46 : decode cX0_gives 46 = .ok (.aload_n 0, 1) := by decide +kernel
theorem dX0_gives_47 : decode cX0_gives 47 = .ok (.iload_n 1, 1) := by decide +kernel
theorem dX0_gives_48 : decode cX0_gives 48 = .ok (.invokevirtual 35, 3) := by decide +kernel
theorem dX0_gives_51 : decode cX0_gives 51 = .ok (.iconst 1, 1) := by decide +kernel
theorem dX0_gives_52 : decode cX0_gives 52 = .ok (.iadd, 1) := by decide +kernel
theorem dX0_gives_53 : decode cX0_gives 53 = .ok (.ireturn, 1) := by decide +kernel
theorem dX0_gives_54 : decode cX0_gives 54 = .ok (.iload_n 1, 1) := by decide +kernel
theorem dX0_gives_55 : decode cX0_gives 55 = .ok (.aload_n 0, 1) := by decide +kernel
theorem dX0_gives_56 : decode cX0_gives 56 = .ok (.getfield 18, 3) := by decide +kernel
theorem dX0_gives_59 : decode cX0_gives 59 = .ok (.invokestatic 38, 3) := by decide +kernel
theorem dX0_gives_62 : decode cX0_gives 62 = .ok (.ireturn, 1) := by decide +kernel
theorem dX0_gives_63 : decode cX0_gives 63 = .ok (.iconst 0, 1) := by decide +kernel
theorem dX0_gives_64 : decode cX0_gives 64 = .ok (.ireturn, 1) := by decide +kernel
theorem dX0_feltGives_0 : decode cX0_feltGives 0 = .ok (.iload_n 1, 1) := by decide +kernel
theorem dX0_feltGives_1 : decode cX0_feltGives 1 = .ok (.iconst 2, 1) := by decide +kernel
theorem dX0_feltGives_2 : decode cX0_feltGives 2 = .ok (.idiv, 1) := by decide +kernel
theorem dX0_feltGives_3 : decode cX0_feltGives 3 = .ok (.aload_n 0, 1) := by decide +kernel
theorem dX0_feltGives_4 : decode cX0_feltGives 4 = .ok (.getfield 18, 3) := by decide +kernel
theorem dX0_feltGives_7 : decode cX0_feltGives 7 = .ok (.invokestatic 38, 3) := by decide +kernel
theorem dX0_feltGives_10 : decode cX0_feltGives 10 = .ok (.ireturn, 1) := by decide +kernel
theorem dX0_isOne_0 : decode cX0_isOne 0 = .ok (.aload_n 0, 1) := by decide +kernel
theorem dX0_isOne_1 : decode cX0_isOne 1 = .ok (.getfield 11, 3) := by decide +kernel
theorem dX0_isOne_4 : decode cX0_isOne 4 = .ok (.istore_n 2, 1) := by decide +kernel
theorem dX0_isOne_5 : decode cX0_isOne 5 = .ok (.iconst 0, 1) := by decide +kernel
theorem dX0_isOne_6 : decode cX0_isOne 6 = .ok (.istore_n 3, 1) := by decide +kernel
theorem dX0_isOne_7 : decode cX0_isOne 7 = .ok (.iload_n 3, 1) := by decide +kernel
theorem dX0_isOne_8 : decode cX0_isOne 8 = .ok (.bipush 6, 2) := by decide +kernel
theorem dX0_isOne_10 : decode cX0_isOne 10 = .ok (.if_icmp .ge 27, 3) := by decide +kernel
theorem dX0_isOne_13 : decode cX0_isOne 13 = .ok (.iload_n 2, 1) := by decide +kernel
theorem dX0_isOne_14 : decode cX0_isOne 14 = .ok (.iload_n 1, 1) := by decide +kernel
theorem dX0_isOne_15 : decode cX0_isOne 15 = .ok (.if_icmp .eq 22, 3) := by decide +kernel
theorem dX0_isOne_18 : decode cX0_isOne 18 = .ok (.iload_n 2, 1) := by decide +kernel
theorem dX0_isOne_19 : decode cX0_isOne 19 = .ok (.invokestatic 41, 3) := by decide +kernel
theorem dX0_isOne_22 : decode cX0_isOne 22 = .ok (.ifCond .eq 15, 3) := by decide +kernel
theorem dX0_isOne_25 : decode cX0_isOne 25 = .ok (.getstatic 45, 3) := by decide +kernel
theorem dX0_isOne_28 : decode cX0_isOne 28 = .ok (.iload_n 2, 1) := by decide +kernel
theorem dX0_isOne_29 : decode cX0_isOne 29 = .ok (.iaload, 1) := by decide +kernel
theorem dX0_isOne_30 : decode cX0_isOne 30 = .ok (.istore_n 2, 1) := by decide +kernel
theorem dX0_isOne_31 : decode cX0_isOne 31 = .ok (.iinc 3 1, 3) := by decide +kernel
theorem dX0_isOne_34 : decode cX0_isOne 34 = .ok (.goto (-27), 3) := by decide +kernel
theorem dX0_isOne_37 : decode cX0_isOne 37 = .ok (.iload_n 2, 1) := by decide +kernel
theorem dX0_isOne_38 : decode cX0_isOne 38 = .ok (.iload_n 1, 1) := by decide +kernel
theorem dX0_isOne_39 : decode cX0_isOne 39 = .ok (.if_icmp .ne 7, 3) := by decide +kernel
theorem dX0_isOne_42 : decode cX0_isOne 42 = .ok (.iconst 1, 1) := by decide +kernel
theorem dX0_isOne_43 : decode cX0_isOne 43 = .ok (.goto 4, 3) := by decide +kernel
theorem dX0_isOne_46 : decode cX0_isOne 46 = .ok (.iconst 0, 1) := by decide +kernel
theorem dX0_isOne_47 : decode cX0_isOne 47 = .ok (.ireturn, 1) := by decide +kernel
theorem dX0_canScrew_0 : decode cX0_canScrew 0 = .ok (.aload_n 0, 1) := by decide +kernel
theorem dX0_canScrew_1 : decode cX0_canScrew 1 = .ok (.iconst 2, 1) := by decide +kernel
theorem dX0_canScrew_2 : decode cX0_canScrew 2 = .ok (.invokevirtual 49, 3) := by decide +kernel
theorem dX0_canScrew_5 : decode cX0_canScrew 5 = .ok (.ifCond .eq 22, 3) := by decide +kernel
theorem dX0_canScrew_8 : decode cX0_canScrew 8 = .ok (.aload_n 0, 1) := by decide +kernel
theorem dX0_canScrew_9 : decode cX0_canScrew 9 = .ok (.getfield 18, 3) := by decide +kernel
theorem dX0_canScrew_12 : decode cX0_canScrew 12 = .ok (.iload_n 1, 1) := by decide +kernel
theorem dX0_canScrew_13 : decode cX0_canScrew 13 = .ok (.iadd, 1) := by decide +kernel
theorem dX0_canScrew_14 : decode cX0_canScrew 14 = .ok (.iconst 0, 1) := by decide +kernel
theorem dX0_canScrew_15 : decode cX0_canScrew 15 = .ok (.bipush 9, 2) := by decide +kernel
theorem dX0_canScrew_17 : decode cX0_canScrew 17 = .ok (.invokestatic 52, 3) := by decide +kernel
theorem dX0_canScrew_20 : decode cX0_canScrew 20 = .ok (.ifCond .eq 7, 3) := by decide +kernel
theorem dX0_canScrew_23 : decode cX0_canScrew 23 = .ok (.iconst 1, 1) := by decide +kernel
theorem dX0_canScrew_24 : decode cX0_canScrew 24 = .ok (.goto 4, 3) := by decide +kernel
theorem dX0_canScrew_27 : decode cX0_canScrew 27 = .ok (.iconst 0, 1) := by decide +kernel
theorem dX0_canScrew_28 : decode cX0_canScrew 28 = .ok (.ireturn, 1) := by decide +kernel
theorem dX0_shorten_0 : decode cX0_shorten 0 = .ok (.aload_n 0, 1) := by decide +kernel
theorem dX0_shorten_1 : decode cX0_shorten 1 = .ok (.iconst 0, 1) := by decide +kernel
theorem dX0_shorten_2 : decode cX0_shorten 2 = .ok (.aload_n 0, 1) := by decide +kernel
theorem dX0_shorten_3 : decode cX0_shorten 3 = .ok (.getfield 15, 3) := by decide +kernel
theorem dX0_shorten_6 : decode cX0_shorten 6 = .ok (.iload_n 1, 1) := by decide +kernel
theorem dX0_shorten_7 : decode cX0_shorten 7 = .ok (.isub, 1) := by decide +kernel
theorem dX0_shorten_8 : decode cX0_shorten 8 = .ok (.invokestatic 29, 3) := by decide +kernel
theorem dX0_shorten_11 : decode cX0_shorten 11 = .ok (.putfield 15, 3) := by decide +kernel
theorem dX0_shorten_14 : decode cX0_shorten 14 = .ok (.return_, 1) := by decide +kernel
theorem dX1_init_0 : decode cX1_init 0 = .ok (.aload_n 0, 1) := by decide +kernel
theorem dX1_init_1 : decode cX1_init 1 = .ok (.invokespecial 3, 3) := by decide +kernel
theorem dX1_init_4 : decode cX1_init 4 = .ok (.aload_n 0, 1) := by decide +kernel
theorem dX1_init_5 : decode cX1_init 5 = .ok (.sipush 160, 3) := by decide +kernel
theorem dX1_init_8 : decode cX1_init 8 = .ok (.newarray .int, 2) := by decide +kernel
theorem dX1_init_10 : decode cX1_init 10 = .ok (.putfield 9, 3) := by decide +kernel
theorem dX1_init_13 : decode cX1_init 13 = .ok (.aload_n 0, 1) := by decide +kernel
theorem dX1_init_14 : decode cX1_init 14 = .ok (.new 15, 3) := by decide +kernel
theorem dX1_init_17 : decode cX1_init 17 = .ok (.dup, 1) := by decide +kernel
theorem dX1_init_18 : decode cX1_init 18 = .ok (.invokespecial 17, 3) := by decide +kernel
theorem dX1_init_21 : decode cX1_init 21 = .ok (.putfield 18, 3) := by decide +kernel
theorem dX1_init_24 : decode cX1_init 24 = .ok (.aload_n 0, 1) := by decide +kernel
theorem dX1_init_25 : decode cX1_init 25 = .ok (.iconst 0, 1) := by decide +kernel
theorem dX1_init_26 : decode cX1_init 26 = .ok (.putfield 22, 3) := by decide +kernel
theorem dX1_init_29 : decode cX1_init 29 = .ok (.aload_n 0, 1) := by decide +kernel
theorem dX1_init_30 : decode cX1_init 30 = .ok (.iconst 0, 1) := by decide +kernel
theorem dX1_init_31 : decode cX1_init 31 = .ok (.putfield 28, 3) := by decide +kernel
theorem dX1_init_34 : decode cX1_init 34 = .ok (.aload_n 0, 1) := by decide +kernel
theorem dX1_init_35 : decode cX1_init 35 = .ok (.iconst 0, 1) := by decide +kernel
theorem dX1_init_36 : decode cX1_init 36 = .ok (.putfield 31, 3) := by decide +kernel
theorem dX1_init_39 : decode cX1_init 39 = .ok (.aload_n 0, 1) := by decide +kernel
theorem dX1_init_40 : decode cX1_init 40 = .ok (.iconst 0, 1) := by decide +kernel
theorem dX1_init_41 : decode cX1_init 41 = .ok (.putfield 34, 3) := by decide +kernel
theorem dX1_init_44 : decode cX1_init 44 = .ok (.aload_n 0, 1) := by decide +kernel
theorem dX1_init_45 : decode cX1_init 45 = .ok (.iconst 0, 1) := by decide +kernel
theorem dX1_init_46 : decode cX1_init 46 = .ok (.putfield 37, 3) := by decide +kernel
theorem dX1_init_49 : decode cX1_init 49 = .ok (.aload_n 0, 1) := by decide +kernel
theorem dX1_init_50 : decode cX1_init 50 = .ok (.iconst (-1), 1) := by decide +kernel
theorem dX1_init_51 : decode cX1_init 51 = .ok (.putfield 40, 3) := by decide +kernel
theorem dX1_init_54 : decode cX1_init 54 = .ok (.return_, 1) := by decide +kernel
theorem dX1_append_0 : decode cX1_append 0 = .ok (.aload_n 0, 1) := by decide +kernel
theorem dX1_append_1 : decode cX1_append 1 = .ok (.getfield 22, 3) := by decide +kernel
theorem dX1_append_4 : decode cX1_append 4 = .ok (.sipush 160, 3) := by decide +kernel
theorem dX1_append_7 : decode cX1_append 7 = .ok (.if_icmp .lt 5, 3) := by decide +kernel
theorem dX1_append_10 : decode cX1_append 10 = .ok (.iconst 0, 1) := by decide +kernel
theorem dX1_append_11 : decode cX1_append 11 = .ok (.ireturn, 1) := by decide +kernel
theorem dX1_append_12 : decode cX1_append 12 = .ok (.aload_n 0, 1) := by decide +kernel
theorem dX1_append_13 : decode cX1_append 13 = .ok (.getfield 9, 3) := by decide +kernel
theorem dX1_append_16 : decode cX1_append 16 = .ok (.aload_n 0, 1) := by decide +kernel
theorem dX1_append_17 : decode cX1_append 17 = .ok (.getfield 22, 3) := by decide +kernel
theorem dX1_append_20 : decode cX1_append 20 = .ok (.iload_n 1, 1) := by decide +kernel
theorem dX1_append_21 : decode cX1_append 21 = .ok (.iastore, 1) := by decide +kernel
theorem dX1_append_22 : decode cX1_append 22 = .ok (.aload_n 0, 1) := by decide +kernel
theorem dX1_append_23 : decode cX1_append 23 = .ok (.dup, 1) := by decide +kernel
theorem dX1_append_24 : decode cX1_append 24 = .ok (.getfield 22, 3) := by decide +kernel
theorem dX1_append_27 : decode cX1_append 27 = .ok (.iconst 1, 1) := by decide +kernel
theorem dX1_append_28 : decode cX1_append 28 = .ok (.iadd, 1) := by decide +kernel
theorem dX1_append_29 : decode cX1_append 29 = .ok (.putfield 22, 3) := by decide +kernel
theorem dX1_append_32 : decode cX1_append 32 = .ok (.iconst 1, 1) := by decide +kernel
theorem dX1_append_33 : decode cX1_append 33 = .ok (.ireturn, 1) := by decide +kernel
theorem dX1_readTape_0 : decode cX1_readTape 0 = .ok (.aload_n 0, 1) := by decide +kernel
theorem dX1_readTape_1 : decode cX1_readTape 1 = .ok (.getfield 18, 3) := by decide +kernel
theorem dX1_readTape_4 : decode cX1_readTape 4 = .ok (.iconst 0, 1) := by decide +kernel
theorem dX1_readTape_5 : decode cX1_readTape 5 = .ok (.putfield 43, 3) := by decide +kernel
theorem dX1_readTape_8 : decode cX1_readTape 8 = .ok (.aload_n 0, 1) := by decide +kernel
theorem dX1_readTape_9 : decode cX1_readTape 9 = .ok (.iconst 0, 1) := by decide +kernel
theorem dX1_readTape_10 : decode cX1_readTape 10 = .ok (.putfield 34, 3) := by decide +kernel
theorem dX1_readTape_13 : decode cX1_readTape 13 = .ok (.aload_n 0, 1) := by decide +kernel
theorem dX1_readTape_14 : decode cX1_readTape 14 = .ok (.iconst (-1), 1) := by decide +kernel
theorem dX1_readTape_15 : decode cX1_readTape 15 = .ok (.putfield 40, 3) := by decide +kernel
theorem dX1_readTape_18 : decode cX1_readTape 18 = .ok (.aload_n 0, 1) := by decide +kernel
theorem dX1_readTape_19 : decode cX1_readTape 19 = .ok (.invokevirtual 44, 3) := by decide +kernel
theorem dX1_readTape_22 : decode cX1_readTape 22 = .ok (.iconst 0, 1) := by decide +kernel
theorem dX1_readTape_23 : decode cX1_readTape 23 = .ok (.istore_n 1, 1) := by decide +kernel
theorem dX1_readTape_24 : decode cX1_readTape 24 = .ok (.iload_n 1, 1) := by decide +kernel
theorem dX1_readTape_25 : decode cX1_readTape 25 = .ok (.iconst 3, 1) := by decide +kernel
theorem dX1_readTape_26 : decode cX1_readTape 26 = .ok (.if_icmp .ge 35, 3) := by decide +kernel
theorem dX1_readTape_29 : decode cX1_readTape 29 = .ok (.aload_n 0, 1) := by decide +kernel
theorem dX1_readTape_30 : decode cX1_readTape 30 = .ok (.bipush 6, 2) := by decide +kernel
theorem dX1_readTape_32 : decode cX1_readTape 32 = .ok (.iload_n 1, 1) := by decide +kernel
theorem dX1_readTape_33 : decode cX1_readTape 33 = .ok (.iadd, 1) := by decide +kernel
theorem dX1_readTape_34 : decode cX1_readTape 34 = .ok (.invokevirtual 47, 3) := by decide +kernel
theorem dX1_readTape_37 : decode cX1_readTape 37 = .ok (.aload_n 0, 1) := by decide +kernel
theorem dX1_readTape_38 : decode cX1_readTape 38 = .ok (.iconst 0, 1) := by decide +kernel
theorem dX1_readTape_39 : decode cX1_readTape 39 = .ok (.invokevirtual 51, 3) := by decide +kernel
theorem dX1_readTape_42 : decode cX1_readTape 42 = .ok (.aload_n 0, 1) := by decide +kernel
theorem dX1_readTape_43 : decode cX1_readTape 43 = .ok (.iconst 5, 1) := by decide +kernel
theorem dX1_readTape_44 : decode cX1_readTape 44 = .ok (.invokevirtual 47, 3) := by decide +kernel
theorem dX1_readTape_47 : decode cX1_readTape 47 = .ok (.aload_n 0, 1) := by decide +kernel
theorem dX1_readTape_48 : decode cX1_readTape 48 = .ok (.getfield 18, 3) := by decide +kernel
theorem dX1_readTape_51 : decode cX1_readTape 51 = .ok (.iload_n 1, 1) := by decide +kernel
theorem dX1_readTape_52 : decode cX1_readTape 52 = .ok (.invokevirtual 54, 3) := by decide +kernel
theorem dX1_readTape_55 : decode cX1_readTape 55 = .ok (.iinc 1 1, 3) := by decide +kernel
theorem dX1_readTape_58 : decode cX1_readTape 58 = .ok (.goto (-34), 3) := by decide +kernel
theorem dX1_readTape_61 : decode cX1_readTape 61 = .ok (.aload_n 0, 1) := by decide +kernel
theorem dX1_readTape_62 : decode cX1_readTape 62 = .ok (.getfield 28, 3) := by decide +kernel
theorem dX1_readTape_65 : decode cX1_readTape 65 = .ok (.ifCond .eq 7, 3) := by decide +kernel
theorem dX1_readTape_68 : decode cX1_readTape 68 = .ok (.aload_n 0, 1) := by decide +kernel
theorem dX1_readTape_69 : decode cX1_readTape 69 = .ok (.invokevirtual 57, 3) := by decide +kernel
theorem dX1_readTape_72 : decode cX1_readTape 72 = .ok (.aload_n 0, 1) := by decide +kernel
theorem dX1_readTape_73 : decode cX1_readTape 73 = .ok (.iconst 0, 1) := by decide +kernel
theorem dX1_readTape_74 : decode cX1_readTape 74 = .ok (.putfield 22, 3) := by decide +kernel
theorem dX1_readTape_77 : decode cX1_readTape 77 = .ok (.aload_n 0, 1) := by decide +kernel
theorem dX1_readTape_78 : decode cX1_readTape 78 = .ok (.getfield 40, 3) := by decide +kernel
theorem dX1_readTape_81 : decode cX1_readTape 81 = .ok (.ireturn, 1) := by decide +kernel
theorem dX1_readOr_0 : decode cX1_readOr 0 = .ok (.aload_n 0, 1) := by decide +kernel
theorem dX1_readOr_1 : decode cX1_readOr 1 = .ok (.iload_n 1, 1) := by decide +kernel
theorem dX1_readOr_2 : decode cX1_readOr 2 = .ok (.invokevirtual 60, 3) := by decide +kernel
theorem dX1_readOr_5 : decode cX1_readOr 5 = .ok (.iconst 0, 1) := by decide +kernel
theorem dX1_readOr_6 : decode cX1_readOr 6 = .ok (.istore_n 2, 1) := by decide +kernel
theorem dX1_readOr_7 : decode cX1_readOr 7 = .ok (.iload_n 2, 1) := by decide +kernel
theorem dX1_readOr_8 : decode cX1_readOr 8 = .ok (.sipush 160, 3) := by decide +kernel
theorem dX1_readOr_11 : decode cX1_readOr 11 = .ok (.if_icmp .ge 36, 3) := by decide +kernel
theorem dX1_readOr_14 : decode cX1_readOr 14 = .ok (.aload_n 0, 1) := by decide +kernel
theorem dX1_readOr_15 : decode cX1_readOr 15 = .ok (.getfield 28, 3) := by decide +kernel
theorem dX1_readOr_18 : decode cX1_readOr 18 = .ok (.bipush (-7), 2) := by decide +kernel
theorem dX1_readOr_20 : decode cX1_readOr 20 = .ok (.if_icmp .ne 27, 3) := by decide +kernel
theorem dX1_readOr_23 : decode cX1_readOr 23 = .ok (.aload_n 0, 1) := by decide +kernel
theorem dX1_readOr_24 : decode cX1_readOr 24 = .ok (.invokevirtual 44, 3) := by decide +kernel
theorem dX1_readOr_27 : decode cX1_readOr 27 = .ok (.aload_n 0, 1) := by decide +kernel
theorem dX1_readOr_28 : decode cX1_readOr 28 = .ok (.iload_n 1, 1) := by decide +kernel
theorem dX1_readOr_29 : decode cX1_readOr 29 = .ok (.invokevirtual 60, 3) := by decide +kernel
theorem dX1_readOr_32 : decode cX1_readOr 32 = .ok (.aload_n 0, 1) := by decide +kernel
theorem dX1_readOr_33 : decode cX1_readOr 33 = .ok (.getfield 18, 3) := by decide +kernel
theorem dX1_readOr_36 : decode cX1_readOr 36 = .ok (.bipush (-7), 2) := by decide +kernel
theorem dX1_readOr_38 : decode cX1_readOr 38 = .ok (.invokevirtual 63, 3) := by decide +kernel
theorem dX1_readOr_41 : decode cX1_readOr 41 = .ok (.iinc 2 1, 3) := by decide +kernel
theorem dX1_readOr_44 : decode cX1_readOr 44 = .ok (.goto (-37), 3) := by decide +kernel
theorem dX1_readOr_47 : decode cX1_readOr 47 = .ok (.return_, 1) := by decide +kernel
theorem dX1_readAnd_0 : decode cX1_readAnd 0 = .ok (.aload_n 0, 1) := by decide +kernel
theorem dX1_readAnd_1 : decode cX1_readAnd 1 = .ok (.iload_n 1, 1) := by decide +kernel
theorem dX1_readAnd_2 : decode cX1_readAnd 2 = .ok (.invokevirtual 66, 3) := by decide +kernel
theorem dX1_readAnd_5 : decode cX1_readAnd 5 = .ok (.iconst 0, 1) := by decide +kernel
theorem dX1_readAnd_6 : decode cX1_readAnd 6 = .ok (.istore_n 2, 1) := by decide +kernel
theorem dX1_readAnd_7 : decode cX1_readAnd 7 = .ok (.iload_n 2, 1) := by decide +kernel
theorem dX1_readAnd_8 : decode cX1_readAnd 8 = .ok (.sipush 160, 3) := by decide +kernel
theorem dX1_readAnd_11 : decode cX1_readAnd 11 = .ok (.if_icmp .ge 36, 3) := by decide +kernel
theorem dX1_readAnd_14 : decode cX1_readAnd 14 = .ok (.aload_n 0, 1) := by decide +kernel
theorem dX1_readAnd_15 : decode cX1_readAnd 15 = .ok (.getfield 28, 3) := by decide +kernel
theorem dX1_readAnd_18 : decode cX1_readAnd 18 = .ok (.bipush (-8), 2) := by decide +kernel
theorem dX1_readAnd_20 : decode cX1_readAnd 20 = .ok (.if_icmp .ne 27, 3) := by decide +kernel
theorem dX1_readAnd_23 : decode cX1_readAnd 23 = .ok (.aload_n 0, 1) := by decide +kernel
theorem dX1_readAnd_24 : decode cX1_readAnd 24 = .ok (.invokevirtual 44, 3) := by decide +kernel
theorem dX1_readAnd_27 : decode cX1_readAnd 27 = .ok (.aload_n 0, 1) := by decide +kernel
theorem dX1_readAnd_28 : decode cX1_readAnd 28 = .ok (.iload_n 1, 1) := by decide +kernel
theorem dX1_readAnd_29 : decode cX1_readAnd 29 = .ok (.invokevirtual 66, 3) := by decide +kernel
theorem dX1_readAnd_32 : decode cX1_readAnd 32 = .ok (.aload_n 0, 1) := by decide +kernel
theorem dX1_readAnd_33 : decode cX1_readAnd 33 = .ok (.getfield 18, 3) := by decide +kernel
theorem dX1_readAnd_36 : decode cX1_readAnd 36 = .ok (.bipush (-8), 2) := by decide +kernel
theorem dX1_readAnd_38 : decode cX1_readAnd 38 = .ok (.invokevirtual 63, 3) := by decide +kernel
theorem dX1_readAnd_41 : decode cX1_readAnd 41 = .ok (.iinc 2 1, 3) := by decide +kernel
theorem dX1_readAnd_44 : decode cX1_readAnd 44 = .ok (.goto (-37), 3) := by decide +kernel
theorem dX1_readAnd_47 : decode cX1_readAnd 47 = .ok (.return_, 1) := by decide +kernel
theorem dX1_readNot_0 : decode cX1_readNot 0 = .ok (.aload_n 0, 1) := by decide +kernel
theorem dX1_readNot_1 : decode cX1_readNot 1 = .ok (.getfield 28, 3) := by decide +kernel
theorem dX1_readNot_4 : decode cX1_readNot 4 = .ok (.bipush (-9), 2) := by decide +kernel
theorem dX1_readNot_6 : decode cX1_readNot 6 = .ok (.if_icmp .ne 34, 3) := by decide +kernel
theorem dX1_readNot_9 : decode cX1_readNot 9 = .ok (.iload_n 1, 1) := by decide +kernel
theorem dX1_readNot_10 : decode cX1_readNot 10 = .ok (.iconst 5, 1) := by decide +kernel
theorem dX1_readNot_11 : decode cX1_readNot 11 = .ok (.if_icmp .lt 8, 3) := by decide +kernel
theorem dX1_readNot_14 : decode cX1_readNot 14 = .ok (.aload_n 0, 1) := by decide +kernel
theorem dX1_readNot_15 : decode cX1_readNot 15 = .ok (.invokevirtual 57, 3) := by decide +kernel
theorem dX1_readNot_18 : decode cX1_readNot 18 = .ok (.return_, 1) := by decide +kernel
theorem dX1_readNot_19 : decode cX1_readNot 19 = .ok (.aload_n 0, 1) := by decide +kernel
theorem dX1_readNot_20 : decode cX1_readNot 20 = .ok (.invokevirtual 44, 3) := by decide +kernel
theorem dX1_readNot_23 : decode cX1_readNot 23 = .ok (.aload_n 0, 1) := by decide +kernel
theorem dX1_readNot_24 : decode cX1_readNot 24 = .ok (.iload_n 1, 1) := by decide +kernel
theorem dX1_readNot_25 : decode cX1_readNot 25 = .ok (.iconst 1, 1) := by decide +kernel
theorem dX1_readNot_26 : decode cX1_readNot 26 = .ok (.iadd, 1) := by decide +kernel
theorem dX1_readNot_27 : decode cX1_readNot 27 = .ok (.invokevirtual 66, 3) := by decide +kernel
theorem dX1_readNot_30 : decode cX1_readNot 30 = .ok (.aload_n 0, 1) := by decide +kernel
theorem dX1_readNot_31 : decode cX1_readNot 31 = .ok (.getfield 18, 3) := by decide +kernel
theorem dX1_readNot_34 : decode cX1_readNot 34 = .ok (.bipush (-9), 2) := by decide +kernel
theorem dX1_readNot_36 : decode cX1_readNot 36 = .ok (.invokevirtual 63, 3) := by decide +kernel
theorem dX1_readNot_39 : decode cX1_readNot 39 = .ok (.return_, 1) := by decide +kernel
theorem dX1_readNot_40 : decode cX1_readNot 40 = .ok (.aload_n 0, 1) := by decide +kernel
theorem dX1_readNot_41 : decode cX1_readNot 41 = .ok (.iload_n 1, 1) := by decide +kernel
theorem dX1_readNot_42 : decode cX1_readNot 42 = .ok (.invokevirtual 69, 3) := by decide +kernel
theorem dX1_readNot_45 : decode cX1_readNot 45 = .ok (.aload_n 0, 1) := by decide +kernel
theorem dX1_readNot_46 : decode cX1_readNot 46 = .ok (.getfield 28, 3) := by decide +kernel
theorem dX1_readNot_49 : decode cX1_readNot 49 = .ok (.bipush (-10), 2) := by decide +kernel
theorem dX1_readNot_51 : decode cX1_readNot 51 = .ok (.if_icmp .eq 12, 3) := by decide +kernel
theorem dX1_readNot_54 : decode cX1_readNot 54 = .ok (.aload_n 0, 1) := by decide +kernel
theorem dX1_readNot_55 : decode cX1_readNot 55 = .ok (.getfield 28, 3) := by decide +kernel
theorem dX1_readNot_58 : decode cX1_readNot 58 = .ok (.bipush (-11), 2) := by decide +kernel
theorem dX1_readNot_60 : decode cX1_readNot 60 = .ok (.if_icmp .ne 25, 3) := by decide +kernel
theorem dX1_readNot_63 : decode cX1_readNot 63 = .ok (.aload_n 0, 1) := by decide +kernel
theorem dX1_readNot_64 : decode cX1_readNot 64 = .ok (.getfield 28, 3) := by decide +kernel
theorem dX1_readNot_67 : decode cX1_readNot 67 = .ok (.istore_n 2, 1) := by decide +kernel
theorem dX1_readNot_68 : decode cX1_readNot 68 = .ok (.aload_n 0, 1) := by decide +kernel
theorem dX1_readNot_69 : decode cX1_readNot 69 = .ok (.invokevirtual 44, 3) := by decide +kernel
theorem dX1_readNot_72 : decode cX1_readNot 72 = .ok (.aload_n 0, 1) := by decide +kernel
theorem dX1_readNot_73 : decode cX1_readNot 73 = .ok (.iload_n 1, 1) := by decide +kernel
theorem dX1_readNot_74 : decode cX1_readNot 74 = .ok (.invokevirtual 69, 3) := by decide +kernel
theorem dX1_readNot_77 : decode cX1_readNot 77 = .ok (.aload_n 0, 1) := by decide +kernel
theorem dX1_readNot_78 : decode cX1_readNot 78 = .ok (.getfield 18, 3) := by decide +kernel
theorem dX1_readNot_81 : decode cX1_readNot 81 = .ok (.iload_n 2, 1) := by decide +kernel
theorem dX1_readNot_82 : decode cX1_readNot 82 = .ok (.invokevirtual 63, 3) := by decide +kernel
theorem dX1_readNot_85 : decode cX1_readNot 85 = .ok (.return_, 1) := by decide +kernel
theorem dX1_readSum_0 : decode cX1_readSum 0 = .ok (.aload_n 0, 1) := by decide +kernel
theorem dX1_readSum_1 : decode cX1_readSum 1 = .ok (.iload_n 1, 1) := by decide +kernel
theorem dX1_readSum_2 : decode cX1_readSum 2 = .ok (.invokevirtual 72, 3) := by decide +kernel
theorem dX1_readSum_5 : decode cX1_readSum 5 = .ok (.iconst 0, 1) := by decide +kernel
theorem dX1_readSum_6 : decode cX1_readSum 6 = .ok (.istore_n 2, 1) := by decide +kernel
theorem dX1_readSum_7 : decode cX1_readSum 7 = .ok (.iload_n 2, 1) := by decide +kernel
theorem dX1_readSum_8 : decode cX1_readSum 8 = .ok (.sipush 160, 3) := by decide +kernel
theorem dX1_readSum_11 : decode cX1_readSum 11 = .ok (.if_icmp .ge 49, 3) := by decide +kernel
theorem dX1_readSum_14 : decode cX1_readSum 14 = .ok (.aload_n 0, 1) := by decide +kernel
theorem dX1_readSum_15 : decode cX1_readSum 15 = .ok (.getfield 28, 3) := by decide +kernel
theorem dX1_readSum_18 : decode cX1_readSum 18 = .ok (.bipush (-12), 2) := by decide +kernel
theorem dX1_readSum_20 : decode cX1_readSum 20 = .ok (.if_icmp .eq 12, 3) := by decide +kernel
theorem dX1_readSum_23 : decode cX1_readSum 23 = .ok (.aload_n 0, 1) := by decide +kernel
theorem dX1_readSum_24 : decode cX1_readSum 24 = .ok (.getfield 28, 3) := by decide +kernel
theorem dX1_readSum_27 : decode cX1_readSum 27 = .ok (.bipush (-13), 2) := by decide +kernel
theorem dX1_readSum_29 : decode cX1_readSum 29 = .ok (.if_icmp .ne 31, 3) := by decide +kernel
theorem dX1_readSum_32 : decode cX1_readSum 32 = .ok (.aload_n 0, 1) := by decide +kernel
theorem dX1_readSum_33 : decode cX1_readSum 33 = .ok (.getfield 28, 3) := by decide +kernel
theorem dX1_readSum_36 : decode cX1_readSum 36 = .ok (.istore_n 3, 1) := by decide +kernel
theorem dX1_readSum_37 : decode cX1_readSum 37 = .ok (.aload_n 0, 1) := by decide +kernel
theorem dX1_readSum_38 : decode cX1_readSum 38 = .ok (.invokevirtual 44, 3) := by decide +kernel
theorem dX1_readSum_41 : decode cX1_readSum 41 = .ok (.aload_n 0, 1) := by decide +kernel
theorem dX1_readSum_42 : decode cX1_readSum 42 = .ok (.iload_n 1, 1) := by decide +kernel
theorem dX1_readSum_43 : decode cX1_readSum 43 = .ok (.invokevirtual 72, 3) := by decide +kernel
theorem dX1_readSum_46 : decode cX1_readSum 46 = .ok (.aload_n 0, 1) := by decide +kernel
theorem dX1_readSum_47 : decode cX1_readSum 47 = .ok (.getfield 18, 3) := by decide +kernel
theorem dX1_readSum_50 : decode cX1_readSum 50 = .ok (.iload_n 3, 1) := by decide +kernel
theorem dX1_readSum_51 : decode cX1_readSum 51 = .ok (.invokevirtual 63, 3) := by decide +kernel
theorem dX1_readSum_54 : decode cX1_readSum 54 = .ok (.iinc 2 1, 3) := by decide +kernel
theorem dX1_readSum_57 : decode cX1_readSum 57 = .ok (.goto (-50), 3) := by decide +kernel
theorem dX1_readSum_60 : decode cX1_readSum 60 = .ok (.return_, 1) := by decide +kernel
theorem dX1_readTerm_0 : decode cX1_readTerm 0 = .ok (.aload_n 0, 1) := by decide +kernel
theorem dX1_readTerm_1 : decode cX1_readTerm 1 = .ok (.iload_n 1, 1) := by decide +kernel
theorem dX1_readTerm_2 : decode cX1_readTerm 2 = .ok (.invokevirtual 75, 3) := by decide +kernel
theorem dX1_readTerm_5 : decode cX1_readTerm 5 = .ok (.iconst 0, 1) := by decide +kernel
theorem dX1_readTerm_6 : decode cX1_readTerm 6 = .ok (.istore_n 2, 1) := by decide +kernel
theorem dX1_readTerm_7 : decode cX1_readTerm 7 = .ok (.iload_n 2, 1) := by decide +kernel
theorem dX1_readTerm_8 : decode cX1_readTerm 8 = .ok (.sipush 160, 3) := by decide +kernel
theorem dX1_readTerm_11 : decode cX1_readTerm 11 = .ok (.if_icmp .ge 36, 3) := by decide +kernel
theorem dX1_readTerm_14 : decode cX1_readTerm 14 = .ok (.aload_n 0, 1) := by decide +kernel
theorem dX1_readTerm_15 : decode cX1_readTerm 15 = .ok (.getfield 28, 3) := by decide +kernel
theorem dX1_readTerm_18 : decode cX1_readTerm 18 = .ok (.bipush (-14), 2) := by decide +kernel
theorem dX1_readTerm_20 : decode cX1_readTerm 20 = .ok (.if_icmp .ne 27, 3) := by decide +kernel
theorem dX1_readTerm_23 : decode cX1_readTerm 23 = .ok (.aload_n 0, 1) := by decide +kernel
theorem dX1_readTerm_24 : decode cX1_readTerm 24 = .ok (.invokevirtual 44, 3) := by decide +kernel
theorem dX1_readTerm_27 : decode cX1_readTerm 27 = .ok (.aload_n 0, 1) := by decide +kernel
theorem dX1_readTerm_28 : decode cX1_readTerm 28 = .ok (.iload_n 1, 1) := by decide +kernel
theorem dX1_readTerm_29 : decode cX1_readTerm 29 = .ok (.invokevirtual 75, 3) := by decide +kernel
theorem dX1_readTerm_32 : decode cX1_readTerm 32 = .ok (.aload_n 0, 1) := by decide +kernel
theorem dX1_readTerm_33 : decode cX1_readTerm 33 = .ok (.getfield 18, 3) := by decide +kernel
theorem dX1_readTerm_36 : decode cX1_readTerm 36 = .ok (.bipush (-14), 2) := by decide +kernel
theorem dX1_readTerm_38 : decode cX1_readTerm 38 = .ok (.invokevirtual 63, 3) := by decide +kernel
theorem dX1_readTerm_41 : decode cX1_readTerm 41 = .ok (.iinc 2 1, 3) := by decide +kernel
theorem dX1_readTerm_44 : decode cX1_readTerm 44 = .ok (.goto (-37), 3) := by decide +kernel
theorem dX1_readTerm_47 : decode cX1_readTerm 47 = .ok (.return_, 1) := by decide +kernel
theorem dX1_readOne_0 : decode cX1_readOne 0 = .ok (.aload_n 0, 1) := by decide +kernel
theorem dX1_readOne_1 : decode cX1_readOne 1 = .ok (.getfield 28, 3) := by decide +kernel
theorem dX1_readOne_4 : decode cX1_readOne 4 = .ok (.iconst 2, 1) := by decide +kernel
theorem dX1_readOne_5 : decode cX1_readOne 5 = .ok (.if_icmp .ne 21, 3) := by decide +kernel
theorem dX1_readOne_8 : decode cX1_readOne 8 = .ok (.aload_n 0, 1) := by decide +kernel
theorem dX1_readOne_9 : decode cX1_readOne 9 = .ok (.getfield 18, 3) := by decide +kernel
theorem dX1_readOne_12 : decode cX1_readOne 12 = .ok (.aload_n 0, 1) := by decide +kernel
theorem dX1_readOne_13 : decode cX1_readOne 13 = .ok (.getfield 37, 3) := by decide +kernel
theorem dX1_readOne_16 : decode cX1_readOne 16 = .ok (.invokevirtual 63, 3) := by decide +kernel
theorem dX1_readOne_19 : decode cX1_readOne 19 = .ok (.aload_n 0, 1) := by decide +kernel
theorem dX1_readOne_20 : decode cX1_readOne 20 = .ok (.invokevirtual 44, 3) := by decide +kernel
theorem dX1_readOne_23 : decode cX1_readOne 23 = .ok (.goto 104, 3) := by decide +kernel
theorem dX1_readOne_26 : decode cX1_readOne 26 = .ok (.aload_n 0, 1) := by decide +kernel
theorem dX1_readOne_27 : decode cX1_readOne 27 = .ok (.getfield 28, 3) := by decide +kernel
theorem dX1_readOne_30 : decode cX1_readOne 30 = .ok (.invokestatic 78, 3) := by decide +kernel
theorem dX1_readOne_33 : decode cX1_readOne 33 = .ok (.ifCond .eq 21, 3) := by decide +kernel
theorem dX1_readOne_36 : decode cX1_readOne 36 = .ok (.aload_n 0, 1) := by decide +kernel
theorem dX1_readOne_37 : decode cX1_readOne 37 = .ok (.getfield 18, 3) := by decide +kernel
theorem dX1_readOne_40 : decode cX1_readOne 40 = .ok (.aload_n 0, 1) := by decide +kernel
theorem dX1_readOne_41 : decode cX1_readOne 41 = .ok (.getfield 28, 3) := by decide +kernel
theorem dX1_readOne_44 : decode cX1_readOne 44 = .ok (.invokevirtual 63, 3) := by decide +kernel
theorem dX1_readOne_47 : decode cX1_readOne 47 = .ok (.aload_n 0, 1) := by decide +kernel
theorem dX1_readOne_48 : decode cX1_readOne 48 = .ok (.invokevirtual 44, 3) := by decide +kernel
theorem dX1_readOne_51 : decode cX1_readOne 51 = .ok (.goto 76, 3) := by decide +kernel
theorem dX1_readOne_54 : decode cX1_readOne 54 = .ok (.aload_n 0, 1) := by decide +kernel
theorem dX1_readOne_55 : decode cX1_readOne 55 = .ok (.getfield 28, 3) := by decide +kernel
theorem dX1_readOne_58 : decode cX1_readOne 58 = .ok (.bipush (-13), 2) := by decide +kernel
theorem dX1_readOne_60 : decode cX1_readOne 60 = .ok (.if_icmp .ne 31, 3) := by decide +kernel
theorem dX1_readOne_63 : decode cX1_readOne 63 = .ok (.iload_n 1, 1) := by decide +kernel
theorem dX1_readOne_64 : decode cX1_readOne 64 = .ok (.iconst 5, 1) := by decide +kernel
theorem dX1_readOne_65 : decode cX1_readOne 65 = .ok (.if_icmp .ge 26, 3) := by decide +kernel
theorem dX1_readOne_68 : decode cX1_readOne 68 = .ok (.aload_n 0, 1) := by decide +kernel
theorem dX1_readOne_69 : decode cX1_readOne 69 = .ok (.invokevirtual 44, 3) := by decide +kernel
theorem dX1_readOne_72 : decode cX1_readOne 72 = .ok (.aload_n 0, 1) := by decide +kernel
theorem dX1_readOne_73 : decode cX1_readOne 73 = .ok (.iload_n 1, 1) := by decide +kernel
theorem dX1_readOne_74 : decode cX1_readOne 74 = .ok (.iconst 1, 1) := by decide +kernel
theorem dX1_readOne_75 : decode cX1_readOne 75 = .ok (.iadd, 1) := by decide +kernel
theorem dX1_readOne_76 : decode cX1_readOne 76 = .ok (.invokevirtual 75, 3) := by decide +kernel
theorem dX1_readOne_79 : decode cX1_readOne 79 = .ok (.aload_n 0, 1) := by decide +kernel
theorem dX1_readOne_80 : decode cX1_readOne 80 = .ok (.getfield 18, 3) := by decide +kernel
theorem dX1_readOne_83 : decode cX1_readOne 83 = .ok (.bipush (-15), 2) := by decide +kernel
theorem dX1_readOne_85 : decode cX1_readOne 85 = .ok (.invokevirtual 63, 3) := by decide +kernel
theorem dX1_readOne_88 : decode cX1_readOne 88 = .ok (.goto 39, 3) := by decide +kernel
theorem dX1_readOne_91 : decode cX1_readOne 91 = .ok (.aload_n 0, 1) := by decide +kernel
theorem dX1_readOne_92 : decode cX1_readOne 92 = .ok (.getfield 28, 3) := by decide +kernel
theorem dX1_readOne_95 : decode cX1_readOne 95 = .ok (.iconst 3, 1) := by decide +kernel
theorem dX1_readOne_96 : decode cX1_readOne 96 = .ok (.if_icmp .ne 27, 3) := by decide +kernel
theorem dX1_readOne_99 : decode cX1_readOne 99 = .ok (.iload_n 1, 1) := by decide +kernel
theorem dX1_readOne_100 : decode cX1_readOne 100 = .ok (.iconst 5, 1) := by decide +kernel
theorem dX1_readOne_101 : decode cX1_readOne 101 = .ok (.if_icmp .ge 22, 3) := by decide +kernel
theorem dX1_readOne_104 : decode cX1_readOne 104 = .ok (.aload_n 0, 1) := by decide +kernel
theorem dX1_readOne_105 : decode cX1_readOne 105 = .ok (.invokevirtual 44, 3) := by decide +kernel
theorem dX1_readOne_108 : decode cX1_readOne 108 = .ok (.aload_n 0, 1) := by decide +kernel
theorem dX1_readOne_109 : decode cX1_readOne 109 = .ok (.iload_n 1, 1) := by decide +kernel
theorem dX1_readOne_110 : decode cX1_readOne 110 = .ok (.iconst 1, 1) := by decide +kernel
theorem dX1_readOne_111 : decode cX1_readOne 111 = .ok (.iadd, 1) := by decide +kernel
theorem dX1_readOne_112 : decode cX1_readOne 112 = .ok (.invokevirtual 51, 3) := by decide +kernel
theorem dX1_readOne_115 : decode cX1_readOne 115 = .ok (.aload_n 0, 1) := by decide +kernel
theorem dX1_readOne_116 : decode cX1_readOne 116 = .ok (.iconst 4, 1) := by decide +kernel
theorem dX1_readOne_117 : decode cX1_readOne 117 = .ok (.invokevirtual 47, 3) := by decide +kernel
theorem dX1_readOne_120 : decode cX1_readOne 120 = .ok (.goto 7, 3) := by decide +kernel
theorem dX1_readOne_123 : decode cX1_readOne 123 = .ok (.aload_n 0, 1) := by decide +kernel
theorem dX1_readOne_124 : decode cX1_readOne 124 = .ok (.invokevirtual 57, 3) := by decide +kernel
theorem dX1_readOne_127 : decode cX1_readOne 127 = .ok (.return_, 1) := by decide +kernel
theorem dX1_accept_0 : decode cX1_accept 0 = .ok (.aload_n 0, 1) := by decide +kernel
theorem dX1_accept_1 : decode cX1_accept 1 = .ok (.getfield 28, 3) := by decide +kernel
theorem dX1_accept_4 : decode cX1_accept 4 = .ok (.iload_n 1, 1) := by decide +kernel
theorem dX1_accept_5 : decode cX1_accept 5 = .ok (.if_icmp .ne 10, 3) := by decide +kernel
theorem dX1_accept_8 : decode cX1_accept 8 = .ok (.aload_n 0, 1) := by decide +kernel
theorem dX1_accept_9 : decode cX1_accept 9 = .ok (.invokevirtual 44, 3) := by decide +kernel
theorem dX1_accept_12 : decode cX1_accept 12 = .ok (.goto 7, 3) := by decide +kernel
theorem dX1_accept_15 : decode cX1_accept 15 = .ok (.aload_n 0, 1) := by decide +kernel
theorem dX1_accept_16 : decode cX1_accept 16 = .ok (.invokevirtual 57, 3) := by decide +kernel
theorem dX1_accept_19 : decode cX1_accept 19 = .ok (.return_, 1) := by decide +kernel
theorem dX1_fail_0 : decode cX1_fail 0 = .ok (.aload_n 0, 1) := by decide +kernel
theorem dX1_fail_1 : decode cX1_fail 1 = .ok (.getfield 40, 3) := by decide +kernel
theorem dX1_fail_4 : decode cX1_fail 4 = .ok (.iconst (-1), 1) := by decide +kernel
theorem dX1_fail_5 : decode cX1_fail 5 = .ok (.if_icmp .ne 11, 3) := by decide +kernel
theorem dX1_fail_8 : decode cX1_fail 8 = .ok (.aload_n 0, 1) := by decide +kernel
theorem dX1_fail_9 : decode cX1_fail 9 = .ok (.aload_n 0, 1) := by decide +kernel
theorem dX1_fail_10 : decode cX1_fail 10 = .ok (.getfield 31, 3) := by decide +kernel
theorem dX1_fail_13 : decode cX1_fail 13 = .ok (.putfield 40, 3) := by decide +kernel
theorem dX1_fail_16 : decode cX1_fail 16 = .ok (.aload_n 0, 1) := by decide +kernel
theorem dX1_fail_17 : decode cX1_fail 17 = .ok (.iconst 1, 1) := by decide +kernel
theorem dX1_fail_18 : decode cX1_fail 18 = .ok (.putfield 28, 3) := by decide +kernel
theorem dX1_fail_21 : decode cX1_fail 21 = .ok (.return_, 1) := by decide +kernel
theorem dX1_advance_0 : decode cX1_advance 0 = .ok (.aload_n 0, 1) := by decide +kernel
theorem dX1_advance_1 : decode cX1_advance 1 = .ok (.aload_n 0, 1) := by decide +kernel
theorem dX1_advance_2 : decode cX1_advance 2 = .ok (.getfield 34, 3) := by decide +kernel
theorem dX1_advance_5 : decode cX1_advance 5 = .ok (.putfield 31, 3) := by decide +kernel
theorem dX1_advance_8 : decode cX1_advance 8 = .ok (.aload_n 0, 1) := by decide +kernel
theorem dX1_advance_9 : decode cX1_advance 9 = .ok (.getfield 31, 3) := by decide +kernel
theorem dX1_advance_12 : decode cX1_advance 12 = .ok (.aload_n 0, 1) := by decide +kernel
theorem dX1_advance_13 : decode cX1_advance 13 = .ok (.getfield 22, 3) := by decide +kernel
theorem dX1_advance_16 : decode cX1_advance 16 = .ok (.if_icmp .ge 44, 3) := by decide +kernel
theorem dX1_advance_19 : decode cX1_advance 19 = .ok (.aload_n 0, 1) := by decide +kernel
theorem dX1_advance_20 : decode cX1_advance 20 = .ok (.getfield 9, 3) := by decide +kernel
theorem dX1_advance_23 : decode cX1_advance 23 = .ok (.aload_n 0, 1) := by decide +kernel
theorem dX1_advance_24 : decode cX1_advance 24 = .ok (.getfield 31, 3) := by decide +kernel
theorem dX1_advance_27 : decode cX1_advance 27 = .ok (.iaload, 1) := by decide +kernel
theorem dX1_advance_28 : decode cX1_advance 28 = .ok (.bipush 32, 2) := by decide +kernel
theorem dX1_advance_30 : decode cX1_advance 30 = .ok (.if_icmp .eq 17, 3) := by decide +kernel
theorem dX1_advance_33 : decode cX1_advance 33 = .ok (.aload_n 0, 1) := by decide +kernel
theorem dX1_advance_34 : decode cX1_advance 34 = .ok (.getfield 9, 3) := by decide +kernel
theorem dX1_advance_37 : decode cX1_advance 37 = .ok (.aload_n 0, 1) := by decide +kernel
theorem dX1_advance_38 : decode cX1_advance 38 = .ok (.getfield 31, 3) := by decide +kernel
theorem dX1_advance_41 : decode cX1_advance 41 = .ok (.iaload, 1) := by decide +kernel
theorem dX1_advance_42 : decode cX1_advance 42 = .ok (.bipush 10, 2) := by decide +kernel
theorem dX1_advance_44 : decode cX1_advance 44 = .ok (.if_icmp .ne 16, 3) := by decide +kernel
theorem dX1_advance_47 : decode cX1_advance 47 = .ok (.aload_n 0, 1) := by decide +kernel
theorem dX1_advance_48 : decode cX1_advance 48 = .ok (.dup, 1) := by decide +kernel
theorem dX1_advance_49 : decode cX1_advance 49 = .ok (.getfield 31, 3) := by decide +kernel
theorem dX1_advance_52 : decode cX1_advance 52 = .ok (.iconst 1, 1) := by decide +kernel
theorem dX1_advance_53 : decode cX1_advance 53 = .ok (.iadd, 1) := by decide +kernel
theorem dX1_advance_54 : decode cX1_advance 54 = .ok (.putfield 31, 3) := by decide +kernel
theorem dX1_advance_57 : decode cX1_advance 57 = .ok (.goto (-49), 3) := by decide +kernel
theorem dX1_advance_60 : decode cX1_advance 60 = .ok (.aload_n 0, 1) := by decide +kernel
theorem dX1_advance_61 : decode cX1_advance 61 = .ok (.aload_n 0, 1) := by decide +kernel
theorem dX1_advance_62 : decode cX1_advance 62 = .ok (.getfield 31, 3) := by decide +kernel
theorem dX1_advance_65 : decode cX1_advance 65 = .ok (.putfield 34, 3) := by decide +kernel
theorem dX1_advance_68 : decode cX1_advance 68 = .ok (.aload_n 0, 1) := by decide +kernel
theorem dX1_advance_69 : decode cX1_advance 69 = .ok (.getfield 31, 3) := by decide +kernel
theorem dX1_advance_72 : decode cX1_advance 72 = .ok (.aload_n 0, 1) := by decide +kernel
theorem dX1_advance_73 : decode cX1_advance 73 = .ok (.getfield 22, 3) := by decide +kernel
theorem dX1_advance_76 : decode cX1_advance 76 = .ok (.if_icmp .lt 11, 3) := by decide +kernel
theorem dX1_advance_79 : decode cX1_advance 79 = .ok (.aload_n 0, 1) := by decide +kernel
theorem dX1_advance_80 : decode cX1_advance 80 = .ok (.iconst 0, 1) := by decide +kernel
theorem dX1_advance_81 : decode cX1_advance 81 = .ok (.putfield 28, 3) := by decide +kernel
theorem dX1_advance_84 : decode cX1_advance 84 = .ok (.goto 113, 3) := by decide +kernel
theorem dX1_advance_87 : decode cX1_advance 87 = .ok (.aload_n 0, 1) := by decide +kernel
theorem dX1_advance_88 : decode cX1_advance 88 = .ok (.getfield 9, 3) := by decide +kernel
theorem dX1_advance_91 : decode cX1_advance 91 = .ok (.aload_n 0, 1) := by decide +kernel
theorem dX1_advance_92 : decode cX1_advance 92 = .ok (.getfield 31, 3) := by decide +kernel
theorem dX1_advance_95 : decode cX1_advance 95 = .ok (.iaload, 1) := by decide +kernel
theorem dX1_advance_96 : decode cX1_advance 96 = .ok (.bipush 97, 2) := by decide +kernel
theorem dX1_advance_98 : decode cX1_advance 98 = .ok (.bipush 122, 2) := by decide +kernel
theorem dX1_advance_100 : decode cX1_advance 100 = .ok (.invokestatic 82, 3) := by decide +kernel
theorem dX1_advance_103 : decode cX1_advance 103 = .ok (.ifCond .eq 26, 3) := by decide +kernel
theorem dX1_advance_106 : decode cX1_advance 106 = .ok (.aload_n 0, 1) := by decide +kernel
theorem dX1_advance_107 : decode cX1_advance 107 = .ok (.aload_n 0, 1) := by decide +kernel
theorem dX1_advance_108 : decode cX1_advance 108 = .ok (.bipush 97, 2) := by decide +kernel
theorem dX1_advance_110 : decode cX1_advance 110 = .ok (.bipush 122, 2) := by decide +kernel
theorem dX1_advance_112 : decode cX1_advance 112 = .ok (.invokevirtual 86, 3) := by decide +kernel
theorem dX1_advance_115 : decode cX1_advance 115 = .ok (.putfield 34, 3) := by decide +kernel
theorem dX1_advance_118 : decode cX1_advance 118 = .ok (.aload_n 0, 1) := by decide +kernel
theorem dX1_advance_119 : decode cX1_advance 119 = .ok (.aload_n 0, 1) := by decide +kernel
theorem dX1_advance_120 : decode cX1_advance 120 = .ok (.invokevirtual 90, 3) := by decide +kernel
theorem dX1_advance_123 : decode cX1_advance 123 = .ok (.putfield 28, 3) := by decide +kernel
theorem dX1_advance_126 : decode cX1_advance 126 = .ok (.goto 71, 3) := by decide +kernel
theorem dX1_advance_129 : decode cX1_advance 129 = .ok (.aload_n 0, 1) := by decide +kernel
theorem dX1_advance_130 : decode cX1_advance 130 = .ok (.getfield 9, 3) := by decide +kernel
theorem dX1_advance_133 : decode cX1_advance 133 = .ok (.aload_n 0, 1) := by decide +kernel
theorem dX1_advance_134 : decode cX1_advance 134 = .ok (.getfield 31, 3) := by decide +kernel
theorem dX1_advance_137 : decode cX1_advance 137 = .ok (.iaload, 1) := by decide +kernel
theorem dX1_advance_138 : decode cX1_advance 138 = .ok (.bipush 48, 2) := by decide +kernel
theorem dX1_advance_140 : decode cX1_advance 140 = .ok (.bipush 57, 2) := by decide +kernel
theorem dX1_advance_142 : decode cX1_advance 142 = .ok (.invokestatic 82, 3) := by decide +kernel
theorem dX1_advance_145 : decode cX1_advance 145 = .ok (.ifCond .eq 26, 3) := by decide +kernel
theorem dX1_advance_148 : decode cX1_advance 148 = .ok (.aload_n 0, 1) := by decide +kernel
theorem dX1_advance_149 : decode cX1_advance 149 = .ok (.aload_n 0, 1) := by decide +kernel
theorem dX1_advance_150 : decode cX1_advance 150 = .ok (.bipush 48, 2) := by decide +kernel
theorem dX1_advance_152 : decode cX1_advance 152 = .ok (.bipush 57, 2) := by decide +kernel
theorem dX1_advance_154 : decode cX1_advance 154 = .ok (.invokevirtual 86, 3) := by decide +kernel
theorem dX1_advance_157 : decode cX1_advance 157 = .ok (.putfield 34, 3) := by decide +kernel
theorem dX1_advance_160 : decode cX1_advance 160 = .ok (.aload_n 0, 1) := by decide +kernel
theorem dX1_advance_161 : decode cX1_advance 161 = .ok (.aload_n 0, 1) := by decide +kernel
theorem dX1_advance_162 : decode cX1_advance 162 = .ok (.invokevirtual 94, 3) := by decide +kernel
theorem dX1_advance_165 : decode cX1_advance 165 = .ok (.putfield 28, 3) := by decide +kernel
theorem dX1_advance_168 : decode cX1_advance 168 = .ok (.goto 29, 3) := by decide +kernel
theorem dX1_advance_171 : decode cX1_advance 171 = .ok (.aload_n 0, 1) := by decide +kernel
theorem dX1_advance_172 : decode cX1_advance 172 = .ok (.aload_n 0, 1) := by decide +kernel
theorem dX1_advance_173 : decode cX1_advance 173 = .ok (.getfield 31, 3) := by decide +kernel
theorem dX1_advance_176 : decode cX1_advance 176 = .ok (.iconst 1, 1) := by decide +kernel
theorem dX1_advance_177 : decode cX1_advance 177 = .ok (.iadd, 1) := by decide +kernel
theorem dX1_advance_178 : decode cX1_advance 178 = .ok (.putfield 34, 3) := by decide +kernel
theorem dX1_advance_181 : decode cX1_advance 181 = .ok (.aload_n 0, 1) := by decide +kernel
theorem dX1_advance_182 : decode cX1_advance 182 = .ok (.aload_n 0, 1) := by decide +kernel
theorem dX1_advance_183 : decode cX1_advance 183 = .ok (.getfield 9, 3) := by decide +kernel
theorem dX1_advance_186 : decode cX1_advance 186 = .ok (.aload_n 0, 1) := by decide +kernel
theorem dX1_advance_187 : decode cX1_advance 187 = .ok (.getfield 31, 3) := by decide +kernel
theorem dX1_advance_190 : decode cX1_advance 190 = .ok (.iaload, 1) := by decide +kernel
theorem dX1_advance_191 : decode cX1_advance 191 = .ok (.invokestatic 97, 3) := by decide +kernel
theorem dX1_advance_194 : decode cX1_advance 194 = .ok (.putfield 28, 3) := by decide +kernel
theorem dX1_advance_197 : decode cX1_advance 197 = .ok (.return_, 1) := by decide +kernel
theorem dX1_endOfRun_0 : decode cX1_endOfRun 0 = .ok (.aload_n 0, 1) := by decide +kernel
theorem dX1_endOfRun_1 : decode cX1_endOfRun 1 = .ok (.getfield 31, 3) := by decide +kernel
theorem dX1_endOfRun_4 : decode cX1_endOfRun 4 = .ok (.istore_n 3, 1) := by decide +kernel
theorem dX1_endOfRun_5 : decode cX1_endOfRun 5 = .ok (.iload_n 3, 1) := by decide +kernel
theorem dX1_endOfRun_6 : decode cX1_endOfRun 6 = .ok (.aload_n 0, 1) := by decide +kernel
theorem dX1_endOfRun_7 : decode cX1_endOfRun 7 = .ok (.getfield 22, 3) := by decide +kernel
theorem dX1_endOfRun_10 : decode cX1_endOfRun 10 = .ok (.if_icmp .ge 23, 3) := by decide +kernel
theorem dX1_endOfRun_13 : decode cX1_endOfRun 13 = .ok (.aload_n 0, 1) := by decide +kernel
theorem dX1_endOfRun_14 : decode cX1_endOfRun 14 = .ok (.getfield 9, 3) := by decide +kernel
theorem dX1_endOfRun_17 : decode cX1_endOfRun 17 = .ok (.iload_n 3, 1) := by decide +kernel
theorem dX1_endOfRun_18 : decode cX1_endOfRun 18 = .ok (.iaload, 1) := by decide +kernel
theorem dX1_endOfRun_19 : decode cX1_endOfRun 19 = .ok (.iload_n 1, 1) := by decide +kernel
theorem dX1_endOfRun_20 : decode cX1_endOfRun 20 = .ok (.iload_n 2, 1) := by decide +kernel
theorem dX1_endOfRun_21 : decode cX1_endOfRun 21 = .ok (.invokestatic 82, 3) := by decide +kernel
theorem dX1_endOfRun_24 : decode cX1_endOfRun 24 = .ok (.ifCond .eq 9, 3) := by decide +kernel
theorem dX1_endOfRun_27 : decode cX1_endOfRun 27 = .ok (.iinc 3 1, 3) := by decide +kernel
theorem dX1_endOfRun_30 : decode cX1_endOfRun 30 = .ok (.goto (-25), 3) := by decide +kernel
theorem dX1_endOfRun_33 : decode cX1_endOfRun 33 = .ok (.iload_n 3, 1) := by decide +kernel
theorem dX1_endOfRun_34 : decode cX1_endOfRun 34 = .ok (.ireturn, 1) := by decide +kernel
theorem dX1_numberToken_0 : decode cX1_numberToken 0 = .ok (.aload_n 0, 1) := by decide +kernel
theorem dX1_numberToken_1 : decode cX1_numberToken 1 = .ok (.getfield 34, 3) := by decide +kernel
theorem dX1_numberToken_4 : decode cX1_numberToken 4 = .ok (.aload_n 0, 1) := by decide +kernel
theorem dX1_numberToken_5 : decode cX1_numberToken 5 = .ok (.getfield 31, 3) := by decide +kernel
theorem dX1_numberToken_8 : decode cX1_numberToken 8 = .ok (.isub, 1) := by decide +kernel
theorem dX1_numberToken_9 : decode cX1_numberToken 9 = .ok (.iconst 4, 1) := by decide +kernel
theorem dX1_numberToken_10 : decode cX1_numberToken 10 = .ok (.if_icmp .le 5, 3) := by decide +kernel
theorem dX1_numberToken_13 : decode cX1_numberToken 13 = .ok (.iconst 1, 1) := by decide +kernel
theorem dX1_numberToken_14 : decode cX1_numberToken 14 = .ok (.ireturn, 1) := by decide +kernel
theorem dX1_numberToken_15 : decode cX1_numberToken 15 = .ok (.aload_n 0, 1) := by decide +kernel
theorem dX1_numberToken_16 : decode cX1_numberToken 16 = .ok (.iconst 0, 1) := by decide +kernel
theorem dX1_numberToken_17 : decode cX1_numberToken 17 = .ok (.putfield 37, 3) := by decide +kernel
theorem dX1_numberToken_20 : decode cX1_numberToken 20 = .ok (.aload_n 0, 1) := by decide +kernel
theorem dX1_numberToken_21 : decode cX1_numberToken 21 = .ok (.getfield 31, 3) := by decide +kernel
theorem dX1_numberToken_24 : decode cX1_numberToken 24 = .ok (.istore_n 1, 1) := by decide +kernel
theorem dX1_numberToken_25 : decode cX1_numberToken 25 = .ok (.iload_n 1, 1) := by decide +kernel
theorem dX1_numberToken_26 : decode cX1_numberToken 26 = .ok (.aload_n 0, 1) := by decide +kernel
theorem dX1_numberToken_27 : decode cX1_numberToken 27 = .ok (.getfield 34, 3) := by decide +kernel
theorem dX1_numberToken_30 : decode cX1_numberToken 30 = .ok (.if_icmp .ge 30, 3) := by decide +kernel
theorem dX1_numberToken_33 : decode cX1_numberToken 33 = .ok (.aload_n 0, 1) := by decide +kernel
theorem dX1_numberToken_34 : decode cX1_numberToken 34 = .ok (.aload_n 0, 1) := by decide +kernel
theorem dX1_numberToken_35 : decode cX1_numberToken 35 = .ok (.getfield 37, 3) := by decide +kernel
theorem dX1_numberToken_38 : decode cX1_numberToken 38 = .ok (.bipush 10, 2) := by decide +kernel
theorem dX1_numberToken_40 : decode cX1_numberToken 40 = .ok (.imul, 1) := by decide +kernel
theorem dX1_numberToken_41 : decode cX1_numberToken 41 = .ok (.aload_n 0, 1) := by decide +kernel
theorem dX1_numberToken_42 : decode cX1_numberToken 42 = .ok (.getfield 9, 3) := by decide +kernel
theorem dX1_numberToken_45 : decode cX1_numberToken 45 = .ok (.iload_n 1, 1) := by decide +kernel
theorem dX1_numberToken_46 : decode cX1_numberToken 46 = .ok (.iaload, 1) := by decide +kernel
theorem dX1_numberToken_47 : decode cX1_numberToken 47 = .ok (.iadd, 1) := by decide +kernel
theorem dX1_numberToken_48 : decode cX1_numberToken 48 = .ok (.bipush 48, 2) := by decide +kernel
theorem dX1_numberToken_50 : decode cX1_numberToken 50 = .ok (.isub, 1) := by decide +kernel
theorem dX1_numberToken_51 : decode cX1_numberToken 51 = .ok (.putfield 37, 3) := by decide +kernel
theorem dX1_numberToken_54 : decode cX1_numberToken 54 = .ok (.iinc 1 1, 3) := by decide +kernel
theorem dX1_numberToken_57 : decode cX1_numberToken 57 = .ok (.goto (-32), 3) := by decide +kernel
theorem dX1_numberToken_60 : decode cX1_numberToken 60 = .ok (.iconst 2, 1) := by decide +kernel
theorem dX1_numberToken_61 : decode cX1_numberToken 61 = .ok (.ireturn, 1) := by decide +kernel
theorem dX1_wordToken_0 : decode cX1_wordToken 0 = .ok (.aload_n 0, 1) := by decide +kernel
theorem dX1_wordToken_1 : decode cX1_wordToken 1 = .ok (.ldc 101, 2) := by decide +kernel
theorem dX1_wordToken_3 : decode cX1_wordToken 3 = .ok (.invokevirtual 103, 3) := by decide +kernel
theorem dX1_wordToken_6 : decode cX1_wordToken 6 = .ok (.ifCond .eq 6, 3) := by decide +kernel
theorem dX1_wordToken_9 : decode cX1_wordToken 9 = .ok (.bipush 6, 2) := by decide +kernel
theorem dX1_wordToken_11 : decode cX1_wordToken 11 = .ok (.ireturn, 1) := by decide +kernel
theorem dX1_wordToken_12 : decode cX1_wordToken 12 = .ok (.aload_n 0, 1) := by decide +kernel
theorem dX1_wordToken_13 : decode cX1_wordToken 13 = .ok (.ldc 107, 2) := by decide +kernel
theorem dX1_wordToken_15 : decode cX1_wordToken 15 = .ok (.invokevirtual 103, 3) := by decide +kernel
theorem dX1_wordToken_18 : decode cX1_wordToken 18 = .ok (.ifCond .eq 6, 3) := by decide +kernel
theorem dX1_wordToken_21 : decode cX1_wordToken 21 = .ok (.bipush 7, 2) := by decide +kernel
theorem dX1_wordToken_23 : decode cX1_wordToken 23 = .ok (.ireturn, 1) := by decide +kernel
theorem dX1_wordToken_24 : decode cX1_wordToken 24 = .ok (.aload_n 0, 1) := by decide +kernel
theorem dX1_wordToken_25 : decode cX1_wordToken 25 = .ok (.ldc 109, 2) := by decide +kernel
theorem dX1_wordToken_27 : decode cX1_wordToken 27 = .ok (.invokevirtual 103, 3) := by decide +kernel
theorem dX1_wordToken_30 : decode cX1_wordToken 30 = .ok (.ifCond .eq 6, 3) := by decide +kernel
theorem dX1_wordToken_33 : decode cX1_wordToken 33 = .ok (.bipush 8, 2) := by decide +kernel
theorem dX1_wordToken_35 : decode cX1_wordToken 35 = .ok (.ireturn, 1) := by decide +kernel
theorem dX1_wordToken_36 : decode cX1_wordToken 36 = .ok (.aload_n 0, 1) := by decide +kernel
theorem dX1_wordToken_37 : decode cX1_wordToken 37 = .ok (.ldc 111, 2) := by decide +kernel
theorem dX1_wordToken_39 : decode cX1_wordToken 39 = .ok (.invokevirtual 103, 3) := by decide +kernel
theorem dX1_wordToken_42 : decode cX1_wordToken 42 = .ok (.ifCond .eq 6, 3) := by decide +kernel
theorem dX1_wordToken_45 : decode cX1_wordToken 45 = .ok (.bipush (-7), 2) := by decide +kernel
theorem dX1_wordToken_47 : decode cX1_wordToken 47 = .ok (.ireturn, 1) := by decide +kernel
theorem dX1_wordToken_48 : decode cX1_wordToken 48 = .ok (.aload_n 0, 1) := by decide +kernel
theorem dX1_wordToken_49 : decode cX1_wordToken 49 = .ok (.ldc 113, 2) := by decide +kernel
theorem dX1_wordToken_51 : decode cX1_wordToken 51 = .ok (.invokevirtual 103, 3) := by decide +kernel
theorem dX1_wordToken_54 : decode cX1_wordToken 54 = .ok (.ifCond .eq 6, 3) := by decide +kernel
theorem dX1_wordToken_57 : decode cX1_wordToken 57 = .ok (.bipush (-8), 2) := by decide +kernel
theorem dX1_wordToken_59 : decode cX1_wordToken 59 = .ok (.ireturn, 1) := by decide +kernel
theorem dX1_wordToken_60 : decode cX1_wordToken 60 = .ok (.aload_n 0, 1) := by decide +kernel
theorem dX1_wordToken_61 : decode cX1_wordToken 61 = .ok (.ldc 115, 2) := by decide +kernel
theorem dX1_wordToken_63 : decode cX1_wordToken 63 = .ok (.invokevirtual 103, 3) := by decide +kernel
theorem dX1_wordToken_66 : decode cX1_wordToken 66 = .ok (.ifCond .eq 6, 3) := by decide +kernel
theorem dX1_wordToken_69 : decode cX1_wordToken 69 = .ok (.bipush (-9), 2) := by decide +kernel
theorem dX1_wordToken_71 : decode cX1_wordToken 71 = .ok (.ireturn, 1) := by decide +kernel
theorem dX1_wordToken_72 : decode cX1_wordToken 72 = .ok (.aload_n 0, 1) := by decide +kernel
theorem dX1_wordToken_73 : decode cX1_wordToken 73 = .ok (.ldc 117, 2) := by decide +kernel
theorem dX1_wordToken_75 : decode cX1_wordToken 75 = .ok (.invokevirtual 103, 3) := by decide +kernel
theorem dX1_wordToken_78 : decode cX1_wordToken 78 = .ok (.ifCond .eq 5, 3) := by decide +kernel
theorem dX1_wordToken_81 : decode cX1_wordToken 81 = .ok (.iconst (-1), 1) := by decide +kernel
theorem dX1_wordToken_82 : decode cX1_wordToken 82 = .ok (.ireturn, 1) := by decide +kernel
theorem dX1_wordToken_83 : decode cX1_wordToken 83 = .ok (.aload_n 0, 1) := by decide +kernel
theorem dX1_wordToken_84 : decode cX1_wordToken 84 = .ok (.ldc 119, 2) := by decide +kernel
theorem dX1_wordToken_86 : decode cX1_wordToken 86 = .ok (.invokevirtual 103, 3) := by decide +kernel
theorem dX1_wordToken_89 : decode cX1_wordToken 89 = .ok (.ifCond .eq 6, 3) := by decide +kernel
theorem dX1_wordToken_92 : decode cX1_wordToken 92 = .ok (.bipush (-2), 2) := by decide +kernel
theorem dX1_wordToken_94 : decode cX1_wordToken 94 = .ok (.ireturn, 1) := by decide +kernel
theorem dX1_wordToken_95 : decode cX1_wordToken 95 = .ok (.aload_n 0, 1) := by decide +kernel
theorem dX1_wordToken_96 : decode cX1_wordToken 96 = .ok (.ldc 121, 2) := by decide +kernel
theorem dX1_wordToken_98 : decode cX1_wordToken 98 = .ok (.invokevirtual 103, 3) := by decide +kernel
theorem dX1_wordToken_101 : decode cX1_wordToken 101 = .ok (.ifCond .eq 6, 3) := by decide +kernel
theorem dX1_wordToken_104 : decode cX1_wordToken 104 = .ok (.bipush (-3), 2) := by decide +kernel
theorem dX1_wordToken_106 : decode cX1_wordToken 106 = .ok (.ireturn, 1) := by decide +kernel
theorem dX1_wordToken_107 : decode cX1_wordToken 107 = .ok (.aload_n 0, 1) := by decide +kernel
theorem dX1_wordToken_108 : decode cX1_wordToken 108 = .ok (.ldc 123, 2) := by decide +kernel
theorem dX1_wordToken_110 : decode cX1_wordToken 110 = .ok (.invokevirtual 103, 3) := by decide +kernel
theorem dX1_wordToken_113 : decode cX1_wordToken 113 = .ok (.ifCond .eq 6, 3) := by decide +kernel
theorem dX1_wordToken_116 : decode cX1_wordToken 116 = .ok (.bipush (-4), 2) := by decide +kernel
theorem dX1_wordToken_118 : decode cX1_wordToken 118 = .ok (.ireturn, 1) := by decide +kernel
theorem dX1_wordToken_119 : decode cX1_wordToken 119 = .ok (.aload_n 0, 1) := by decide +kernel
theorem dX1_wordToken_120 : decode cX1_wordToken 120 = .ok (.ldc 125, 2) := by decide +kernel
theorem dX1_wordToken_122 : decode cX1_wordToken 122 = .ok (.invokevirtual 103, 3) := by decide +kernel
theorem dX1_wordToken_125 : decode cX1_wordToken 125 = .ok (.ifCond .eq 6, 3) := by decide +kernel
theorem dX1_wordToken_128 : decode cX1_wordToken 128 = .ok (.bipush (-5), 2) := by decide +kernel
theorem dX1_wordToken_130 : decode cX1_wordToken 130 = .ok (.ireturn, 1) := by decide +kernel
theorem dX1_wordToken_131 : decode cX1_wordToken 131 = .ok (.aload_n 0, 1) := by decide +kernel
theorem dX1_wordToken_132 : decode cX1_wordToken 132 = .ok (.ldc 127, 2) := by decide +kernel
theorem dX1_wordToken_134 : decode cX1_wordToken 134 = .ok (.invokevirtual 103, 3) := by decide +kernel
theorem dX1_wordToken_137 : decode cX1_wordToken 137 = .ok (.ifCond .eq 8, 3) := by decide +kernel
theorem dX1_wordToken_140 : decode cX1_wordToken 140 = .ok (.bipush (-6), 2) := by decide +kernel
theorem dX1_wordToken_142 : decode cX1_wordToken 142 = .ok (.goto 4, 3) := by decide +kernel
theorem dX1_wordToken_145 : decode cX1_wordToken 145 = .ok (.iconst 1, 1) := by decide +kernel
theorem dX1_wordToken_146 : decode cX1_wordToken 146 = .ok (.ireturn, 1) := by decide +kernel
theorem dX1_spells_0 : decode cX1_spells 0 = .ok (.aload_n 0, 1) := by decide +kernel
theorem dX1_spells_1 : decode cX1_spells 1 = .ok (.getfield 34, 3) := by decide +kernel
theorem dX1_spells_4 : decode cX1_spells 4 = .ok (.aload_n 0, 1) := by decide +kernel
theorem dX1_spells_5 : decode cX1_spells 5 = .ok (.getfield 31, 3) := by decide +kernel
theorem dX1_spells_8 : decode cX1_spells 8 = .ok (.isub, 1) := by decide +kernel
theorem dX1_spells_9 : decode cX1_spells 9 = .ok (.aload_n 1, 1) := by decide +kernel
theorem dX1_spells_10 : decode cX1_spells 10 = .ok (.invokevirtual 129, 3) := by decide +kernel
theorem dX1_spells_13 : decode cX1_spells 13 = .ok (.if_icmp .eq 5, 3) := by decide +kernel
theorem dX1_spells_16 : decode cX1_spells 16 = .ok (.iconst 0, 1) := by decide +kernel
theorem dX1_spells_17 : decode cX1_spells 17 = .ok (.ireturn, 1) := by decide +kernel
theorem dX1_spells_18 : decode cX1_spells 18 = .ok (.iconst 0, 1) := by decide +kernel
theorem dX1_spells_19 : decode cX1_spells 19 = .ok (.istore_n 2, 1) := by decide +kernel
theorem dX1_spells_20 : decode cX1_spells 20 = .ok (.iload_n 2, 1) := by decide +kernel
theorem dX1_spells_21 : decode cX1_spells 21 = .ok (.aload_n 1, 1) := by decide +kernel
theorem dX1_spells_22 : decode cX1_spells 22 = .ok (.invokevirtual 129, 3) := by decide +kernel
theorem dX1_spells_25 : decode cX1_spells 25 = .ok (.if_icmp .ge 30, 3) := by decide +kernel
theorem dX1_spells_28 : decode cX1_spells 28 = .ok (.aload_n 0, 1) := by decide +kernel
theorem dX1_spells_29 : decode cX1_spells 29 = .ok (.getfield 9, 3) := by decide +kernel
theorem dX1_spells_32 : decode cX1_spells 32 = .ok (.aload_n 0, 1) := by decide +kernel
theorem dX1_spells_33 : decode cX1_spells 33 = .ok (.getfield 31, 3) := by decide +kernel
theorem dX1_spells_36 : decode cX1_spells 36 = .ok (.iload_n 2, 1) := by decide +kernel
theorem dX1_spells_37 : decode cX1_spells 37 = .ok (.iadd, 1) := by decide +kernel
theorem dX1_spells_38 : decode cX1_spells 38 = .ok (.iaload, 1) := by decide +kernel
theorem dX1_spells_39 : decode cX1_spells 39 = .ok (.aload_n 1, 1) := by decide +kernel
theorem dX1_spells_40 : decode cX1_spells 40 = .ok (.iload_n 2, 1) := by decide +kernel
theorem dX1_spells_41 : decode cX1_spells 41 = .ok (.invokevirtual 134, 3) := by decide +kernel
theorem dX1_spells_44 : decode cX1_spells 44 = .ok (.if_icmp .eq 5, 3) := by decide +kernel
theorem dX1_spells_47 : decode cX1_spells 47 = .ok (.iconst 0, 1) := by decide +kernel
theorem dX1_spells_48 : decode cX1_spells 48 = .ok (.ireturn, 1) := by decide +kernel
theorem dX1_spells_49 : decode cX1_spells 49 = .ok (.iinc 2 1, 3) := by decide +kernel
theorem dX1_spells_52 : decode cX1_spells 52 = .ok (.goto (-32), 3) := by decide +kernel
theorem dX1_spells_55 : decode cX1_spells 55 = .ok (.iconst 1, 1) := by decide +kernel
theorem dX1_spells_56 : decode cX1_spells 56 = .ok (.ireturn, 1) := by decide +kernel
theorem dX2_init_0 : decode cX2_init 0 = .ok (.aload_n 0, 1) := by decide +kernel
theorem dX2_init_1 : decode cX2_init 1 = .ok (.invokespecial 3, 3) := by decide +kernel
theorem dX2_init_4 : decode cX2_init 4 = .ok (.aload_n 0, 1) := by decide +kernel
theorem dX2_init_5 : decode cX2_init 5 = .ok (.sipush 160, 3) := by decide +kernel
theorem dX2_init_8 : decode cX2_init 8 = .ok (.newarray .int, 2) := by decide +kernel
theorem dX2_init_10 : decode cX2_init 10 = .ok (.putfield 9, 3) := by decide +kernel
theorem dX2_init_13 : decode cX2_init 13 = .ok (.aload_n 0, 1) := by decide +kernel
theorem dX2_init_14 : decode cX2_init 14 = .ok (.iconst 3, 1) := by decide +kernel
theorem dX2_init_15 : decode cX2_init 15 = .ok (.newarray .int, 2) := by decide +kernel
theorem dX2_init_17 : decode cX2_init 17 = .ok (.putfield 15, 3) := by decide +kernel
theorem dX2_init_20 : decode cX2_init 20 = .ok (.aload_n 0, 1) := by decide +kernel
theorem dX2_init_21 : decode cX2_init 21 = .ok (.iconst 0, 1) := by decide +kernel
theorem dX2_init_22 : decode cX2_init 22 = .ok (.putfield 18, 3) := by decide +kernel
theorem dX2_init_25 : decode cX2_init 25 = .ok (.return_, 1) := by decide +kernel
theorem dX2_append_0 : decode cX2_append 0 = .ok (.aload_n 0, 1) := by decide +kernel
theorem dX2_append_1 : decode cX2_append 1 = .ok (.getfield 18, 3) := by decide +kernel
theorem dX2_append_4 : decode cX2_append 4 = .ok (.sipush 160, 3) := by decide +kernel
theorem dX2_append_7 : decode cX2_append 7 = .ok (.if_icmp .ge 23, 3) := by decide +kernel
theorem dX2_append_10 : decode cX2_append 10 = .ok (.aload_n 0, 1) := by decide +kernel
theorem dX2_append_11 : decode cX2_append 11 = .ok (.getfield 9, 3) := by decide +kernel
theorem dX2_append_14 : decode cX2_append 14 = .ok (.aload_n 0, 1) := by decide +kernel
theorem dX2_append_15 : decode cX2_append 15 = .ok (.getfield 18, 3) := by decide +kernel
theorem dX2_append_18 : decode cX2_append 18 = .ok (.iload_n 1, 1) := by decide +kernel
theorem dX2_append_19 : decode cX2_append 19 = .ok (.iastore, 1) := by decide +kernel
theorem dX2_append_20 : decode cX2_append 20 = .ok (.aload_n 0, 1) := by decide +kernel
theorem dX2_append_21 : decode cX2_append 21 = .ok (.dup, 1) := by decide +kernel
theorem dX2_append_22 : decode cX2_append 22 = .ok (.getfield 18, 3) := by decide +kernel
theorem dX2_append_25 : decode cX2_append 25 = .ok (.iconst 1, 1) := by decide +kernel
theorem dX2_append_26 : decode cX2_append 26 = .ok (.iadd, 1) := by decide +kernel
theorem dX2_append_27 : decode cX2_append 27 = .ok (.putfield 18, 3) := by decide +kernel
theorem dX2_append_30 : decode cX2_append 30 = .ok (.return_, 1) := by decide +kernel
theorem dX2_endPart_0 : decode cX2_endPart 0 = .ok (.iload_n 1, 1) := by decide +kernel
theorem dX2_endPart_1 : decode cX2_endPart 1 = .ok (.iconst 0, 1) := by decide +kernel
theorem dX2_endPart_2 : decode cX2_endPart 2 = .ok (.iconst 2, 1) := by decide +kernel
theorem dX2_endPart_3 : decode cX2_endPart 3 = .ok (.invokestatic 22, 3) := by decide +kernel
theorem dX2_endPart_6 : decode cX2_endPart 6 = .ok (.ifCond .eq 13, 3) := by decide +kernel
theorem dX2_endPart_9 : decode cX2_endPart 9 = .ok (.aload_n 0, 1) := by decide +kernel
theorem dX2_endPart_10 : decode cX2_endPart 10 = .ok (.getfield 15, 3) := by decide +kernel
theorem dX2_endPart_13 : decode cX2_endPart 13 = .ok (.iload_n 1, 1) := by decide +kernel
theorem dX2_endPart_14 : decode cX2_endPart 14 = .ok (.aload_n 0, 1) := by decide +kernel
theorem dX2_endPart_15 : decode cX2_endPart 15 = .ok (.getfield 18, 3) := by decide +kernel
theorem dX2_endPart_18 : decode cX2_endPart 18 = .ok (.iastore, 1) := by decide +kernel
theorem dX2_endPart_19 : decode cX2_endPart 19 = .ok (.return_, 1) := by decide +kernel
theorem dX2_becomeLike_0 : decode cX2_becomeLike 0 = .ok (.aload_n 1, 1) := by decide +kernel
theorem dX2_becomeLike_1 : decode cX2_becomeLike 1 = .ok (.getfield 9, 3) := by decide +kernel
theorem dX2_becomeLike_4 : decode cX2_becomeLike 4 = .ok (.iconst 0, 1) := by decide +kernel
theorem dX2_becomeLike_5 : decode cX2_becomeLike 5 = .ok (.aload_n 0, 1) := by decide +kernel
theorem dX2_becomeLike_6 : decode cX2_becomeLike 6 = .ok (.getfield 9, 3) := by decide +kernel
theorem dX2_becomeLike_9 : decode cX2_becomeLike 9 = .ok (.iconst 0, 1) := by decide +kernel
theorem dX2_becomeLike_10 : decode cX2_becomeLike 10 = .ok (.sipush 160, 3) := by decide +kernel
theorem dX2_becomeLike_13 : decode cX2_becomeLike 13 = .ok (.invokestatic 26, 3) := by decide +kernel
theorem dX2_becomeLike_16 : decode cX2_becomeLike 16 = .ok (.aload_n 1, 1) := by decide +kernel
theorem dX2_becomeLike_17 : decode cX2_becomeLike 17 = .ok (.getfield 15, 3) := by decide +kernel
theorem dX2_becomeLike_20 : decode cX2_becomeLike 20 = .ok (.iconst 0, 1) := by decide +kernel
theorem dX2_becomeLike_21 : decode cX2_becomeLike 21 = .ok (.aload_n 0, 1) := by decide +kernel
theorem dX2_becomeLike_22 : decode cX2_becomeLike 22 = .ok (.getfield 15, 3) := by decide +kernel
theorem dX2_becomeLike_25 : decode cX2_becomeLike 25 = .ok (.iconst 0, 1) := by decide +kernel
theorem dX2_becomeLike_26 : decode cX2_becomeLike 26 = .ok (.iconst 3, 1) := by decide +kernel
theorem dX2_becomeLike_27 : decode cX2_becomeLike 27 = .ok (.invokestatic 26, 3) := by decide +kernel
theorem dX2_becomeLike_30 : decode cX2_becomeLike 30 = .ok (.aload_n 0, 1) := by decide +kernel
theorem dX2_becomeLike_31 : decode cX2_becomeLike 31 = .ok (.aload_n 1, 1) := by decide +kernel
theorem dX2_becomeLike_32 : decode cX2_becomeLike 32 = .ok (.getfield 18, 3) := by decide +kernel
theorem dX2_becomeLike_35 : decode cX2_becomeLike 35 = .ok (.putfield 18, 3) := by decide +kernel
theorem dX2_becomeLike_38 : decode cX2_becomeLike 38 = .ok (.return_, 1) := by decide +kernel
theorem dX2_value_0 : decode cX2_value 0 = .ok (.iload_n 1, 1) := by decide +kernel
theorem dX2_value_1 : decode cX2_value 1 = .ok (.iconst 0, 1) := by decide +kernel
theorem dX2_value_2 : decode cX2_value 2 = .ok (.iconst 2, 1) := by decide +kernel
theorem dX2_value_3 : decode cX2_value 3 = .ok (.invokestatic 22, 3) := by decide +kernel
theorem dX2_value_6 : decode cX2_value 6 = .ok (.ifCond .ne 5, 3) := by decide +kernel
theorem dX2_value_9 : decode cX2_value 9 = .ok (.iconst 0, 1) := by decide +kernel
theorem dX2_value_10 : decode cX2_value 10 = .ok (.ireturn, 1) := by decide +kernel
theorem dX2_value_11 : decode cX2_value 11 = .ok (.iconst 0, 1) := by decide +kernel
theorem dX2_value_12 : decode cX2_value 12 = .ok (.istore 4, 2) := by decide +kernel
theorem dX2_value_14 : decode cX2_value 14 = .ok (.iload_n 1, 1) := by decide +kernel
theorem dX2_value_15 : decode cX2_value 15 = .ok (.ifCond .ne 7, 3) := by decide +kernel
theorem dX2_value_18 : decode cX2_value 18 = .ok (.iconst 0, 1) := by decide +kernel
theorem dX2_value_19 : decode cX2_value 19 = .ok (.goto 11, 3) := by decide +kernel
theorem dX2_value_22 : decode cX2_value 22 = .ok (.aload_n 0, 1) := by decide +kernel
theorem dX2_value_23 : decode cX2_value 23 = .ok (.getfield 15, 3) := by decide +kernel
theorem dX2_value_26 : decode cX2_value 26 = .ok (.iload_n 1, 1) := by decide +kernel
theorem dX2_value_27 : decode cX2_value 27 = .ok (.iconst 1, 1) := by decide +kernel
theorem dX2_value_28 : decode cX2_value 28 = .ok (.isub, 1) := by decide +kernel
theorem dX2_value_29 : decode cX2_value 29 = .ok (.iaload, 1) := by decide +kernel
theorem dX2_value_30 : decode cX2_value 30 = .ok (.istore 5, 2) := by decide +kernel
theorem dX2_value_32 : decode cX2_value 32 = .ok (.iload 5, 2) := by decide +kernel
theorem dX2_value_34 : decode cX2_value 34 = .ok (.aload_n 0, 1) := by decide +kernel
theorem dX2_value_35 : decode cX2_value 35 = .ok (.getfield 15, 3) := by decide +kernel
theorem dX2_value_38 : decode cX2_value 38 = .ok (.iload_n 1, 1) := by decide +kernel
theorem dX2_value_39 : decode cX2_value 39 = .ok (.iaload, 1) := by decide +kernel
theorem dX2_value_40 : decode cX2_value 40 = .ok (.if_icmp .ge 137, 3) := by decide +kernel
theorem dX2_value_43 : decode cX2_value 43 = .ok (.aload_n 0, 1) := by decide +kernel
theorem dX2_value_44 : decode cX2_value 44 = .ok (.getfield 9, 3) := by decide +kernel
theorem dX2_value_47 : decode cX2_value 47 = .ok (.iload 5, 2) := by decide +kernel
theorem dX2_value_49 : decode cX2_value 49 = .ok (.iaload, 1) := by decide +kernel
theorem dX2_value_50 : decode cX2_value 50 = .ok (.istore 6, 2) := by decide +kernel
theorem dX2_value_52 : decode cX2_value 52 = .ok (.iload 6, 2) := by decide +kernel
theorem dX2_value_54 : decode cX2_value 54 = .ok (.ifCond .ge 11, 3) := by decide +kernel
theorem dX2_value_57 : decode cX2_value 57 = .ok (.iload 6, 2) := by decide +kernel
theorem dX2_value_59 : decode cX2_value 59 = .ok (.invokestatic 32, 3) := by decide +kernel
theorem dX2_value_62 : decode cX2_value 62 = .ok (.ifCond .eq 37, 3) := by decide +kernel
theorem dX2_value_65 : decode cX2_value 65 = .ok (.iload 4, 2) := by decide +kernel
theorem dX2_value_67 : decode cX2_value 67 = .ok (.aload_n 3, 1) := by decide +kernel
theorem dX2_value_68 : decode cX2_value 68 = .ok (.arraylength, 1) := by decide +kernel
theorem dX2_value_69 : decode cX2_value 69 = .ok (.if_icmp .ge 102, 3) := by decide +kernel
theorem dX2_value_72 : decode cX2_value 72 = .ok (.aload_n 3, 1) := by decide +kernel
theorem dX2_value_73 : decode cX2_value 73 = .ok (.iload 4, 2) := by decide +kernel
theorem dX2_value_75 : decode cX2_value 75 = .ok (.iload 6, 2) := by decide +kernel
theorem dX2_value_77 : decode cX2_value 77 = .ok (.ifCond .lt 8, 3) := by decide +kernel
theorem dX2_value_80 : decode cX2_value 80 = .ok (.iload 6, 2) := by decide +kernel
theorem dX2_value_82 : decode cX2_value 82 = .ok (.goto 10, 3) := by decide +kernel
theorem dX2_value_85 : decode cX2_value 85 = .ok (.aload_n 2, 1) := by decide +kernel
theorem dX2_value_86 : decode cX2_value 86 = .ok (.iload 6, 2) := by decide +kernel
theorem dX2_value_88 : decode cX2_value 88 = .ok (.invokestatic 38, 3) := by decide +kernel
theorem dX2_value_91 : decode cX2_value 91 = .ok (.iaload, 1) := by decide +kernel
theorem dX2_value_92 : decode cX2_value 92 = .ok (.iastore, 1) := by decide +kernel
theorem dX2_value_93 : decode cX2_value 93 = .ok (.iinc 4 1, 3) := by decide +kernel
theorem dX2_value_96 : decode cX2_value 96 = .ok (.goto 75, 3) := by decide +kernel
theorem dX2_value_99 : decode cX2_value 99 = .ok (.iload 6, 2) := by decide +kernel
theorem dX2_value_101 : decode cX2_value 101 = .ok (.bipush (-9), 2) := by decide +kernel
theorem dX2_value_103 : decode cX2_value 103 = .ok (.if_icmp .eq 10, 3) := by decide +kernel
theorem dX2_value_106 : decode cX2_value 106 = .ok (.iload 6, 2) := by decide +kernel
theorem dX2_value_108 : decode cX2_value 108 = .ok (.bipush (-15), 2) := by decide +kernel
theorem dX2_value_110 : decode cX2_value 110 = .ok (.if_icmp .ne 29, 3) := by decide +kernel
theorem dX2_value_113 : decode cX2_value 113 = .ok (.iload 4, 2) := by decide +kernel
theorem dX2_value_115 : decode cX2_value 115 = .ok (.iconst 1, 1) := by decide +kernel
theorem dX2_value_116 : decode cX2_value 116 = .ok (.if_icmp .lt 55, 3) := by decide +kernel
theorem dX2_value_119 : decode cX2_value 119 = .ok (.aload_n 3, 1) := by decide +kernel
theorem dX2_value_120 : decode cX2_value 120 = .ok (.iload 4, 2) := by decide +kernel
theorem dX2_value_122 : decode cX2_value 122 = .ok (.iconst 1, 1) := by decide +kernel
theorem dX2_value_123 : decode cX2_value 123 = .ok (.isub, 1) := by decide +kernel
theorem dX2_value_124 : decode cX2_value 124 = .ok (.iload 6, 2) := by decide +kernel
theorem dX2_value_126 : decode cX2_value 126 = .ok (.aload_n 3, 1) := by decide +kernel
theorem dX2_value_127 : decode cX2_value 127 = .ok (.iload 4, 2) := by decide +kernel
theorem dX2_value_129 : decode cX2_value 129 = .ok (.iconst 1, 1) := by decide +kernel
theorem dX2_value_130 : decode cX2_value 130 = .ok (.isub, 1) := by decide +kernel
theorem dX2_value_131 : decode cX2_value 131 = .ok (.iaload, 1) := by decide +kernel
theorem dX2_value_132 : decode cX2_value 132 = .ok (.invokestatic 42, 3) := by decide +kernel
theorem dX2_value_135 : decode cX2_value 135 = .ok (.iastore, 1) := by decide +kernel
theorem dX2_value_136 : decode cX2_value 136 = .ok (.goto 35, 3) := by decide +kernel
theorem dX2_value_139 : decode cX2_value 139 = .ok (.iload 4, 2) := by decide +kernel
theorem dX2_value_141 : decode cX2_value 141 = .ok (.iconst 2, 1) := by decide +kernel
theorem dX2_value_142 : decode cX2_value 142 = .ok (.if_icmp .lt 29, 3) := by decide +kernel
theorem dX2_value_145 : decode cX2_value 145 = .ok (.aload_n 3, 1) := by decide +kernel
theorem dX2_value_146 : decode cX2_value 146 = .ok (.iload 4, 2) := by decide +kernel
theorem dX2_value_148 : decode cX2_value 148 = .ok (.iconst 2, 1) := by decide +kernel
theorem dX2_value_149 : decode cX2_value 149 = .ok (.isub, 1) := by decide +kernel
theorem dX2_value_150 : decode cX2_value 150 = .ok (.iload 6, 2) := by decide +kernel
theorem dX2_value_152 : decode cX2_value 152 = .ok (.aload_n 3, 1) := by decide +kernel
theorem dX2_value_153 : decode cX2_value 153 = .ok (.iload 4, 2) := by decide +kernel
theorem dX2_value_155 : decode cX2_value 155 = .ok (.iconst 2, 1) := by decide +kernel
theorem dX2_value_156 : decode cX2_value 156 = .ok (.isub, 1) := by decide +kernel
theorem dX2_value_157 : decode cX2_value 157 = .ok (.iaload, 1) := by decide +kernel
theorem dX2_value_158 : decode cX2_value 158 = .ok (.aload_n 3, 1) := by decide +kernel
theorem dX2_value_159 : decode cX2_value 159 = .ok (.iload 4, 2) := by decide +kernel
theorem dX2_value_161 : decode cX2_value 161 = .ok (.iconst 1, 1) := by decide +kernel
theorem dX2_value_162 : decode cX2_value 162 = .ok (.isub, 1) := by decide +kernel
theorem dX2_value_163 : decode cX2_value 163 = .ok (.iaload, 1) := by decide +kernel
theorem dX2_value_164 : decode cX2_value 164 = .ok (.invokestatic 46, 3) := by decide +kernel
theorem dX2_value_167 : decode cX2_value 167 = .ok (.iastore, 1) := by decide +kernel
theorem dX2_value_168 : decode cX2_value 168 = .ok (.iinc 4 (-1), 3) := by decide +kernel
theorem dX2_value_171 : decode cX2_value 171 = .ok (.iinc 5 1, 3) := by decide +kernel
theorem dX2_value_174 : decode cX2_value 174 = .ok (.goto (-142), 3) := by decide +kernel
theorem dX2_value_177 : decode cX2_value 177 = .ok (.iload 4, 2) := by decide +kernel
theorem dX2_value_179 : decode cX2_value 179 = .ok (.iconst 1, 1) := by decide +kernel
theorem dX2_value_180 : decode cX2_value 180 = .ok (.if_icmp .lt 9, 3) := by decide +kernel
theorem dX2_value_183 : decode cX2_value 183 = .ok (.aload_n 3, 1) := by decide +kernel
theorem dX2_value_184 : decode cX2_value 184 = .ok (.iconst 0, 1) := by decide +kernel
theorem dX2_value_185 : decode cX2_value 185 = .ok (.iaload, 1) := by decide +kernel
theorem dX2_value_186 : decode cX2_value 186 = .ok (.goto 4, 3) := by decide +kernel
theorem dX2_value_189 : decode cX2_value 189 = .ok (.iconst 0, 1) := by decide +kernel
theorem dX2_value_190 : decode cX2_value 190 = .ok (.ireturn, 1) := by decide +kernel
theorem dX2_turnedRound_0 : decode cX2_turnedRound 0 = .ok (.iload_n 0, 1) := by decide +kernel
theorem dX2_turnedRound_1 : decode cX2_turnedRound 1 = .ok (.bipush (-15), 2) := by decide +kernel
theorem dX2_turnedRound_3 : decode cX2_turnedRound 3 = .ok (.if_icmp .ne 6, 3) := by decide +kernel
theorem dX2_turnedRound_6 : decode cX2_turnedRound 6 = .ok (.iload_n 1, 1) := by decide +kernel
theorem dX2_turnedRound_7 : decode cX2_turnedRound 7 = .ok (.ineg, 1) := by decide +kernel
theorem dX2_turnedRound_8 : decode cX2_turnedRound 8 = .ok (.ireturn, 1) := by decide +kernel
theorem dX2_turnedRound_9 : decode cX2_turnedRound 9 = .ok (.iload_n 1, 1) := by decide +kernel
theorem dX2_turnedRound_10 : decode cX2_turnedRound 10 = .ok (.ifCond .ne 7, 3) := by decide +kernel
theorem dX2_turnedRound_13 : decode cX2_turnedRound 13 = .ok (.iconst 1, 1) := by decide +kernel
theorem dX2_turnedRound_14 : decode cX2_turnedRound 14 = .ok (.goto 4, 3) := by decide +kernel
theorem dX2_turnedRound_17 : decode cX2_turnedRound 17 = .ok (.iconst 0, 1) := by decide +kernel
theorem dX2_turnedRound_18 : decode cX2_turnedRound 18 = .ok (.ireturn, 1) := by decide +kernel
theorem dX2_joined_0 : decode cX2_joined 0 = .ok (.iload_n 0, 1) := by decide +kernel
theorem dX2_joined_1 : decode cX2_joined 1 = .ok (.tableswitch 101 (-13) (-7) #[97, 93, 82, 71, 101, 57, 43], 43) := by decide +kernel
theorem dX2_joined_44 : decode cX2_joined 44 = .ok (.iload_n 1, 1) := by decide +kernel
theorem dX2_joined_45 : decode cX2_joined 45 = .ok (.ifCond .ne 7, 3) := by decide +kernel
theorem dX2_joined_48 : decode cX2_joined 48 = .ok (.iload_n 2, 1) := by decide +kernel
theorem dX2_joined_49 : decode cX2_joined 49 = .ok (.ifCond .eq 7, 3) := by decide +kernel
theorem dX2_joined_52 : decode cX2_joined 52 = .ok (.iconst 1, 1) := by decide +kernel
theorem dX2_joined_53 : decode cX2_joined 53 = .ok (.goto 4, 3) := by decide +kernel
theorem dX2_joined_56 : decode cX2_joined 56 = .ok (.iconst 0, 1) := by decide +kernel
theorem dX2_joined_57 : decode cX2_joined 57 = .ok (.ireturn, 1) := by decide +kernel
theorem dX2_joined_58 : decode cX2_joined 58 = .ok (.iload_n 1, 1) := by decide +kernel
theorem dX2_joined_59 : decode cX2_joined 59 = .ok (.ifCond .eq 11, 3) := by decide +kernel
theorem dX2_joined_62 : decode cX2_joined 62 = .ok (.iload_n 2, 1) := by decide +kernel
theorem dX2_joined_63 : decode cX2_joined 63 = .ok (.ifCond .eq 7, 3) := by decide +kernel
theorem dX2_joined_66 : decode cX2_joined 66 = .ok (.iconst 1, 1) := by decide +kernel
theorem dX2_joined_67 : decode cX2_joined 67 = .ok (.goto 4, 3) := by decide +kernel
theorem dX2_joined_70 : decode cX2_joined 70 = .ok (.iconst 0, 1) := by decide +kernel
theorem dX2_joined_71 : decode cX2_joined 71 = .ok (.ireturn, 1) := by decide +kernel
theorem dX2_joined_72 : decode cX2_joined 72 = .ok (.iload_n 1, 1) := by decide +kernel
theorem dX2_joined_73 : decode cX2_joined 73 = .ok (.iload_n 2, 1) := by decide +kernel
theorem dX2_joined_74 : decode cX2_joined 74 = .ok (.if_icmp .ge 7, 3) := by decide +kernel
theorem dX2_joined_77 : decode cX2_joined 77 = .ok (.iconst 1, 1) := by decide +kernel
theorem dX2_joined_78 : decode cX2_joined 78 = .ok (.goto 4, 3) := by decide +kernel
theorem dX2_joined_81 : decode cX2_joined 81 = .ok (.iconst 0, 1) := by decide +kernel
theorem dX2_joined_82 : decode cX2_joined 82 = .ok (.ireturn, 1) := by decide +kernel
theorem dX2_joined_83 : decode cX2_joined 83 = .ok (.iload_n 1, 1) := by decide +kernel
theorem dX2_joined_84 : decode cX2_joined 84 = .ok (.iload_n 2, 1) := by decide +kernel
theorem dX2_joined_85 : decode cX2_joined 85 = .ok (.if_icmp .ne 7, 3) := by decide +kernel
theorem dX2_joined_88 : decode cX2_joined 88 = .ok (.iconst 1, 1) := by decide +kernel
theorem dX2_joined_89 : decode cX2_joined 89 = .ok (.goto 4, 3) := by decide +kernel
theorem dX2_joined_92 : decode cX2_joined 92 = .ok (.iconst 0, 1) := by decide +kernel
theorem dX2_joined_93 : decode cX2_joined 93 = .ok (.ireturn, 1) := by decide +kernel
theorem dX2_joined_94 : decode cX2_joined 94 = .ok (.iload_n 1, 1) := by decide +kernel
theorem dX2_joined_95 : decode cX2_joined 95 = .ok (.iload_n 2, 1) := by decide +kernel
theorem dX2_joined_96 : decode cX2_joined 96 = .ok (.iadd, 1) := by decide +kernel
theorem dX2_joined_97 : decode cX2_joined 97 = .ok (.ireturn, 1) := by decide +kernel
theorem dX2_joined_98 : decode cX2_joined 98 = .ok (.iload_n 1, 1) := by decide +kernel
theorem dX2_joined_99 : decode cX2_joined 99 = .ok (.iload_n 2, 1) := by decide +kernel
theorem dX2_joined_100 : decode cX2_joined 100 = .ok (.isub, 1) := by decide +kernel
theorem dX2_joined_101 : decode cX2_joined 101 = .ok (.ireturn, 1) := by decide +kernel
theorem dX2_joined_102 : decode cX2_joined 102 = .ok (.iload_n 1, 1) := by decide +kernel
theorem dX2_joined_103 : decode cX2_joined 103 = .ok (.iload_n 2, 1) := by decide +kernel
theorem dX2_joined_104 : decode cX2_joined 104 = .ok (.imul, 1) := by decide +kernel
theorem dX2_joined_105 : decode cX2_joined 105 = .ok (.ireturn, 1) := by decide +kernel
theorem dX3_init_0 : decode cX3_init 0 = .ok (.aload_n 0, 1) := by decide +kernel
theorem dX3_init_1 : decode cX3_init 1 = .ok (.invokespecial 3, 3) := by decide +kernel
theorem dX3_init_4 : decode cX3_init 4 = .ok (.aload_n 0, 1) := by decide +kernel
theorem dX3_init_5 : decode cX3_init 5 = .ok (.iconst (-1), 1) := by decide +kernel
theorem dX3_init_6 : decode cX3_init 6 = .ok (.putfield 9, 3) := by decide +kernel
theorem dX3_init_9 : decode cX3_init 9 = .ok (.aload_n 0, 1) := by decide +kernel
theorem dX3_init_10 : decode cX3_init 10 = .ok (.iconst 0, 1) := by decide +kernel
theorem dX3_init_11 : decode cX3_init 11 = .ok (.putfield 15, 3) := by decide +kernel
theorem dX3_init_14 : decode cX3_init 14 = .ok (.aload_n 0, 1) := by decide +kernel
theorem dX3_init_15 : decode cX3_init 15 = .ok (.bipush 40, 2) := by decide +kernel
theorem dX3_init_17 : decode cX3_init 17 = .ok (.newarray .int, 2) := by decide +kernel
theorem dX3_init_19 : decode cX3_init 19 = .ok (.putfield 18, 3) := by decide +kernel
theorem dX3_init_22 : decode cX3_init 22 = .ok (.return_, 1) := by decide +kernel
theorem dX3_isMissing_0 : decode cX3_isMissing 0 = .ok (.aload_n 0, 1) := by decide +kernel
theorem dX3_isMissing_1 : decode cX3_isMissing 1 = .ok (.getfield 9, 3) := by decide +kernel
theorem dX3_isMissing_4 : decode cX3_isMissing 4 = .ok (.iconst (-1), 1) := by decide +kernel
theorem dX3_isMissing_5 : decode cX3_isMissing 5 = .ok (.if_icmp .ne 7, 3) := by decide +kernel
theorem dX3_isMissing_8 : decode cX3_isMissing 8 = .ok (.iconst 1, 1) := by decide +kernel
theorem dX3_isMissing_9 : decode cX3_isMissing 9 = .ok (.goto 4, 3) := by decide +kernel
theorem dX3_isMissing_12 : decode cX3_isMissing 12 = .ok (.iconst 0, 1) := by decide +kernel
theorem dX3_isMissing_13 : decode cX3_isMissing 13 = .ok (.ireturn, 1) := by decide +kernel
theorem dX3_vanish_0 : decode cX3_vanish 0 = .ok (.aload_n 0, 1) := by decide +kernel
theorem dX3_vanish_1 : decode cX3_vanish 1 = .ok (.iconst (-1), 1) := by decide +kernel
theorem dX3_vanish_2 : decode cX3_vanish 2 = .ok (.putfield 9, 3) := by decide +kernel
theorem dX3_vanish_5 : decode cX3_vanish 5 = .ok (.aload_n 0, 1) := by decide +kernel
theorem dX3_vanish_6 : decode cX3_vanish 6 = .ok (.iconst 0, 1) := by decide +kernel
theorem dX3_vanish_7 : decode cX3_vanish 7 = .ok (.putfield 15, 3) := by decide +kernel
theorem dX3_vanish_10 : decode cX3_vanish 10 = .ok (.return_, 1) := by decide +kernel
theorem dX3_become_0 : decode cX3_become 0 = .ok (.aload_n 0, 1) := by decide +kernel
theorem dX3_become_1 : decode cX3_become 1 = .ok (.iload_n 1, 1) := by decide +kernel
theorem dX3_become_2 : decode cX3_become 2 = .ok (.putfield 9, 3) := by decide +kernel
theorem dX3_become_5 : decode cX3_become 5 = .ok (.aload_n 0, 1) := by decide +kernel
theorem dX3_become_6 : decode cX3_become 6 = .ok (.iload_n 2, 1) := by decide +kernel
theorem dX3_become_7 : decode cX3_become 7 = .ok (.iconst 0, 1) := by decide +kernel
theorem dX3_become_8 : decode cX3_become 8 = .ok (.bipush 40, 2) := by decide +kernel
theorem dX3_become_10 : decode cX3_become 10 = .ok (.invokestatic 22, 3) := by decide +kernel
theorem dX3_become_13 : decode cX3_become 13 = .ok (.putfield 15, 3) := by decide +kernel
theorem dX3_become_16 : decode cX3_become 16 = .ok (.iconst 0, 1) := by decide +kernel
theorem dX3_become_17 : decode cX3_become 17 = .ok (.istore_n 3, 1) := by decide +kernel
theorem dX3_become_18 : decode cX3_become 18 = .ok (.iload_n 3, 1) := by decide +kernel
theorem dX3_become_19 : decode cX3_become 19 = .ok (.bipush 40, 2) := by decide +kernel
theorem dX3_become_21 : decode cX3_become 21 = .ok (.if_icmp .ge 16, 3) := by decide +kernel
theorem dX3_become_24 : decode cX3_become 24 = .ok (.aload_n 0, 1) := by decide +kernel
theorem dX3_become_25 : decode cX3_become 25 = .ok (.getfield 18, 3) := by decide +kernel
theorem dX3_become_28 : decode cX3_become 28 = .ok (.iload_n 3, 1) := by decide +kernel
theorem dX3_become_29 : decode cX3_become 29 = .ok (.iconst 0, 1) := by decide +kernel
theorem dX3_become_30 : decode cX3_become 30 = .ok (.iastore, 1) := by decide +kernel
theorem dX3_become_31 : decode cX3_become 31 = .ok (.iinc 3 1, 3) := by decide +kernel
theorem dX3_become_34 : decode cX3_become 34 = .ok (.goto (-16), 3) := by decide +kernel
theorem dX3_become_37 : decode cX3_become 37 = .ok (.return_, 1) := by decide +kernel
theorem dX3_hasItem_0 : decode cX3_hasItem 0 = .ok (.iload_n 1, 1) := by decide +kernel
theorem dX3_hasItem_1 : decode cX3_hasItem 1 = .ok (.ifCond .lt 15, 3) := by decide +kernel
theorem dX3_hasItem_4 : decode cX3_hasItem 4 = .ok (.iload_n 1, 1) := by decide +kernel
theorem dX3_hasItem_5 : decode cX3_hasItem 5 = .ok (.aload_n 0, 1) := by decide +kernel
theorem dX3_hasItem_6 : decode cX3_hasItem 6 = .ok (.getfield 15, 3) := by decide +kernel
theorem dX3_hasItem_9 : decode cX3_hasItem 9 = .ok (.if_icmp .ge 7, 3) := by decide +kernel
theorem dX3_hasItem_12 : decode cX3_hasItem 12 = .ok (.iconst 1, 1) := by decide +kernel
theorem dX3_hasItem_13 : decode cX3_hasItem 13 = .ok (.goto 4, 3) := by decide +kernel
theorem dX3_hasItem_16 : decode cX3_hasItem 16 = .ok (.iconst 0, 1) := by decide +kernel
theorem dX3_hasItem_17 : decode cX3_hasItem 17 = .ok (.ireturn, 1) := by decide +kernel
theorem dX3_hasItems_0 : decode cX3_hasItems 0 = .ok (.iload_n 1, 1) := by decide +kernel
theorem dX3_hasItems_1 : decode cX3_hasItems 1 = .ok (.ifCond .lt 21, 3) := by decide +kernel
theorem dX3_hasItems_4 : decode cX3_hasItems 4 = .ok (.iload_n 2, 1) := by decide +kernel
theorem dX3_hasItems_5 : decode cX3_hasItems 5 = .ok (.ifCond .lt 17, 3) := by decide +kernel
theorem dX3_hasItems_8 : decode cX3_hasItems 8 = .ok (.iload_n 1, 1) := by decide +kernel
theorem dX3_hasItems_9 : decode cX3_hasItems 9 = .ok (.aload_n 0, 1) := by decide +kernel
theorem dX3_hasItems_10 : decode cX3_hasItems 10 = .ok (.getfield 15, 3) := by decide +kernel
theorem dX3_hasItems_13 : decode cX3_hasItems 13 = .ok (.iload_n 2, 1) := by decide +kernel
theorem dX3_hasItems_14 : decode cX3_hasItems 14 = .ok (.isub, 1) := by decide +kernel
theorem dX3_hasItems_15 : decode cX3_hasItems 15 = .ok (.if_icmp .gt 7, 3) := by decide +kernel
theorem dX3_hasItems_18 : decode cX3_hasItems 18 = .ok (.iconst 1, 1) := by decide +kernel
theorem dX3_hasItems_19 : decode cX3_hasItems 19 = .ok (.goto 4, 3) := by decide +kernel
theorem dX3_hasItems_22 : decode cX3_hasItems 22 = .ok (.iconst 0, 1) := by decide +kernel
theorem dX3_hasItems_23 : decode cX3_hasItems 23 = .ok (.ireturn, 1) := by decide +kernel
theorem dX3_put_0 : decode cX3_put 0 = .ok (.aload_n 0, 1) := by decide +kernel
theorem dX3_put_1 : decode cX3_put 1 = .ok (.iload_n 1, 1) := by decide +kernel
theorem dX3_put_2 : decode cX3_put 2 = .ok (.invokevirtual 26, 3) := by decide +kernel
theorem dX3_put_5 : decode cX3_put 5 = .ok (.ifCond .ne 4, 3) := by decide +kernel
theorem dX3_put_8 : decode cX3_put 8 = .ok (.return_, 1) := by decide +kernel
theorem dX3_put_9 : decode cX3_put 9 = .ok (.aload_n 0, 1) := by decide +kernel
theorem dX3_put_10 : decode cX3_put 10 = .ok (.getfield 9, 3) := by decide +kernel
theorem dX3_put_13 : decode cX3_put 13 = .ok (.ifCond .ne 14, 3) := by decide +kernel
theorem dX3_put_16 : decode cX3_put 16 = .ok (.aload_n 0, 1) := by decide +kernel
theorem dX3_put_17 : decode cX3_put 17 = .ok (.getfield 18, 3) := by decide +kernel
theorem dX3_put_20 : decode cX3_put 20 = .ok (.iload_n 1, 1) := by decide +kernel
theorem dX3_put_21 : decode cX3_put 21 = .ok (.iload_n 2, 1) := by decide +kernel
theorem dX3_put_22 : decode cX3_put 22 = .ok (.i2b, 1) := by decide +kernel
theorem dX3_put_23 : decode cX3_put 23 = .ok (.iastore, 1) := by decide +kernel
theorem dX3_put_24 : decode cX3_put 24 = .ok (.goto 29, 3) := by decide +kernel
theorem dX3_put_27 : decode cX3_put 27 = .ok (.aload_n 0, 1) := by decide +kernel
theorem dX3_put_28 : decode cX3_put 28 = .ok (.getfield 9, 3) := by decide +kernel
theorem dX3_put_31 : decode cX3_put 31 = .ok (.iconst 1, 1) := by decide +kernel
theorem dX3_put_32 : decode cX3_put 32 = .ok (.if_icmp .ne 14, 3) := by decide +kernel
theorem dX3_put_35 : decode cX3_put 35 = .ok (.aload_n 0, 1) := by decide +kernel
theorem dX3_put_36 : decode cX3_put 36 = .ok (.getfield 18, 3) := by decide +kernel
theorem dX3_put_39 : decode cX3_put 39 = .ok (.iload_n 1, 1) := by decide +kernel
theorem dX3_put_40 : decode cX3_put 40 = .ok (.iload_n 2, 1) := by decide +kernel
theorem dX3_put_41 : decode cX3_put 41 = .ok (.i2s, 1) := by decide +kernel
theorem dX3_put_42 : decode cX3_put 42 = .ok (.iastore, 1) := by decide +kernel
theorem dX3_put_43 : decode cX3_put 43 = .ok (.goto 10, 3) := by decide +kernel
theorem dX3_put_46 : decode cX3_put 46 = .ok (.aload_n 0, 1) := by decide +kernel
theorem dX3_put_47 : decode cX3_put 47 = .ok (.getfield 18, 3) := by decide +kernel
theorem dX3_put_50 : decode cX3_put 50 = .ok (.iload_n 1, 1) := by decide +kernel
theorem dX3_put_51 : decode cX3_put 51 = .ok (.iload_n 2, 1) := by decide +kernel
theorem dX3_put_52 : decode cX3_put 52 = .ok (.iastore, 1) := by decide +kernel
theorem dX3_put_53 : decode cX3_put 53 = .ok (.return_, 1) := by decide +kernel
theorem dX4_init_0 : decode cX4_init 0 = .ok (.aload_n 0, 1) := by decide +kernel
theorem dX4_init_1 : decode cX4_init 1 = .ok (.invokespecial 3, 3) := by decide +kernel
theorem dX4_init_4 : decode cX4_init 4 = .ok (.aload_n 0, 1) := by decide +kernel
theorem dX4_init_5 : decode cX4_init 5 = .ok (.iconst 4, 1) := by decide +kernel
theorem dX4_init_6 : decode cX4_init 6 = .ok (.newarray .int, 2) := by decide +kernel
theorem dX4_init_8 : decode cX4_init 8 = .ok (.putfield 9, 3) := by decide +kernel
theorem dX4_init_11 : decode cX4_init 11 = .ok (.aload_n 0, 1) := by decide +kernel
theorem dX4_init_12 : decode cX4_init 12 = .ok (.bipush 6, 2) := by decide +kernel
theorem dX4_init_14 : decode cX4_init 14 = .ok (.newarray .int, 2) := by decide +kernel
theorem dX4_init_16 : decode cX4_init 16 = .ok (.putfield 17, 3) := by decide +kernel
theorem dX4_init_19 : decode cX4_init 19 = .ok (.aload_n 0, 1) := by decide +kernel
theorem dX4_init_20 : decode cX4_init 20 = .ok (.sipush 160, 3) := by decide +kernel
theorem dX4_init_23 : decode cX4_init 23 = .ok (.newarray .int, 2) := by decide +kernel
theorem dX4_init_25 : decode cX4_init 25 = .ok (.putfield 20, 3) := by decide +kernel
theorem dX4_init_28 : decode cX4_init 28 = .ok (.aload_n 0, 1) := by decide +kernel
theorem dX4_init_29 : decode cX4_init 29 = .ok (.iconst 0, 1) := by decide +kernel
theorem dX4_init_30 : decode cX4_init 30 = .ok (.putfield 23, 3) := by decide +kernel
theorem dX4_init_33 : decode cX4_init 33 = .ok (.aload_n 0, 1) := by decide +kernel
theorem dX4_init_34 : decode cX4_init 34 = .ok (.iconst 0, 1) := by decide +kernel
theorem dX4_init_35 : decode cX4_init 35 = .ok (.putfield 27, 3) := by decide +kernel
theorem dX4_init_38 : decode cX4_init 38 = .ok (.aload_n 0, 1) := by decide +kernel
theorem dX4_init_39 : decode cX4_init 39 = .ok (.iconst 0, 1) := by decide +kernel
theorem dX4_init_40 : decode cX4_init 40 = .ok (.putfield 30, 3) := by decide +kernel
theorem dX4_init_43 : decode cX4_init 43 = .ok (.aload_n 0, 1) := by decide +kernel
theorem dX4_init_44 : decode cX4_init 44 = .ok (.iconst 0, 1) := by decide +kernel
theorem dX4_init_45 : decode cX4_init 45 = .ok (.putfield 33, 3) := by decide +kernel
theorem dX4_init_48 : decode cX4_init 48 = .ok (.return_, 1) := by decide +kernel
theorem dX4_measure_0 : decode cX4_measure 0 = .ok (.iconst 0, 1) := by decide +kernel
theorem dX4_measure_1 : decode cX4_measure 1 = .ok (.istore 5, 2) := by decide +kernel
theorem dX4_measure_3 : decode cX4_measure 3 = .ok (.iload 5, 2) := by decide +kernel
theorem dX4_measure_5 : decode cX4_measure 5 = .ok (.iconst 4, 1) := by decide +kernel
theorem dX4_measure_6 : decode cX4_measure 6 = .ok (.if_icmp .ge 25, 3) := by decide +kernel
theorem dX4_measure_9 : decode cX4_measure 9 = .ok (.aload_n 0, 1) := by decide +kernel
theorem dX4_measure_10 : decode cX4_measure 10 = .ok (.getfield 9, 3) := by decide +kernel
theorem dX4_measure_13 : decode cX4_measure 13 = .ok (.iload 5, 2) := by decide +kernel
theorem dX4_measure_15 : decode cX4_measure 15 = .ok (.aload_n 1, 1) := by decide +kernel
theorem dX4_measure_16 : decode cX4_measure 16 = .ok (.iload 5, 2) := by decide +kernel
theorem dX4_measure_18 : decode cX4_measure 18 = .ok (.iload_n 3, 1) := by decide +kernel
theorem dX4_measure_19 : decode cX4_measure 19 = .ok (.iload 4, 2) := by decide +kernel
theorem dX4_measure_21 : decode cX4_measure 21 = .ok (.invokevirtual 36, 3) := by decide +kernel
theorem dX4_measure_24 : decode cX4_measure 24 = .ok (.iastore, 1) := by decide +kernel
theorem dX4_measure_25 : decode cX4_measure 25 = .ok (.iinc 5 1, 3) := by decide +kernel
theorem dX4_measure_28 : decode cX4_measure 28 = .ok (.goto (-25), 3) := by decide +kernel
theorem dX4_measure_31 : decode cX4_measure 31 = .ok (.aload_n 0, 1) := by decide +kernel
theorem dX4_measure_32 : decode cX4_measure 32 = .ok (.aload_n 0, 1) := by decide +kernel
theorem dX4_measure_33 : decode cX4_measure 33 = .ok (.getfield 9, 3) := by decide +kernel
theorem dX4_measure_36 : decode cX4_measure 36 = .ok (.iconst 0, 1) := by decide +kernel
theorem dX4_measure_37 : decode cX4_measure 37 = .ok (.iaload, 1) := by decide +kernel
theorem dX4_measure_38 : decode cX4_measure 38 = .ok (.aload_n 0, 1) := by decide +kernel
theorem dX4_measure_39 : decode cX4_measure 39 = .ok (.getfield 9, 3) := by decide +kernel
theorem dX4_measure_42 : decode cX4_measure 42 = .ok (.iconst 2, 1) := by decide +kernel
theorem dX4_measure_43 : decode cX4_measure 43 = .ok (.iaload, 1) := by decide +kernel
theorem dX4_measure_44 : decode cX4_measure 44 = .ok (.iadd, 1) := by decide +kernel
theorem dX4_measure_45 : decode cX4_measure 45 = .ok (.aload_n 0, 1) := by decide +kernel
theorem dX4_measure_46 : decode cX4_measure 46 = .ok (.getfield 9, 3) := by decide +kernel
theorem dX4_measure_49 : decode cX4_measure 49 = .ok (.iconst 1, 1) := by decide +kernel
theorem dX4_measure_50 : decode cX4_measure 50 = .ok (.iaload, 1) := by decide +kernel
theorem dX4_measure_51 : decode cX4_measure 51 = .ok (.isub, 1) := by decide +kernel
theorem dX4_measure_52 : decode cX4_measure 52 = .ok (.aload_n 0, 1) := by decide +kernel
theorem dX4_measure_53 : decode cX4_measure 53 = .ok (.getfield 9, 3) := by decide +kernel
theorem dX4_measure_56 : decode cX4_measure 56 = .ok (.iconst 3, 1) := by decide +kernel
theorem dX4_measure_57 : decode cX4_measure 57 = .ok (.iaload, 1) := by decide +kernel
theorem dX4_measure_58 : decode cX4_measure 58 = .ok (.isub, 1) := by decide +kernel
theorem dX4_measure_59 : decode cX4_measure 59 = .ok (.putfield 23, 3) := by decide +kernel
theorem dX4_measure_62 : decode cX4_measure 62 = .ok (.aload_n 0, 1) := by decide +kernel
theorem dX4_measure_63 : decode cX4_measure 63 = .ok (.aload_n 0, 1) := by decide +kernel
theorem dX4_measure_64 : decode cX4_measure 64 = .ok (.getfield 23, 3) := by decide +kernel
theorem dX4_measure_67 : decode cX4_measure 67 = .ok (.invokestatic 42, 3) := by decide +kernel
theorem dX4_measure_70 : decode cX4_measure 70 = .ok (.putfield 27, 3) := by decide +kernel
theorem dX4_measure_73 : decode cX4_measure 73 = .ok (.aload_n 0, 1) := by decide +kernel
theorem dX4_measure_74 : decode cX4_measure 74 = .ok (.aload_n 0, 1) := by decide +kernel
theorem dX4_measure_75 : decode cX4_measure 75 = .ok (.invokevirtual 48, 3) := by decide +kernel
theorem dX4_measure_78 : decode cX4_measure 78 = .ok (.putfield 33, 3) := by decide +kernel
theorem dX4_measure_81 : decode cX4_measure 81 = .ok (.aload_n 0, 1) := by decide +kernel
theorem dX4_measure_82 : decode cX4_measure 82 = .ok (.aload_n 1, 1) := by decide +kernel
theorem dX4_measure_83 : decode cX4_measure 83 = .ok (.invokevirtual 52, 3) := by decide +kernel
theorem dX4_measure_86 : decode cX4_measure 86 = .ok (.istore 5, 2) := by decide +kernel
theorem dX4_measure_88 : decode cX4_measure 88 = .ok (.aload_n 0, 1) := by decide +kernel
theorem dX4_measure_89 : decode cX4_measure 89 = .ok (.bipush (-3), 2) := by decide +kernel
theorem dX4_measure_91 : decode cX4_measure 91 = .ok (.iload 4, 2) := by decide +kernel
theorem dX4_measure_93 : decode cX4_measure 93 = .ok (.invokevirtual 56, 3) := by decide +kernel
theorem dX4_measure_96 : decode cX4_measure 96 = .ok (.aload_n 0, 1) := by decide +kernel
theorem dX4_measure_97 : decode cX4_measure 97 = .ok (.bipush (-4), 2) := by decide +kernel
theorem dX4_measure_99 : decode cX4_measure 99 = .ok (.iload_n 3, 1) := by decide +kernel
theorem dX4_measure_100 : decode cX4_measure 100 = .ok (.bipush 8, 2) := by decide +kernel
theorem dX4_measure_102 : decode cX4_measure 102 = .ok (.idiv, 1) := by decide +kernel
theorem dX4_measure_103 : decode cX4_measure 103 = .ok (.invokevirtual 56, 3) := by decide +kernel
theorem dX4_measure_106 : decode cX4_measure 106 = .ok (.aload_n 0, 1) := by decide +kernel
theorem dX4_measure_107 : decode cX4_measure 107 = .ok (.bipush (-5), 2) := by decide +kernel
theorem dX4_measure_109 : decode cX4_measure 109 = .ok (.iload_n 3, 1) := by decide +kernel
theorem dX4_measure_110 : decode cX4_measure 110 = .ok (.bipush 8, 2) := by decide +kernel
theorem dX4_measure_112 : decode cX4_measure 112 = .ok (.irem, 1) := by decide +kernel
theorem dX4_measure_113 : decode cX4_measure 113 = .ok (.invokevirtual 56, 3) := by decide +kernel
theorem dX4_measure_116 : decode cX4_measure 116 = .ok (.aload_n 0, 1) := by decide +kernel
theorem dX4_measure_117 : decode cX4_measure 117 = .ok (.bipush (-6), 2) := by decide +kernel
theorem dX4_measure_119 : decode cX4_measure 119 = .ok (.iload 5, 2) := by decide +kernel
theorem dX4_measure_121 : decode cX4_measure 121 = .ok (.invokevirtual 56, 3) := by decide +kernel
theorem dX4_measure_124 : decode cX4_measure 124 = .ok (.aload_n 0, 1) := by decide +kernel
theorem dX4_measure_125 : decode cX4_measure 125 = .ok (.aload_n 0, 1) := by decide +kernel
theorem dX4_measure_126 : decode cX4_measure 126 = .ok (.getfield 27, 3) := by decide +kernel
theorem dX4_measure_129 : decode cX4_measure 129 = .ok (.aload_n 0, 1) := by decide +kernel
theorem dX4_measure_130 : decode cX4_measure 130 = .ok (.aload_n 2, 1) := by decide +kernel
theorem dX4_measure_131 : decode cX4_measure 131 = .ok (.invokevirtual 60, 3) := by decide +kernel
theorem dX4_measure_134 : decode cX4_measure 134 = .ok (.if_icmp .gt 7, 3) := by decide +kernel
theorem dX4_measure_137 : decode cX4_measure 137 = .ok (.iconst 0, 1) := by decide +kernel
theorem dX4_measure_138 : decode cX4_measure 138 = .ok (.goto 14, 3) := by decide +kernel
theorem dX4_measure_141 : decode cX4_measure 141 = .ok (.iconst 0, 1) := by decide +kernel
theorem dX4_measure_142 : decode cX4_measure 142 = .ok (.aload_n 0, 1) := by decide +kernel
theorem dX4_measure_143 : decode cX4_measure 143 = .ok (.getfield 27, 3) := by decide +kernel
theorem dX4_measure_146 : decode cX4_measure 146 = .ok (.iload 5, 2) := by decide +kernel
theorem dX4_measure_148 : decode cX4_measure 148 = .ok (.isub, 1) := by decide +kernel
theorem dX4_measure_149 : decode cX4_measure 149 = .ok (.invokestatic 64, 3) := by decide +kernel
theorem dX4_measure_152 : decode cX4_measure 152 = .ok (.putfield 30, 3) := by decide +kernel
theorem dX4_measure_155 : decode cX4_measure 155 = .ok (.return_, 1) := by decide +kernel
theorem dX4_measureLean_0 : decode cX4_measureLean 0 = .ok (.aload_n 0, 1) := by decide +kernel
theorem dX4_measureLean_1 : decode cX4_measureLean 1 = .ok (.getfield 9, 3) := by decide +kernel
theorem dX4_measureLean_4 : decode cX4_measureLean 4 = .ok (.aload_n 0, 1) := by decide +kernel
theorem dX4_measureLean_5 : decode cX4_measureLean 5 = .ok (.invokevirtual 68, 3) := by decide +kernel
theorem dX4_measureLean_8 : decode cX4_measureLean 8 = .ok (.iaload, 1) := by decide +kernel
theorem dX4_measureLean_9 : decode cX4_measureLean 9 = .ok (.istore_n 1, 1) := by decide +kernel
theorem dX4_measureLean_10 : decode cX4_measureLean 10 = .ok (.aload_n 0, 1) := by decide +kernel
theorem dX4_measureLean_11 : decode cX4_measureLean 11 = .ok (.getfield 9, 3) := by decide +kernel
theorem dX4_measureLean_14 : decode cX4_measureLean 14 = .ok (.aload_n 0, 1) := by decide +kernel
theorem dX4_measureLean_15 : decode cX4_measureLean 15 = .ok (.invokevirtual 68, 3) := by decide +kernel
theorem dX4_measureLean_18 : decode cX4_measureLean 18 = .ok (.iconst 2, 1) := by decide +kernel
theorem dX4_measureLean_19 : decode cX4_measureLean 19 = .ok (.iadd, 1) := by decide +kernel
theorem dX4_measureLean_20 : decode cX4_measureLean 20 = .ok (.iaload, 1) := by decide +kernel
theorem dX4_measureLean_21 : decode cX4_measureLean 21 = .ok (.istore_n 2, 1) := by decide +kernel
theorem dX4_measureLean_22 : decode cX4_measureLean 22 = .ok (.aload_n 0, 1) := by decide +kernel
theorem dX4_measureLean_23 : decode cX4_measureLean 23 = .ok (.getfield 9, 3) := by decide +kernel
theorem dX4_measureLean_26 : decode cX4_measureLean 26 = .ok (.iconst 1, 1) := by decide +kernel
theorem dX4_measureLean_27 : decode cX4_measureLean 27 = .ok (.aload_n 0, 1) := by decide +kernel
theorem dX4_measureLean_28 : decode cX4_measureLean 28 = .ok (.invokevirtual 68, 3) := by decide +kernel
theorem dX4_measureLean_31 : decode cX4_measureLean 31 = .ok (.isub, 1) := by decide +kernel
theorem dX4_measureLean_32 : decode cX4_measureLean 32 = .ok (.iaload, 1) := by decide +kernel
theorem dX4_measureLean_33 : decode cX4_measureLean 33 = .ok (.istore_n 3, 1) := by decide +kernel
theorem dX4_measureLean_34 : decode cX4_measureLean 34 = .ok (.iload_n 1, 1) := by decide +kernel
theorem dX4_measureLean_35 : decode cX4_measureLean 35 = .ok (.iload_n 2, 1) := by decide +kernel
theorem dX4_measureLean_36 : decode cX4_measureLean 36 = .ok (.iadd, 1) := by decide +kernel
theorem dX4_measureLean_37 : decode cX4_measureLean 37 = .ok (.iload_n 3, 1) := by decide +kernel
theorem dX4_measureLean_38 : decode cX4_measureLean 38 = .ok (.isub, 1) := by decide +kernel
theorem dX4_measureLean_39 : decode cX4_measureLean 39 = .ok (.istore 4, 2) := by decide +kernel
theorem dX4_measureLean_41 : decode cX4_measureLean 41 = .ok (.iload_n 1, 1) := by decide +kernel
theorem dX4_measureLean_42 : decode cX4_measureLean 42 = .ok (.iload_n 2, 1) := by decide +kernel
theorem dX4_measureLean_43 : decode cX4_measureLean 43 = .ok (.invokestatic 64, 3) := by decide +kernel
theorem dX4_measureLean_46 : decode cX4_measureLean 46 = .ok (.iload_n 3, 1) := by decide +kernel
theorem dX4_measureLean_47 : decode cX4_measureLean 47 = .ok (.iload 4, 2) := by decide +kernel
theorem dX4_measureLean_49 : decode cX4_measureLean 49 = .ok (.invokestatic 64, 3) := by decide +kernel
theorem dX4_measureLean_52 : decode cX4_measureLean 52 = .ok (.invokestatic 64, 3) := by decide +kernel
theorem dX4_measureLean_55 : decode cX4_measureLean 55 = .ok (.istore 5, 2) := by decide +kernel
theorem dX4_measureLean_57 : decode cX4_measureLean 57 = .ok (.iload_n 1, 1) := by decide +kernel
theorem dX4_measureLean_58 : decode cX4_measureLean 58 = .ok (.iload_n 2, 1) := by decide +kernel
theorem dX4_measureLean_59 : decode cX4_measureLean 59 = .ok (.invokestatic 71, 3) := by decide +kernel
theorem dX4_measureLean_62 : decode cX4_measureLean 62 = .ok (.iload_n 3, 1) := by decide +kernel
theorem dX4_measureLean_63 : decode cX4_measureLean 63 = .ok (.iload 4, 2) := by decide +kernel
theorem dX4_measureLean_65 : decode cX4_measureLean 65 = .ok (.invokestatic 71, 3) := by decide +kernel
theorem dX4_measureLean_68 : decode cX4_measureLean 68 = .ok (.invokestatic 71, 3) := by decide +kernel
theorem dX4_measureLean_71 : decode cX4_measureLean 71 = .ok (.istore 6, 2) := by decide +kernel
theorem dX4_measureLean_73 : decode cX4_measureLean 73 = .ok (.iload 5, 2) := by decide +kernel
theorem dX4_measureLean_75 : decode cX4_measureLean 75 = .ok (.iload 6, 2) := by decide +kernel
theorem dX4_measureLean_77 : decode cX4_measureLean 77 = .ok (.isub, 1) := by decide +kernel
theorem dX4_measureLean_78 : decode cX4_measureLean 78 = .ok (.ireturn, 1) := by decide +kernel
theorem dX4_giveOfLoose_0 : decode cX4_giveOfLoose 0 = .ok (.aload_n 0, 1) := by decide +kernel
theorem dX4_giveOfLoose_1 : decode cX4_giveOfLoose 1 = .ok (.getfield 23, 3) := by decide +kernel
theorem dX4_giveOfLoose_4 : decode cX4_giveOfLoose 4 = .ok (.ifCond .ne 5, 3) := by decide +kernel
theorem dX4_giveOfLoose_7 : decode cX4_giveOfLoose 7 = .ok (.iconst 0, 1) := by decide +kernel
theorem dX4_giveOfLoose_8 : decode cX4_giveOfLoose 8 = .ok (.ireturn, 1) := by decide +kernel
theorem dX4_giveOfLoose_9 : decode cX4_giveOfLoose 9 = .ok (.aload_n 1, 1) := by decide +kernel
theorem dX4_giveOfLoose_10 : decode cX4_giveOfLoose 10 = .ok (.getfield 74, 3) := by decide +kernel
theorem dX4_giveOfLoose_13 : decode cX4_giveOfLoose 13 = .ok (.aload_n 0, 1) := by decide +kernel
theorem dX4_giveOfLoose_14 : decode cX4_giveOfLoose 14 = .ok (.invokevirtual 78, 3) := by decide +kernel
theorem dX4_giveOfLoose_17 : decode cX4_giveOfLoose 17 = .ok (.aaload, 1) := by decide +kernel
theorem dX4_giveOfLoose_18 : decode cX4_giveOfLoose 18 = .ok (.aload_n 0, 1) := by decide +kernel
theorem dX4_giveOfLoose_19 : decode cX4_giveOfLoose 19 = .ok (.getfield 27, 3) := by decide +kernel
theorem dX4_giveOfLoose_22 : decode cX4_giveOfLoose 22 = .ok (.invokevirtual 81, 3) := by decide +kernel
theorem dX4_giveOfLoose_25 : decode cX4_giveOfLoose 25 = .ok (.aload_n 1, 1) := by decide +kernel
theorem dX4_giveOfLoose_26 : decode cX4_giveOfLoose 26 = .ok (.getfield 74, 3) := by decide +kernel
theorem dX4_giveOfLoose_29 : decode cX4_giveOfLoose 29 = .ok (.aload_n 0, 1) := by decide +kernel
theorem dX4_giveOfLoose_30 : decode cX4_giveOfLoose 30 = .ok (.invokevirtual 78, 3) := by decide +kernel
theorem dX4_giveOfLoose_33 : decode cX4_giveOfLoose 33 = .ok (.iconst 2, 1) := by decide +kernel
theorem dX4_giveOfLoose_34 : decode cX4_giveOfLoose 34 = .ok (.iadd, 1) := by decide +kernel
theorem dX4_giveOfLoose_35 : decode cX4_giveOfLoose 35 = .ok (.aaload, 1) := by decide +kernel
theorem dX4_giveOfLoose_36 : decode cX4_giveOfLoose 36 = .ok (.aload_n 0, 1) := by decide +kernel
theorem dX4_giveOfLoose_37 : decode cX4_giveOfLoose 37 = .ok (.getfield 27, 3) := by decide +kernel
theorem dX4_giveOfLoose_40 : decode cX4_giveOfLoose 40 = .ok (.invokevirtual 81, 3) := by decide +kernel
theorem dX4_giveOfLoose_43 : decode cX4_giveOfLoose 43 = .ok (.iadd, 1) := by decide +kernel
theorem dX4_giveOfLoose_44 : decode cX4_giveOfLoose 44 = .ok (.ireturn, 1) := by decide +kernel
theorem dX4_name_0 : decode cX4_name 0 = .ok (.iload_n 1, 1) := by decide +kernel
theorem dX4_name_1 : decode cX4_name 1 = .ok (.invokestatic 86, 3) := by decide +kernel
theorem dX4_name_4 : decode cX4_name 4 = .ok (.istore_n 3, 1) := by decide +kernel
theorem dX4_name_5 : decode cX4_name 5 = .ok (.iload_n 3, 1) := by decide +kernel
theorem dX4_name_6 : decode cX4_name 6 = .ok (.iconst 0, 1) := by decide +kernel
theorem dX4_name_7 : decode cX4_name 7 = .ok (.iconst 5, 1) := by decide +kernel
theorem dX4_name_8 : decode cX4_name 8 = .ok (.invokestatic 89, 3) := by decide +kernel
theorem dX4_name_11 : decode cX4_name 11 = .ok (.ifCond .eq 10, 3) := by decide +kernel
theorem dX4_name_14 : decode cX4_name 14 = .ok (.aload_n 0, 1) := by decide +kernel
theorem dX4_name_15 : decode cX4_name 15 = .ok (.getfield 17, 3) := by decide +kernel
theorem dX4_name_18 : decode cX4_name 18 = .ok (.iload_n 3, 1) := by decide +kernel
theorem dX4_name_19 : decode cX4_name 19 = .ok (.iload_n 2, 1) := by decide +kernel
theorem dX4_name_20 : decode cX4_name 20 = .ok (.iastore, 1) := by decide +kernel
theorem dX4_name_21 : decode cX4_name 21 = .ok (.return_, 1) := by decide +kernel
theorem dX4_slack_0 : decode cX4_slack 0 = .ok (.aload_n 0, 1) := by decide +kernel
theorem dX4_slack_1 : decode cX4_slack 1 = .ok (.iconst (-1), 1) := by decide +kernel
theorem dX4_slack_2 : decode cX4_slack 2 = .ok (.aload_n 0, 1) := by decide +kernel
theorem dX4_slack_3 : decode cX4_slack 3 = .ok (.getfield 27, 3) := by decide +kernel
theorem dX4_slack_6 : decode cX4_slack 6 = .ok (.invokevirtual 56, 3) := by decide +kernel
theorem dX4_slack_9 : decode cX4_slack 9 = .ok (.aload_n 0, 1) := by decide +kernel
theorem dX4_slack_10 : decode cX4_slack 10 = .ok (.bipush (-2), 2) := by decide +kernel
theorem dX4_slack_12 : decode cX4_slack 12 = .ok (.iconst 0, 1) := by decide +kernel
theorem dX4_slack_13 : decode cX4_slack 13 = .ok (.invokevirtual 56, 3) := by decide +kernel
theorem dX4_slack_16 : decode cX4_slack 16 = .ok (.aload_n 1, 1) := by decide +kernel
theorem dX4_slack_17 : decode cX4_slack 17 = .ok (.iconst 0, 1) := by decide +kernel
theorem dX4_slack_18 : decode cX4_slack 18 = .ok (.aload_n 0, 1) := by decide +kernel
theorem dX4_slack_19 : decode cX4_slack 19 = .ok (.getfield 17, 3) := by decide +kernel
theorem dX4_slack_22 : decode cX4_slack 22 = .ok (.aload_n 0, 1) := by decide +kernel
theorem dX4_slack_23 : decode cX4_slack 23 = .ok (.getfield 20, 3) := by decide +kernel
theorem dX4_slack_26 : decode cX4_slack 26 = .ok (.invokevirtual 93, 3) := by decide +kernel
theorem dX4_slack_29 : decode cX4_slack 29 = .ok (.iconst 0, 1) := by decide +kernel
theorem dX4_slack_30 : decode cX4_slack 30 = .ok (.bipush 9, 2) := by decide +kernel
theorem dX4_slack_32 : decode cX4_slack 32 = .ok (.invokestatic 99, 3) := by decide +kernel
theorem dX4_slack_35 : decode cX4_slack 35 = .ok (.ireturn, 1) := by decide +kernel
theorem dX4_worth_0 : decode cX4_worth 0 = .ok (.aload_n 0, 1) := by decide +kernel
theorem dX4_worth_1 : decode cX4_worth 1 = .ok (.iconst (-1), 1) := by decide +kernel
theorem dX4_worth_2 : decode cX4_worth 2 = .ok (.aload_n 0, 1) := by decide +kernel
theorem dX4_worth_3 : decode cX4_worth 3 = .ok (.getfield 30, 3) := by decide +kernel
theorem dX4_worth_6 : decode cX4_worth 6 = .ok (.invokevirtual 56, 3) := by decide +kernel
theorem dX4_worth_9 : decode cX4_worth 9 = .ok (.aload_n 0, 1) := by decide +kernel
theorem dX4_worth_10 : decode cX4_worth 10 = .ok (.bipush (-2), 2) := by decide +kernel
theorem dX4_worth_12 : decode cX4_worth 12 = .ok (.aload_n 0, 1) := by decide +kernel
theorem dX4_worth_13 : decode cX4_worth 13 = .ok (.getfield 33, 3) := by decide +kernel
theorem dX4_worth_16 : decode cX4_worth 16 = .ok (.invokevirtual 56, 3) := by decide +kernel
theorem dX4_worth_19 : decode cX4_worth 19 = .ok (.aload_n 1, 1) := by decide +kernel
theorem dX4_worth_20 : decode cX4_worth 20 = .ok (.iconst 1, 1) := by decide +kernel
theorem dX4_worth_21 : decode cX4_worth 21 = .ok (.aload_n 0, 1) := by decide +kernel
theorem dX4_worth_22 : decode cX4_worth 22 = .ok (.getfield 17, 3) := by decide +kernel
theorem dX4_worth_25 : decode cX4_worth 25 = .ok (.aload_n 0, 1) := by decide +kernel
theorem dX4_worth_26 : decode cX4_worth 26 = .ok (.getfield 20, 3) := by decide +kernel
theorem dX4_worth_29 : decode cX4_worth 29 = .ok (.invokevirtual 93, 3) := by decide +kernel
theorem dX4_worth_32 : decode cX4_worth 32 = .ok (.sipush (-999), 3) := by decide +kernel
theorem dX4_worth_35 : decode cX4_worth 35 = .ok (.sipush 999, 3) := by decide +kernel
theorem dX4_worth_38 : decode cX4_worth 38 = .ok (.invokestatic 99, 3) := by decide +kernel
theorem dX4_worth_41 : decode cX4_worth 41 = .ok (.ireturn, 1) := by decide +kernel
theorem dX4_spills_0 : decode cX4_spills 0 = .ok (.aload_n 0, 1) := by decide +kernel
theorem dX4_spills_1 : decode cX4_spills 1 = .ok (.iconst (-1), 1) := by decide +kernel
theorem dX4_spills_2 : decode cX4_spills 2 = .ok (.aload_n 0, 1) := by decide +kernel
theorem dX4_spills_3 : decode cX4_spills 3 = .ok (.getfield 30, 3) := by decide +kernel
theorem dX4_spills_6 : decode cX4_spills 6 = .ok (.invokevirtual 56, 3) := by decide +kernel
theorem dX4_spills_9 : decode cX4_spills 9 = .ok (.aload_n 0, 1) := by decide +kernel
theorem dX4_spills_10 : decode cX4_spills 10 = .ok (.bipush (-2), 2) := by decide +kernel
theorem dX4_spills_12 : decode cX4_spills 12 = .ok (.aload_n 0, 1) := by decide +kernel
theorem dX4_spills_13 : decode cX4_spills 13 = .ok (.getfield 33, 3) := by decide +kernel
theorem dX4_spills_16 : decode cX4_spills 16 = .ok (.invokevirtual 56, 3) := by decide +kernel
theorem dX4_spills_19 : decode cX4_spills 19 = .ok (.aload_n 1, 1) := by decide +kernel
theorem dX4_spills_20 : decode cX4_spills 20 = .ok (.iconst 2, 1) := by decide +kernel
theorem dX4_spills_21 : decode cX4_spills 21 = .ok (.aload_n 0, 1) := by decide +kernel
theorem dX4_spills_22 : decode cX4_spills 22 = .ok (.getfield 17, 3) := by decide +kernel
theorem dX4_spills_25 : decode cX4_spills 25 = .ok (.aload_n 0, 1) := by decide +kernel
theorem dX4_spills_26 : decode cX4_spills 26 = .ok (.getfield 20, 3) := by decide +kernel
theorem dX4_spills_29 : decode cX4_spills 29 = .ok (.invokevirtual 93, 3) := by decide +kernel
theorem dX4_spills_32 : decode cX4_spills 32 = .ok (.iconst 0, 1) := by decide +kernel
theorem dX4_spills_33 : decode cX4_spills 33 = .ok (.bipush 99, 2) := by decide +kernel
theorem dX4_spills_35 : decode cX4_spills 35 = .ok (.invokestatic 99, 3) := by decide +kernel
theorem dX4_spills_38 : decode cX4_spills 38 = .ok (.ireturn, 1) := by decide +kernel
theorem dX4_isFirm_0 : decode cX4_isFirm 0 = .ok (.aload_n 0, 1) := by decide +kernel
theorem dX4_isFirm_1 : decode cX4_isFirm 1 = .ok (.getfield 30, 3) := by decide +kernel
theorem dX4_isFirm_4 : decode cX4_isFirm 4 = .ok (.ifCond .ne 7, 3) := by decide +kernel
theorem dX4_isFirm_7 : decode cX4_isFirm 7 = .ok (.iconst 1, 1) := by decide +kernel
theorem dX4_isFirm_8 : decode cX4_isFirm 8 = .ok (.goto 4, 3) := by decide +kernel
theorem dX4_isFirm_11 : decode cX4_isFirm 11 = .ok (.iconst 0, 1) := by decide +kernel
theorem dX4_isFirm_12 : decode cX4_isFirm 12 = .ok (.ireturn, 1) := by decide +kernel
theorem dX4_firstBearing_0 : decode cX4_firstBearing 0 = .ok (.aload_n 0, 1) := by decide +kernel
theorem dX4_firstBearing_1 : decode cX4_firstBearing 1 = .ok (.getfield 23, 3) := by decide +kernel
theorem dX4_firstBearing_4 : decode cX4_firstBearing 4 = .ok (.ifCond .ge 7, 3) := by decide +kernel
theorem dX4_firstBearing_7 : decode cX4_firstBearing 7 = .ok (.iconst 1, 1) := by decide +kernel
theorem dX4_firstBearing_8 : decode cX4_firstBearing 8 = .ok (.goto 4, 3) := by decide +kernel
theorem dX4_firstBearing_11 : decode cX4_firstBearing 11 = .ok (.iconst 0, 1) := by decide +kernel
theorem dX4_firstBearing_12 : decode cX4_firstBearing 12 = .ok (.ireturn, 1) := by decide +kernel
theorem dX4_firstLoose_0 : decode cX4_firstLoose 0 = .ok (.aload_n 0, 1) := by decide +kernel
theorem dX4_firstLoose_1 : decode cX4_firstLoose 1 = .ok (.getfield 23, 3) := by decide +kernel
theorem dX4_firstLoose_4 : decode cX4_firstLoose 4 = .ok (.ifCond .ge 7, 3) := by decide +kernel
theorem dX4_firstLoose_7 : decode cX4_firstLoose 7 = .ok (.iconst 0, 1) := by decide +kernel
theorem dX4_firstLoose_8 : decode cX4_firstLoose 8 = .ok (.goto 4, 3) := by decide +kernel
theorem dX4_firstLoose_11 : decode cX4_firstLoose 11 = .ok (.iconst 1, 1) := by decide +kernel
theorem dX4_firstLoose_12 : decode cX4_firstLoose 12 = .ok (.ireturn, 1) := by decide +kernel
theorem dX4_looseBits_0 : decode cX4_looseBits 0 = .ok (.aload_n 0, 1) := by decide +kernel
theorem dX4_looseBits_1 : decode cX4_looseBits 1 = .ok (.getfield 23, 3) := by decide +kernel
theorem dX4_looseBits_4 : decode cX4_looseBits 4 = .ok (.ifCond .ne 5, 3) := by decide +kernel
theorem dX4_looseBits_7 : decode cX4_looseBits 7 = .ok (.iconst 0, 1) := by decide +kernel
theorem dX4_looseBits_8 : decode cX4_looseBits 8 = .ok (.ireturn, 1) := by decide +kernel
theorem dX4_looseBits_9 : decode cX4_looseBits 9 = .ok (.aload_n 0, 1) := by decide +kernel
theorem dX4_looseBits_10 : decode cX4_looseBits 10 = .ok (.getfield 23, 3) := by decide +kernel
theorem dX4_looseBits_13 : decode cX4_looseBits 13 = .ok (.ifCond .le 8, 3) := by decide +kernel
theorem dX4_looseBits_16 : decode cX4_looseBits 16 = .ok (.bipush 10, 2) := by decide +kernel
theorem dX4_looseBits_18 : decode cX4_looseBits 18 = .ok (.goto 4, 3) := by decide +kernel
theorem dX4_looseBits_21 : decode cX4_looseBits 21 = .ok (.iconst 5, 1) := by decide +kernel
theorem dX4_looseBits_22 : decode cX4_looseBits 22 = .ok (.ireturn, 1) := by decide +kernel
theorem dX4_knock_0 : decode cX4_knock 0 = .ok (.aload_n 0, 1) := by decide +kernel
theorem dX4_knock_1 : decode cX4_knock 1 = .ok (.invokevirtual 102, 3) := by decide +kernel
theorem dX4_knock_4 : decode cX4_knock 4 = .ok (.ifCond .eq 5, 3) := by decide +kernel
theorem dX4_knock_7 : decode cX4_knock 7 = .ok (.iconst 0, 1) := by decide +kernel
theorem dX4_knock_8 : decode cX4_knock 8 = .ok (.ireturn, 1) := by decide +kernel
theorem dX4_knock_9 : decode cX4_knock 9 = .ok (.aload_n 0, 1) := by decide +kernel
theorem dX4_knock_10 : decode cX4_knock 10 = .ok (.getfield 23, 3) := by decide +kernel
theorem dX4_knock_13 : decode cX4_knock 13 = .ok (.ifCond .le 7, 3) := by decide +kernel
theorem dX4_knock_16 : decode cX4_knock 16 = .ok (.iconst 1, 1) := by decide +kernel
theorem dX4_knock_17 : decode cX4_knock 17 = .ok (.goto 4, 3) := by decide +kernel
theorem dX4_knock_20 : decode cX4_knock 20 = .ok (.iconst 2, 1) := by decide +kernel
theorem dX4_knock_21 : decode cX4_knock 21 = .ok (.ireturn, 1) := by decide +kernel
theorem dX5_init_0 : decode cX5_init 0 = .ok (.aload_n 0, 1) := by decide +kernel
theorem dX5_init_1 : decode cX5_init 1 = .ok (.invokespecial 3, 3) := by decide +kernel
theorem dX5_init_4 : decode cX5_init 4 = .ok (.aload_n 0, 1) := by decide +kernel
theorem dX5_init_5 : decode cX5_init 5 = .ok (.bipush 64, 2) := by decide +kernel
theorem dX5_init_7 : decode cX5_init 7 = .ok (.newarray .int, 2) := by decide +kernel
theorem dX5_init_9 : decode cX5_init 9 = .ok (.putfield 9, 3) := by decide +kernel
theorem dX5_init_12 : decode cX5_init 12 = .ok (.aload_n 0, 1) := by decide +kernel
theorem dX5_init_13 : decode cX5_init 13 = .ok (.iconst 4, 1) := by decide +kernel
theorem dX5_init_14 : decode cX5_init 14 = .ok (.anewarray 15, 3) := by decide +kernel
theorem dX5_init_17 : decode cX5_init 17 = .ok (.putfield 17, 3) := by decide +kernel
theorem dX5_init_20 : decode cX5_init 20 = .ok (.aload_n 0, 1) := by decide +kernel
theorem dX5_init_21 : decode cX5_init 21 = .ok (.bipush 27, 2) := by decide +kernel
theorem dX5_init_23 : decode cX5_init 23 = .ok (.putfield 21, 3) := by decide +kernel
theorem dX5_init_26 : decode cX5_init 26 = .ok (.aload_n 0, 1) := by decide +kernel
theorem dX5_init_27 : decode cX5_init 27 = .ok (.iconst 1, 1) := by decide +kernel
theorem dX5_init_28 : decode cX5_init 28 = .ok (.putfield 25, 3) := by decide +kernel
theorem dX5_init_31 : decode cX5_init 31 = .ok (.aload_n 0, 1) := by decide +kernel
theorem dX5_init_32 : decode cX5_init 32 = .ok (.iconst 0, 1) := by decide +kernel
theorem dX5_init_33 : decode cX5_init 33 = .ok (.putfield 28, 3) := by decide +kernel
theorem dX5_init_36 : decode cX5_init 36 = .ok (.aload_n 0, 1) := by decide +kernel
theorem dX5_init_37 : decode cX5_init 37 = .ok (.iconst 0, 1) := by decide +kernel
theorem dX5_init_38 : decode cX5_init 38 = .ok (.putfield 31, 3) := by decide +kernel
theorem dX5_init_41 : decode cX5_init 41 = .ok (.aload_n 0, 1) := by decide +kernel
theorem dX5_init_42 : decode cX5_init 42 = .ok (.iconst 0, 1) := by decide +kernel
theorem dX5_init_43 : decode cX5_init 43 = .ok (.putfield 34, 3) := by decide +kernel
theorem dX5_init_46 : decode cX5_init 46 = .ok (.iconst 0, 1) := by decide +kernel
theorem dX5_init_47 : decode cX5_init 47 = .ok (.istore_n 1, 1) := by decide +kernel
theorem dX5_init_48 : decode cX5_init 48 = .ok (.iload_n 1, 1) := by decide +kernel
theorem dX5_init_49 : decode cX5_init 49 = .ok (.iconst 4, 1) := by decide +kernel
theorem dX5_init_50 : decode cX5_init 50 = .ok (.if_icmp .ge 22, 3) := by decide +kernel
theorem dX5_init_53 : decode cX5_init 53 = .ok (.aload_n 0, 1) := by decide +kernel
theorem dX5_init_54 : decode cX5_init 54 = .ok (.getfield 17, 3) := by decide +kernel
theorem dX5_init_57 : decode cX5_init 57 = .ok (.iload_n 1, 1) := by decide +kernel
theorem dX5_init_58 : decode cX5_init 58 = .ok (.new 15, 3) := by decide +kernel
theorem dX5_init_61 : decode cX5_init 61 = .ok (.dup, 1) := by decide +kernel
theorem dX5_init_62 : decode cX5_init 62 = .ok (.invokespecial 37, 3) := by decide +kernel
theorem dX5_init_65 : decode cX5_init 65 = .ok (.aastore, 1) := by decide +kernel
theorem dX5_init_66 : decode cX5_init 66 = .ok (.iinc 1 1, 3) := by decide +kernel
theorem dX5_init_69 : decode cX5_init 69 = .ok (.goto (-21), 3) := by decide +kernel
theorem dX5_init_72 : decode cX5_init 72 = .ok (.return_, 1) := by decide +kernel
theorem dX5_cellBeneath_0 : decode cX5_cellBeneath 0 = .ok (.iload_n 3, 1) := by decide +kernel
theorem dX5_cellBeneath_1 : decode cX5_cellBeneath 1 = .ok (.iconst 2, 1) := by decide +kernel
theorem dX5_cellBeneath_2 : decode cX5_cellBeneath 2 = .ok (.iload_n 1, 1) := by decide +kernel
theorem dX5_cellBeneath_3 : decode cX5_cellBeneath 3 = .ok (.imul, 1) := by decide +kernel
theorem dX5_cellBeneath_4 : decode cX5_cellBeneath 4 = .ok (.iadd, 1) := by decide +kernel
theorem dX5_cellBeneath_5 : decode cX5_cellBeneath 5 = .ok (.invokestatic 38, 3) := by decide +kernel
theorem dX5_cellBeneath_8 : decode cX5_cellBeneath 8 = .ok (.istore 4, 2) := by decide +kernel
theorem dX5_cellBeneath_10 : decode cX5_cellBeneath 10 = .ok (.iload_n 2, 1) := by decide +kernel
theorem dX5_cellBeneath_11 : decode cX5_cellBeneath 11 = .ok (.bipush 8, 2) := by decide +kernel
theorem dX5_cellBeneath_13 : decode cX5_cellBeneath 13 = .ok (.idiv, 1) := by decide +kernel
theorem dX5_cellBeneath_14 : decode cX5_cellBeneath 14 = .ok (.aload_n 0, 1) := by decide +kernel
theorem dX5_cellBeneath_15 : decode cX5_cellBeneath 15 = .ok (.getfield 25, 3) := by decide +kernel
theorem dX5_cellBeneath_18 : decode cX5_cellBeneath 18 = .ok (.getstatic 42, 3) := by decide +kernel
theorem dX5_cellBeneath_21 : decode cX5_cellBeneath 21 = .ok (.iload 4, 2) := by decide +kernel
theorem dX5_cellBeneath_23 : decode cX5_cellBeneath 23 = .ok (.iaload, 1) := by decide +kernel
theorem dX5_cellBeneath_24 : decode cX5_cellBeneath 24 = .ok (.imul, 1) := by decide +kernel
theorem dX5_cellBeneath_25 : decode cX5_cellBeneath 25 = .ok (.iadd, 1) := by decide +kernel
theorem dX5_cellBeneath_26 : decode cX5_cellBeneath 26 = .ok (.iconst 0, 1) := by decide +kernel
theorem dX5_cellBeneath_27 : decode cX5_cellBeneath 27 = .ok (.bipush 7, 2) := by decide +kernel
theorem dX5_cellBeneath_29 : decode cX5_cellBeneath 29 = .ok (.invokestatic 45, 3) := by decide +kernel
theorem dX5_cellBeneath_32 : decode cX5_cellBeneath 32 = .ok (.istore 5, 2) := by decide +kernel
theorem dX5_cellBeneath_34 : decode cX5_cellBeneath 34 = .ok (.iload_n 2, 1) := by decide +kernel
theorem dX5_cellBeneath_35 : decode cX5_cellBeneath 35 = .ok (.bipush 8, 2) := by decide +kernel
theorem dX5_cellBeneath_37 : decode cX5_cellBeneath 37 = .ok (.irem, 1) := by decide +kernel
theorem dX5_cellBeneath_38 : decode cX5_cellBeneath 38 = .ok (.aload_n 0, 1) := by decide +kernel
theorem dX5_cellBeneath_39 : decode cX5_cellBeneath 39 = .ok (.getfield 25, 3) := by decide +kernel
theorem dX5_cellBeneath_42 : decode cX5_cellBeneath 42 = .ok (.getstatic 49, 3) := by decide +kernel
theorem dX5_cellBeneath_45 : decode cX5_cellBeneath 45 = .ok (.iload 4, 2) := by decide +kernel
theorem dX5_cellBeneath_47 : decode cX5_cellBeneath 47 = .ok (.iaload, 1) := by decide +kernel
theorem dX5_cellBeneath_48 : decode cX5_cellBeneath 48 = .ok (.imul, 1) := by decide +kernel
theorem dX5_cellBeneath_49 : decode cX5_cellBeneath 49 = .ok (.iadd, 1) := by decide +kernel
theorem dX5_cellBeneath_50 : decode cX5_cellBeneath 50 = .ok (.iconst 0, 1) := by decide +kernel
theorem dX5_cellBeneath_51 : decode cX5_cellBeneath 51 = .ok (.bipush 7, 2) := by decide +kernel
theorem dX5_cellBeneath_53 : decode cX5_cellBeneath 53 = .ok (.invokestatic 45, 3) := by decide +kernel
theorem dX5_cellBeneath_56 : decode cX5_cellBeneath 56 = .ok (.istore 6, 2) := by decide +kernel
theorem dX5_cellBeneath_58 : decode cX5_cellBeneath 58 = .ok (.iload 5, 2) := by decide +kernel
theorem dX5_cellBeneath_60 : decode cX5_cellBeneath 60 = .ok (.bipush 8, 2) := by decide +kernel
theorem dX5_cellBeneath_62 : decode cX5_cellBeneath 62 = .ok (.imul, 1) := by decide +kernel
theorem dX5_cellBeneath_63 : decode cX5_cellBeneath 63 = .ok (.iload 6, 2) := by decide +kernel
theorem dX5_cellBeneath_65 : decode cX5_cellBeneath 65 = .ok (.iadd, 1) := by decide +kernel
theorem dX5_cellBeneath_66 : decode cX5_cellBeneath 66 = .ok (.ireturn, 1) := by decide +kernel
theorem dX5_heightOf_0 : decode cX5_heightOf 0 = .ok (.aload_n 0, 1) := by decide +kernel
theorem dX5_heightOf_1 : decode cX5_heightOf 1 = .ok (.getfield 9, 3) := by decide +kernel
theorem dX5_heightOf_4 : decode cX5_heightOf 4 = .ok (.aload_n 0, 1) := by decide +kernel
theorem dX5_heightOf_5 : decode cX5_heightOf 5 = .ok (.iload_n 1, 1) := by decide +kernel
theorem dX5_heightOf_6 : decode cX5_heightOf 6 = .ok (.iload_n 2, 1) := by decide +kernel
theorem dX5_heightOf_7 : decode cX5_heightOf 7 = .ok (.iload_n 3, 1) := by decide +kernel
theorem dX5_heightOf_8 : decode cX5_heightOf 8 = .ok (.invokevirtual 52, 3) := by decide +kernel
theorem dX5_heightOf_11 : decode cX5_heightOf 11 = .ok (.iaload, 1) := by decide +kernel
theorem dX5_heightOf_12 : decode cX5_heightOf 12 = .ok (.aload_n 0, 1) := by decide +kernel
theorem dX5_heightOf_13 : decode cX5_heightOf 13 = .ok (.getfield 17, 3) := by decide +kernel
theorem dX5_heightOf_16 : decode cX5_heightOf 16 = .ok (.iload_n 1, 1) := by decide +kernel
theorem dX5_heightOf_17 : decode cX5_heightOf 17 = .ok (.aaload, 1) := by decide +kernel
theorem dX5_heightOf_18 : decode cX5_heightOf 18 = .ok (.aload_n 0, 1) := by decide +kernel
theorem dX5_heightOf_19 : decode cX5_heightOf 19 = .ok (.getfield 31, 3) := by decide +kernel
theorem dX5_heightOf_22 : decode cX5_heightOf 22 = .ok (.invokevirtual 55, 3) := by decide +kernel
theorem dX5_heightOf_25 : decode cX5_heightOf 25 = .ok (.iadd, 1) := by decide +kernel
theorem dX5_heightOf_26 : decode cX5_heightOf 26 = .ok (.ireturn, 1) := by decide +kernel
theorem dX5_becomeLike_0 : decode cX5_becomeLike 0 = .ok (.aload_n 1, 1) := by decide +kernel
theorem dX5_becomeLike_1 : decode cX5_becomeLike 1 = .ok (.getfield 9, 3) := by decide +kernel
theorem dX5_becomeLike_4 : decode cX5_becomeLike 4 = .ok (.iconst 0, 1) := by decide +kernel
theorem dX5_becomeLike_5 : decode cX5_becomeLike 5 = .ok (.aload_n 0, 1) := by decide +kernel
theorem dX5_becomeLike_6 : decode cX5_becomeLike 6 = .ok (.getfield 9, 3) := by decide +kernel
theorem dX5_becomeLike_9 : decode cX5_becomeLike 9 = .ok (.iconst 0, 1) := by decide +kernel
theorem dX5_becomeLike_10 : decode cX5_becomeLike 10 = .ok (.bipush 64, 2) := by decide +kernel
theorem dX5_becomeLike_12 : decode cX5_becomeLike 12 = .ok (.invokestatic 58, 3) := by decide +kernel
theorem dX5_becomeLike_15 : decode cX5_becomeLike 15 = .ok (.iconst 0, 1) := by decide +kernel
theorem dX5_becomeLike_16 : decode cX5_becomeLike 16 = .ok (.istore_n 2, 1) := by decide +kernel
theorem dX5_becomeLike_17 : decode cX5_becomeLike 17 = .ok (.iload_n 2, 1) := by decide +kernel
theorem dX5_becomeLike_18 : decode cX5_becomeLike 18 = .ok (.iconst 4, 1) := by decide +kernel
theorem dX5_becomeLike_19 : decode cX5_becomeLike 19 = .ok (.if_icmp .ge 45, 3) := by decide +kernel
theorem dX5_becomeLike_22 : decode cX5_becomeLike 22 = .ok (.aload_n 0, 1) := by decide +kernel
theorem dX5_becomeLike_23 : decode cX5_becomeLike 23 = .ok (.getfield 17, 3) := by decide +kernel
theorem dX5_becomeLike_26 : decode cX5_becomeLike 26 = .ok (.iload_n 2, 1) := by decide +kernel
theorem dX5_becomeLike_27 : decode cX5_becomeLike 27 = .ok (.aaload, 1) := by decide +kernel
theorem dX5_becomeLike_28 : decode cX5_becomeLike 28 = .ok (.aload_n 1, 1) := by decide +kernel
theorem dX5_becomeLike_29 : decode cX5_becomeLike 29 = .ok (.getfield 17, 3) := by decide +kernel
theorem dX5_becomeLike_32 : decode cX5_becomeLike 32 = .ok (.iload_n 2, 1) := by decide +kernel
theorem dX5_becomeLike_33 : decode cX5_becomeLike 33 = .ok (.aaload, 1) := by decide +kernel
theorem dX5_becomeLike_34 : decode cX5_becomeLike 34 = .ok (.getfield 64, 3) := by decide +kernel
theorem dX5_becomeLike_37 : decode cX5_becomeLike 37 = .ok (.putfield 64, 3) := by decide +kernel
theorem dX5_becomeLike_40 : decode cX5_becomeLike 40 = .ok (.aload_n 0, 1) := by decide +kernel
theorem dX5_becomeLike_41 : decode cX5_becomeLike 41 = .ok (.getfield 17, 3) := by decide +kernel
theorem dX5_becomeLike_44 : decode cX5_becomeLike 44 = .ok (.iload_n 2, 1) := by decide +kernel
theorem dX5_becomeLike_45 : decode cX5_becomeLike 45 = .ok (.aaload, 1) := by decide +kernel
theorem dX5_becomeLike_46 : decode cX5_becomeLike 46 = .ok (.aload_n 1, 1) := by decide +kernel
theorem dX5_becomeLike_47 : decode cX5_becomeLike 47 = .ok (.getfield 17, 3) := by decide +kernel
theorem dX5_becomeLike_50 : decode cX5_becomeLike 50 = .ok (.iload_n 2, 1) := by decide +kernel
theorem dX5_becomeLike_51 : decode cX5_becomeLike 51 = .ok (.aaload, 1) := by decide +kernel
theorem dX5_becomeLike_52 : decode cX5_becomeLike 52 = .ok (.getfield 67, 3) := by decide +kernel
theorem dX5_becomeLike_55 : decode cX5_becomeLike 55 = .ok (.putfield 67, 3) := by decide +kernel
theorem dX5_becomeLike_58 : decode cX5_becomeLike 58 = .ok (.iinc 2 1, 3) := by decide +kernel
theorem dX5_becomeLike_61 : decode cX5_becomeLike 61 = .ok (.goto (-44), 3) := by decide +kernel
theorem dX5_becomeLike_64 : decode cX5_becomeLike 64 = .ok (.aload_n 0, 1) := by decide +kernel
theorem dX5_becomeLike_65 : decode cX5_becomeLike 65 = .ok (.aload_n 1, 1) := by decide +kernel
theorem dX5_becomeLike_66 : decode cX5_becomeLike 66 = .ok (.getfield 21, 3) := by decide +kernel
theorem dX5_becomeLike_69 : decode cX5_becomeLike 69 = .ok (.putfield 21, 3) := by decide +kernel
theorem dX5_becomeLike_72 : decode cX5_becomeLike 72 = .ok (.aload_n 0, 1) := by decide +kernel
theorem dX5_becomeLike_73 : decode cX5_becomeLike 73 = .ok (.aload_n 1, 1) := by decide +kernel
theorem dX5_becomeLike_74 : decode cX5_becomeLike 74 = .ok (.getfield 25, 3) := by decide +kernel
theorem dX5_becomeLike_77 : decode cX5_becomeLike 77 = .ok (.putfield 25, 3) := by decide +kernel
theorem dX5_becomeLike_80 : decode cX5_becomeLike 80 = .ok (.aload_n 0, 1) := by decide +kernel
theorem dX5_becomeLike_81 : decode cX5_becomeLike 81 = .ok (.aload_n 1, 1) := by decide +kernel
theorem dX5_becomeLike_82 : decode cX5_becomeLike 82 = .ok (.getfield 28, 3) := by decide +kernel
theorem dX5_becomeLike_85 : decode cX5_becomeLike 85 = .ok (.putfield 28, 3) := by decide +kernel
theorem dX5_becomeLike_88 : decode cX5_becomeLike 88 = .ok (.aload_n 0, 1) := by decide +kernel
theorem dX5_becomeLike_89 : decode cX5_becomeLike 89 = .ok (.aload_n 1, 1) := by decide +kernel
theorem dX5_becomeLike_90 : decode cX5_becomeLike 90 = .ok (.getfield 31, 3) := by decide +kernel
theorem dX5_becomeLike_93 : decode cX5_becomeLike 93 = .ok (.putfield 31, 3) := by decide +kernel
theorem dX5_becomeLike_96 : decode cX5_becomeLike 96 = .ok (.aload_n 0, 1) := by decide +kernel
theorem dX5_becomeLike_97 : decode cX5_becomeLike 97 = .ok (.aload_n 1, 1) := by decide +kernel
theorem dX5_becomeLike_98 : decode cX5_becomeLike 98 = .ok (.getfield 34, 3) := by decide +kernel
theorem dX5_becomeLike_101 : decode cX5_becomeLike 101 = .ok (.putfield 34, 3) := by decide +kernel
theorem dX5_becomeLike_104 : decode cX5_becomeLike 104 = .ok (.return_, 1) := by decide +kernel
theorem dX6_isName_0 : decode cX6_isName 0 = .ok (.iload_n 0, 1) := by decide +kernel
theorem dX6_isName_1 : decode cX6_isName 1 = .ok (.invokestatic 7, 3) := by decide +kernel
theorem dX6_isName_4 : decode cX6_isName 4 = .ok (.iconst 0, 1) := by decide +kernel
theorem dX6_isName_5 : decode cX6_isName 5 = .ok (.iconst 5, 1) := by decide +kernel
theorem dX6_isName_6 : decode cX6_isName 6 = .ok (.invokestatic 13, 3) := by decide +kernel
theorem dX6_isName_9 : decode cX6_isName 9 = .ok (.ireturn, 1) := by decide +kernel
theorem dX6_nameIndex_0 : decode cX6_nameIndex 0 = .ok (.iconst (-1), 1) := by decide +kernel
theorem dX6_nameIndex_1 : decode cX6_nameIndex 1 = .ok (.iload_n 0, 1) := by decide +kernel
theorem dX6_nameIndex_2 : decode cX6_nameIndex 2 = .ok (.isub, 1) := by decide +kernel
theorem dX6_nameIndex_3 : decode cX6_nameIndex 3 = .ok (.ireturn, 1) := by decide +kernel
theorem dX6_ofSign_0 : decode cX6_ofSign 0 = .ok (.iload_n 0, 1) := by decide +kernel
theorem dX6_ofSign_1 : decode cX6_ofSign 1 = .ok (.tableswitch 124 40 61 #[103, 105, 115, 109, 124, 112, 124, 124, 124, 124, 124, 124, 124, 124, 124, 124, 124, 124, 124, 107, 118, 121], 103) := by decide +kernel
theorem dX6_ofSign_104 : decode cX6_ofSign 104 = .ok (.iconst 3, 1) := by decide +kernel
theorem dX6_ofSign_105 : decode cX6_ofSign 105 = .ok (.ireturn, 1) := by decide +kernel
theorem dX6_ofSign_106 : decode cX6_ofSign 106 = .ok (.iconst 4, 1) := by decide +kernel
theorem dX6_ofSign_107 : decode cX6_ofSign 107 = .ok (.ireturn, 1) := by decide +kernel
theorem dX6_ofSign_108 : decode cX6_ofSign 108 = .ok (.iconst 5, 1) := by decide +kernel
theorem dX6_ofSign_109 : decode cX6_ofSign 109 = .ok (.ireturn, 1) := by decide +kernel
theorem dX6_ofSign_110 : decode cX6_ofSign 110 = .ok (.bipush (-12), 2) := by decide +kernel
theorem dX6_ofSign_112 : decode cX6_ofSign 112 = .ok (.ireturn, 1) := by decide +kernel
theorem dX6_ofSign_113 : decode cX6_ofSign 113 = .ok (.bipush (-13), 2) := by decide +kernel
theorem dX6_ofSign_115 : decode cX6_ofSign 115 = .ok (.ireturn, 1) := by decide +kernel
theorem dX6_ofSign_116 : decode cX6_ofSign 116 = .ok (.bipush (-14), 2) := by decide +kernel
theorem dX6_ofSign_118 : decode cX6_ofSign 118 = .ok (.ireturn, 1) := by decide +kernel
theorem dX6_ofSign_119 : decode cX6_ofSign 119 = .ok (.bipush (-10), 2) := by decide +kernel
theorem dX6_ofSign_121 : decode cX6_ofSign 121 = .ok (.ireturn, 1) := by decide +kernel
theorem dX6_ofSign_122 : decode cX6_ofSign 122 = .ok (.bipush (-11), 2) := by decide +kernel
theorem dX6_ofSign_124 : decode cX6_ofSign 124 = .ok (.ireturn, 1) := by decide +kernel
theorem dX6_ofSign_125 : decode cX6_ofSign 125 = .ok (.iconst 1, 1) := by decide +kernel
theorem dX6_ofSign_126 : decode cX6_ofSign 126 = .ok (.ireturn, 1) := by decide +kernel
theorem dX7_init_0 : decode cX7_init 0 = .ok (.aload_n 0, 1) := by decide +kernel
theorem dX7_init_1 : decode cX7_init 1 = .ok (.invokespecial 1, 3) := by decide +kernel
theorem dX7_init_4 : decode cX7_init 4 = .ok (.aload_n 0, 1) := by decide +kernel
theorem dX7_init_5 : decode cX7_init 5 = .ok (.new 7, 3) := by decide +kernel
theorem dX7_init_8 : decode cX7_init 8 = .ok (.dup, 1) := by decide +kernel
theorem dX7_init_9 : decode cX7_init 9 = .ok (.invokespecial 9, 3) := by decide +kernel
theorem dX7_init_12 : decode cX7_init 12 = .ok (.putfield 10, 3) := by decide +kernel
theorem dX7_init_15 : decode cX7_init 15 = .ok (.aload_n 0, 1) := by decide +kernel
theorem dX7_init_16 : decode cX7_init 16 = .ok (.new 7, 3) := by decide +kernel
theorem dX7_init_19 : decode cX7_init 19 = .ok (.dup, 1) := by decide +kernel
theorem dX7_init_20 : decode cX7_init 20 = .ok (.invokespecial 9, 3) := by decide +kernel
theorem dX7_init_23 : decode cX7_init 23 = .ok (.putfield 16, 3) := by decide +kernel
theorem dX7_init_26 : decode cX7_init 26 = .ok (.aload_n 0, 1) := by decide +kernel
theorem dX7_init_27 : decode cX7_init 27 = .ok (.iconst 0, 1) := by decide +kernel
theorem dX7_init_28 : decode cX7_init 28 = .ok (.putfield 19, 3) := by decide +kernel
theorem dX7_init_31 : decode cX7_init 31 = .ok (.aload_n 0, 1) := by decide +kernel
theorem dX7_init_32 : decode cX7_init 32 = .ok (.new 23, 3) := by decide +kernel
theorem dX7_init_35 : decode cX7_init 35 = .ok (.dup, 1) := by decide +kernel
theorem dX7_init_36 : decode cX7_init 36 = .ok (.invokespecial 25, 3) := by decide +kernel
theorem dX7_init_39 : decode cX7_init 39 = .ok (.putfield 26, 3) := by decide +kernel
theorem dX7_init_42 : decode cX7_init 42 = .ok (.aload_n 0, 1) := by decide +kernel
theorem dX7_init_43 : decode cX7_init 43 = .ok (.bipush 6, 2) := by decide +kernel
theorem dX7_init_45 : decode cX7_init 45 = .ok (.anewarray 30, 3) := by decide +kernel
theorem dX7_init_48 : decode cX7_init 48 = .ok (.putfield 32, 3) := by decide +kernel
theorem dX7_init_51 : decode cX7_init 51 = .ok (.aload_n 0, 1) := by decide +kernel
theorem dX7_init_52 : decode cX7_init 52 = .ok (.iconst 0, 1) := by decide +kernel
theorem dX7_init_53 : decode cX7_init 53 = .ok (.putfield 36, 3) := by decide +kernel
theorem dX7_init_56 : decode cX7_init 56 = .ok (.aload_n 0, 1) := by decide +kernel
theorem dX7_init_57 : decode cX7_init 57 = .ok (.new 40, 3) := by decide +kernel
theorem dX7_init_60 : decode cX7_init 60 = .ok (.dup, 1) := by decide +kernel
theorem dX7_init_61 : decode cX7_init 61 = .ok (.invokespecial 42, 3) := by decide +kernel
theorem dX7_init_64 : decode cX7_init 64 = .ok (.putfield 43, 3) := by decide +kernel
theorem dX7_init_67 : decode cX7_init 67 = .ok (.aload_n 0, 1) := by decide +kernel
theorem dX7_init_68 : decode cX7_init 68 = .ok (.iconst 4, 1) := by decide +kernel
theorem dX7_init_69 : decode cX7_init 69 = .ok (.anewarray 47, 3) := by decide +kernel
theorem dX7_init_72 : decode cX7_init 72 = .ok (.putfield 49, 3) := by decide +kernel
theorem dX7_init_75 : decode cX7_init 75 = .ok (.iconst 0, 1) := by decide +kernel
theorem dX7_init_76 : decode cX7_init 76 = .ok (.istore_n 1, 1) := by decide +kernel
theorem dX7_init_77 : decode cX7_init 77 = .ok (.iload_n 1, 1) := by decide +kernel
theorem dX7_init_78 : decode cX7_init 78 = .ok (.bipush 6, 2) := by decide +kernel
theorem dX7_init_80 : decode cX7_init 80 = .ok (.if_icmp .ge 22, 3) := by decide +kernel
theorem dX7_init_83 : decode cX7_init 83 = .ok (.aload_n 0, 1) := by decide +kernel
theorem dX7_init_84 : decode cX7_init 84 = .ok (.getfield 32, 3) := by decide +kernel
theorem dX7_init_87 : decode cX7_init 87 = .ok (.iload_n 1, 1) := by decide +kernel
theorem dX7_init_88 : decode cX7_init 88 = .ok (.new 30, 3) := by decide +kernel
theorem dX7_init_91 : decode cX7_init 91 = .ok (.dup, 1) := by decide +kernel
theorem dX7_init_92 : decode cX7_init 92 = .ok (.invokespecial 53, 3) := by decide +kernel
theorem dX7_init_95 : decode cX7_init 95 = .ok (.aastore, 1) := by decide +kernel
theorem dX7_init_96 : decode cX7_init 96 = .ok (.iinc 1 1, 3) := by decide +kernel
theorem dX7_init_99 : decode cX7_init 99 = .ok (.goto (-22), 3) := by decide +kernel
theorem dX7_init_102 : decode cX7_init 102 = .ok (.iconst 0, 1) := by decide +kernel
theorem dX7_init_103 : decode cX7_init 103 = .ok (.istore_n 1, 1) := by decide +kernel
theorem dX7_init_104 : decode cX7_init 104 = .ok (.iload_n 1, 1) := by decide +kernel
theorem dX7_init_105 : decode cX7_init 105 = .ok (.iconst 4, 1) := by decide +kernel
theorem dX7_init_106 : decode cX7_init 106 = .ok (.if_icmp .ge 22, 3) := by decide +kernel
theorem dX7_init_109 : decode cX7_init 109 = .ok (.aload_n 0, 1) := by decide +kernel
theorem dX7_init_110 : decode cX7_init 110 = .ok (.getfield 49, 3) := by decide +kernel
theorem dX7_init_113 : decode cX7_init 113 = .ok (.iload_n 1, 1) := by decide +kernel
theorem dX7_init_114 : decode cX7_init 114 = .ok (.new 47, 3) := by decide +kernel
theorem dX7_init_117 : decode cX7_init 117 = .ok (.dup, 1) := by decide +kernel
theorem dX7_init_118 : decode cX7_init 118 = .ok (.invokespecial 54, 3) := by decide +kernel
theorem dX7_init_121 : decode cX7_init 121 = .ok (.aastore, 1) := by decide +kernel
theorem dX7_init_122 : decode cX7_init 122 = .ok (.iinc 1 1, 3) := by decide +kernel
theorem dX7_init_125 : decode cX7_init 125 = .ok (.goto (-21), 3) := by decide +kernel
theorem dX7_init_128 : decode cX7_init 128 = .ok (.iconst 0, 1) := by decide +kernel
theorem dX7_init_129 : decode cX7_init 129 = .ok (.istore_n 1, 1) := by decide +kernel
theorem dX7_init_130 : decode cX7_init 130 = .ok (.iload_n 1, 1) := by decide +kernel
theorem dX7_init_131 : decode cX7_init 131 = .ok (.ldc 55, 2) := by decide +kernel
theorem dX7_init_133 : decode cX7_init 133 = .ok (.invokevirtual 57, 3) := by decide +kernel
theorem dX7_init_136 : decode cX7_init 136 = .ok (.if_icmp .ge 23, 3) := by decide +kernel
theorem dX7_init_139 : decode cX7_init 139 = .ok (.aload_n 0, 1) := by decide +kernel
theorem dX7_init_140 : decode cX7_init 140 = .ok (.getfield 26, 3) := by decide +kernel
theorem dX7_init_143 : decode cX7_init 143 = .ok (.ldc 55, 2) := by decide +kernel
theorem dX7_init_145 : decode cX7_init 145 = .ok (.iload_n 1, 1) := by decide +kernel
theorem dX7_init_146 : decode cX7_init 146 = .ok (.invokevirtual 63, 3) := by decide +kernel
theorem dX7_init_149 : decode cX7_init 149 = .ok (.invokevirtual 67, 3) := by decide +kernel
theorem dX7_init_152 : decode cX7_init 152 = .ok (.pop, 1) := by decide +kernel
theorem dX7_init_153 : decode cX7_init 153 = .ok (.iinc 1 1, 3) := by decide +kernel
theorem dX7_init_156 : decode cX7_init 156 = .ok (.goto (-26), 3) := by decide +kernel
theorem dX7_init_159 : decode cX7_init 159 = .ok (.aload_n 0, 1) := by decide +kernel
theorem dX7_init_160 : decode cX7_init 160 = .ok (.invokevirtual 71, 3) := by decide +kernel
theorem dX7_init_163 : decode cX7_init 163 = .ok (.pop, 1) := by decide +kernel
theorem dX7_init_164 : decode cX7_init 164 = .ok (.return_, 1) := by decide +kernel
theorem dX7_floor_0 : decode cX7_floor 0 = .ok (.iload_n 1, 1) := by decide +kernel
theorem dX7_floor_1 : decode cX7_floor 1 = .ok (.iconst 0, 1) := by decide +kernel
theorem dX7_floor_2 : decode cX7_floor 2 = .ok (.bipush 63, 2) := by decide +kernel
theorem dX7_floor_4 : decode cX7_floor 4 = .ok (.invokestatic 74, 3) := by decide +kernel
theorem dX7_floor_7 : decode cX7_floor 7 = .ok (.ifCond .eq 13, 3) := by decide +kernel
theorem dX7_floor_10 : decode cX7_floor 10 = .ok (.iload_n 2, 1) := by decide +kernel
theorem dX7_floor_11 : decode cX7_floor 11 = .ok (.iconst 0, 1) := by decide +kernel
theorem dX7_floor_12 : decode cX7_floor 12 = .ok (.bipush 99, 2) := by decide +kernel
theorem dX7_floor_14 : decode cX7_floor 14 = .ok (.invokestatic 74, 3) := by decide +kernel
theorem dX7_floor_17 : decode cX7_floor 17 = .ok (.ifCond .ne 6, 3) := by decide +kernel
theorem dX7_floor_20 : decode cX7_floor 20 = .ok (.bipush (-2), 2) := by decide +kernel
theorem dX7_floor_22 : decode cX7_floor 22 = .ok (.ireturn, 1) := by decide +kernel
theorem dX7_floor_23 : decode cX7_floor 23 = .ok (.aload_n 0, 1) := by decide +kernel
theorem dX7_floor_24 : decode cX7_floor 24 = .ok (.getfield 10, 3) := by decide +kernel
theorem dX7_floor_27 : decode cX7_floor 27 = .ok (.getfield 78, 3) := by decide +kernel
theorem dX7_floor_30 : decode cX7_floor 30 = .ok (.iload_n 1, 1) := by decide +kernel
theorem dX7_floor_31 : decode cX7_floor 31 = .ok (.iaload, 1) := by decide +kernel
theorem dX7_floor_32 : decode cX7_floor 32 = .ok (.istore_n 3, 1) := by decide +kernel
theorem dX7_floor_33 : decode cX7_floor 33 = .ok (.aload_n 0, 1) := by decide +kernel
theorem dX7_floor_34 : decode cX7_floor 34 = .ok (.getfield 10, 3) := by decide +kernel
theorem dX7_floor_37 : decode cX7_floor 37 = .ok (.getfield 78, 3) := by decide +kernel
theorem dX7_floor_40 : decode cX7_floor 40 = .ok (.iload_n 1, 1) := by decide +kernel
theorem dX7_floor_41 : decode cX7_floor 41 = .ok (.iload_n 2, 1) := by decide +kernel
theorem dX7_floor_42 : decode cX7_floor 42 = .ok (.iastore, 1) := by decide +kernel
theorem dX7_floor_43 : decode cX7_floor 43 = .ok (.iload_n 3, 1) := by decide +kernel
theorem dX7_floor_44 : decode cX7_floor 44 = .ok (.ireturn, 1) := by decide +kernel
theorem dX7_wave_0 : decode cX7_wave 0 = .ok (.iload_n 1, 1) := by decide +kernel
theorem dX7_wave_1 : decode cX7_wave 1 = .ok (.iconst 0, 1) := by decide +kernel
theorem dX7_wave_2 : decode cX7_wave 2 = .ok (.bipush 99, 2) := by decide +kernel
theorem dX7_wave_4 : decode cX7_wave 4 = .ok (.invokestatic 74, 3) := by decide +kernel
theorem dX7_wave_7 : decode cX7_wave 7 = .ok (.ifCond .eq 23, 3) := by decide +kernel
theorem dX7_wave_10 : decode cX7_wave 10 = .ok (.iload_n 2, 1) := by decide +kernel
theorem dX7_wave_11 : decode cX7_wave 11 = .ok (.iconst 0, 1) := by decide +kernel
theorem dX7_wave_12 : decode cX7_wave 12 = .ok (.bipush 99, 2) := by decide +kernel
theorem dX7_wave_14 : decode cX7_wave 14 = .ok (.invokestatic 74, 3) := by decide +kernel
theorem dX7_wave_17 : decode cX7_wave 17 = .ok (.ifCond .eq 13, 3) := by decide +kernel
theorem dX7_wave_20 : decode cX7_wave 20 = .ok (.iload_n 3, 1) := by decide +kernel
theorem dX7_wave_21 : decode cX7_wave 21 = .ok (.iconst 0, 1) := by decide +kernel
theorem dX7_wave_22 : decode cX7_wave 22 = .ok (.bipush 99, 2) := by decide +kernel
theorem dX7_wave_24 : decode cX7_wave 24 = .ok (.invokestatic 74, 3) := by decide +kernel
theorem dX7_wave_27 : decode cX7_wave 27 = .ok (.ifCond .ne 6, 3) := by decide +kernel
theorem dX7_wave_30 : decode cX7_wave 30 = .ok (.bipush (-2), 2) := by decide +kernel
theorem dX7_wave_32 : decode cX7_wave 32 = .ok (.ireturn, 1) := by decide +kernel
theorem dX7_wave_33 : decode cX7_wave 33 = .ok (.iconst 0, 1) := by decide +kernel
theorem dX7_wave_34 : decode cX7_wave 34 = .ok (.istore 4, 2) := by decide +kernel
theorem dX7_wave_36 : decode cX7_wave 36 = .ok (.iconst 0, 1) := by decide +kernel
theorem dX7_wave_37 : decode cX7_wave 37 = .ok (.istore 5, 2) := by decide +kernel
theorem dX7_wave_39 : decode cX7_wave 39 = .ok (.iload 5, 2) := by decide +kernel
theorem dX7_wave_41 : decode cX7_wave 41 = .ok (.bipush 64, 2) := by decide +kernel
theorem dX7_wave_43 : decode cX7_wave 43 = .ok (.if_icmp .ge 68, 3) := by decide +kernel
theorem dX7_wave_46 : decode cX7_wave 46 = .ok (.iload 5, 2) := by decide +kernel
theorem dX7_wave_48 : decode cX7_wave 48 = .ok (.bipush 8, 2) := by decide +kernel
theorem dX7_wave_50 : decode cX7_wave 50 = .ok (.idiv, 1) := by decide +kernel
theorem dX7_wave_51 : decode cX7_wave 51 = .ok (.istore 6, 2) := by decide +kernel
theorem dX7_wave_53 : decode cX7_wave 53 = .ok (.iload 5, 2) := by decide +kernel
theorem dX7_wave_55 : decode cX7_wave 55 = .ok (.bipush 8, 2) := by decide +kernel
theorem dX7_wave_57 : decode cX7_wave 57 = .ok (.irem, 1) := by decide +kernel
theorem dX7_wave_58 : decode cX7_wave 58 = .ok (.istore 7, 2) := by decide +kernel
theorem dX7_wave_60 : decode cX7_wave 60 = .ok (.aload_n 0, 1) := by decide +kernel
theorem dX7_wave_61 : decode cX7_wave 61 = .ok (.getfield 10, 3) := by decide +kernel
theorem dX7_wave_64 : decode cX7_wave 64 = .ok (.getfield 78, 3) := by decide +kernel
theorem dX7_wave_67 : decode cX7_wave 67 = .ok (.iload 5, 2) := by decide +kernel
theorem dX7_wave_69 : decode cX7_wave 69 = .ok (.iload 6, 2) := by decide +kernel
theorem dX7_wave_71 : decode cX7_wave 71 = .ok (.iload_n 1, 1) := by decide +kernel
theorem dX7_wave_72 : decode cX7_wave 72 = .ok (.imul, 1) := by decide +kernel
theorem dX7_wave_73 : decode cX7_wave 73 = .ok (.iload 7, 2) := by decide +kernel
theorem dX7_wave_75 : decode cX7_wave 75 = .ok (.iload_n 2, 1) := by decide +kernel
theorem dX7_wave_76 : decode cX7_wave 76 = .ok (.imul, 1) := by decide +kernel
theorem dX7_wave_77 : decode cX7_wave 77 = .ok (.iadd, 1) := by decide +kernel
theorem dX7_wave_78 : decode cX7_wave 78 = .ok (.iload 6, 2) := by decide +kernel
theorem dX7_wave_80 : decode cX7_wave 80 = .ok (.iload 7, 2) := by decide +kernel
theorem dX7_wave_82 : decode cX7_wave 82 = .ok (.imul, 1) := by decide +kernel
theorem dX7_wave_83 : decode cX7_wave 83 = .ok (.iload_n 3, 1) := by decide +kernel
theorem dX7_wave_84 : decode cX7_wave 84 = .ok (.imul, 1) := by decide +kernel
theorem dX7_wave_85 : decode cX7_wave 85 = .ok (.iadd, 1) := by decide +kernel
theorem dX7_wave_86 : decode cX7_wave 86 = .ok (.bipush 100, 2) := by decide +kernel
theorem dX7_wave_88 : decode cX7_wave 88 = .ok (.irem, 1) := by decide +kernel
theorem dX7_wave_89 : decode cX7_wave 89 = .ok (.iastore, 1) := by decide +kernel
theorem dX7_wave_90 : decode cX7_wave 90 = .ok (.iload 4, 2) := by decide +kernel
theorem dX7_wave_92 : decode cX7_wave 92 = .ok (.aload_n 0, 1) := by decide +kernel
theorem dX7_wave_93 : decode cX7_wave 93 = .ok (.getfield 10, 3) := by decide +kernel
theorem dX7_wave_96 : decode cX7_wave 96 = .ok (.getfield 78, 3) := by decide +kernel
theorem dX7_wave_99 : decode cX7_wave 99 = .ok (.iload 5, 2) := by decide +kernel
theorem dX7_wave_101 : decode cX7_wave 101 = .ok (.iaload, 1) := by decide +kernel
theorem dX7_wave_102 : decode cX7_wave 102 = .ok (.iadd, 1) := by decide +kernel
theorem dX7_wave_103 : decode cX7_wave 103 = .ok (.istore 4, 2) := by decide +kernel
theorem dX7_wave_105 : decode cX7_wave 105 = .ok (.iinc 5 1, 3) := by decide +kernel
theorem dX7_wave_108 : decode cX7_wave 108 = .ok (.goto (-69), 3) := by decide +kernel
theorem dX7_wave_111 : decode cX7_wave 111 = .ok (.iload 4, 2) := by decide +kernel
theorem dX7_wave_113 : decode cX7_wave 113 = .ok (.ireturn, 1) := by decide +kernel
theorem dX7_leg_0 : decode cX7_leg 0 = .ok (.iload_n 1, 1) := by decide +kernel
theorem dX7_leg_1 : decode cX7_leg 1 = .ok (.invokestatic 82, 3) := by decide +kernel
theorem dX7_leg_4 : decode cX7_leg 4 = .ok (.ifCond .eq 20, 3) := by decide +kernel
theorem dX7_leg_7 : decode cX7_leg 7 = .ok (.iload_n 2, 1) := by decide +kernel
theorem dX7_leg_8 : decode cX7_leg 8 = .ok (.invokestatic 85, 3) := by decide +kernel
theorem dX7_leg_11 : decode cX7_leg 11 = .ok (.ifCond .eq 13, 3) := by decide +kernel
theorem dX7_leg_14 : decode cX7_leg 14 = .ok (.iload_n 3, 1) := by decide +kernel
theorem dX7_leg_15 : decode cX7_leg 15 = .ok (.iconst 0, 1) := by decide +kernel
theorem dX7_leg_16 : decode cX7_leg 16 = .ok (.bipush 9, 2) := by decide +kernel
theorem dX7_leg_18 : decode cX7_leg 18 = .ok (.invokestatic 74, 3) := by decide +kernel
theorem dX7_leg_21 : decode cX7_leg 21 = .ok (.ifCond .ne 6, 3) := by decide +kernel
theorem dX7_leg_24 : decode cX7_leg 24 = .ok (.bipush (-2), 2) := by decide +kernel
theorem dX7_leg_26 : decode cX7_leg 26 = .ok (.ireturn, 1) := by decide +kernel
theorem dX7_leg_27 : decode cX7_leg 27 = .ok (.aload_n 0, 1) := by decide +kernel
theorem dX7_leg_28 : decode cX7_leg 28 = .ok (.getfield 10, 3) := by decide +kernel
theorem dX7_leg_31 : decode cX7_leg 31 = .ok (.getfield 88, 3) := by decide +kernel
theorem dX7_leg_34 : decode cX7_leg 34 = .ok (.iload_n 1, 1) := by decide +kernel
theorem dX7_leg_35 : decode cX7_leg 35 = .ok (.aaload, 1) := by decide +kernel
theorem dX7_leg_36 : decode cX7_leg 36 = .ok (.getfield 92, 3) := by decide +kernel
theorem dX7_leg_39 : decode cX7_leg 39 = .ok (.istore 4, 2) := by decide +kernel
theorem dX7_leg_41 : decode cX7_leg 41 = .ok (.aload_n 0, 1) := by decide +kernel
theorem dX7_leg_42 : decode cX7_leg 42 = .ok (.getfield 10, 3) := by decide +kernel
theorem dX7_leg_45 : decode cX7_leg 45 = .ok (.getfield 88, 3) := by decide +kernel
theorem dX7_leg_48 : decode cX7_leg 48 = .ok (.iload_n 1, 1) := by decide +kernel
theorem dX7_leg_49 : decode cX7_leg 49 = .ok (.aaload, 1) := by decide +kernel
theorem dX7_leg_50 : decode cX7_leg 50 = .ok (.iload_n 2, 1) := by decide +kernel
theorem dX7_leg_51 : decode cX7_leg 51 = .ok (.putfield 92, 3) := by decide +kernel
theorem dX7_leg_54 : decode cX7_leg 54 = .ok (.aload_n 0, 1) := by decide +kernel
theorem dX7_leg_55 : decode cX7_leg 55 = .ok (.getfield 10, 3) := by decide +kernel
theorem dX7_leg_58 : decode cX7_leg 58 = .ok (.getfield 88, 3) := by decide +kernel
theorem dX7_leg_61 : decode cX7_leg 61 = .ok (.iload_n 1, 1) := by decide +kernel
theorem dX7_leg_62 : decode cX7_leg 62 = .ok (.aaload, 1) := by decide +kernel
theorem dX7_leg_63 : decode cX7_leg 63 = .ok (.iload_n 3, 1) := by decide +kernel
theorem dX7_leg_64 : decode cX7_leg 64 = .ok (.putfield 97, 3) := by decide +kernel
theorem dX7_leg_67 : decode cX7_leg 67 = .ok (.iload 4, 2) := by decide +kernel
theorem dX7_leg_69 : decode cX7_leg 69 = .ok (.ireturn, 1) := by decide +kernel
theorem dX7_set_0 : decode cX7_set 0 = .ok (.iload_n 1, 1) := by decide +kernel
theorem dX7_set_1 : decode cX7_set 1 = .ok (.tableswitch 54 0 5 #[39, 39, 47, 47, 47, 47], 39) := by decide +kernel
theorem dX7_set_40 : decode cX7_set 40 = .ok (.aload_n 0, 1) := by decide +kernel
theorem dX7_set_41 : decode cX7_set 41 = .ok (.iload_n 1, 1) := by decide +kernel
theorem dX7_set_42 : decode cX7_set 42 = .ok (.iload_n 2, 1) := by decide +kernel
theorem dX7_set_43 : decode cX7_set 43 = .ok (.iload_n 3, 1) := by decide +kernel
theorem dX7_set_44 : decode cX7_set 44 = .ok (.invokevirtual 100, 3) := by decide +kernel
theorem dX7_set_47 : decode cX7_set 47 = .ok (.ireturn, 1) := by decide +kernel
theorem dX7_set_48 : decode cX7_set 48 = .ok (.aload_n 0, 1) := by decide +kernel
theorem dX7_set_49 : decode cX7_set 49 = .ok (.iload_n 1, 1) := by decide +kernel
theorem dX7_set_50 : decode cX7_set 50 = .ok (.iload_n 3, 1) := by decide +kernel
theorem dX7_set_51 : decode cX7_set 51 = .ok (.invokevirtual 104, 3) := by decide +kernel
theorem dX7_set_54 : decode cX7_set 54 = .ok (.ireturn, 1) := by decide +kernel
theorem dX7_set_55 : decode cX7_set 55 = .ok (.bipush (-2), 2) := by decide +kernel
theorem dX7_set_57 : decode cX7_set 57 = .ok (.ireturn, 1) := by decide +kernel
theorem dX7_told_0 : decode cX7_told 0 = .ok (.iload_n 2, 1) := by decide +kernel
theorem dX7_told_1 : decode cX7_told 1 = .ok (.bipush 6, 2) := by decide +kernel
theorem dX7_told_3 : decode cX7_told 3 = .ok (.if_icmp .ne 28, 3) := by decide +kernel
theorem dX7_told_6 : decode cX7_told 6 = .ok (.iload_n 1, 1) := by decide +kernel
theorem dX7_told_7 : decode cX7_told 7 = .ok (.iconst 0, 1) := by decide +kernel
theorem dX7_told_8 : decode cX7_told 8 = .ok (.bipush 63, 2) := by decide +kernel
theorem dX7_told_10 : decode cX7_told 10 = .ok (.invokestatic 74, 3) := by decide +kernel
theorem dX7_told_13 : decode cX7_told 13 = .ok (.ifCond .eq 15, 3) := by decide +kernel
theorem dX7_told_16 : decode cX7_told 16 = .ok (.aload_n 0, 1) := by decide +kernel
theorem dX7_told_17 : decode cX7_told 17 = .ok (.getfield 10, 3) := by decide +kernel
theorem dX7_told_20 : decode cX7_told 20 = .ok (.getfield 78, 3) := by decide +kernel
theorem dX7_told_23 : decode cX7_told 23 = .ok (.iload_n 1, 1) := by decide +kernel
theorem dX7_told_24 : decode cX7_told 24 = .ok (.iaload, 1) := by decide +kernel
theorem dX7_told_25 : decode cX7_told 25 = .ok (.goto 5, 3) := by decide +kernel
theorem dX7_told_28 : decode cX7_told 28 = .ok (.bipush (-2), 2) := by decide +kernel
theorem dX7_told_30 : decode cX7_told 30 = .ok (.ireturn, 1) := by decide +kernel
theorem dX7_told_31 : decode cX7_told 31 = .ok (.iload_n 1, 1) := by decide +kernel
theorem dX7_told_32 : decode cX7_told 32 = .ok (.invokestatic 82, 3) := by decide +kernel
theorem dX7_told_35 : decode cX7_told 35 = .ok (.ifCond .ne 6, 3) := by decide +kernel
theorem dX7_told_38 : decode cX7_told 38 = .ok (.bipush (-2), 2) := by decide +kernel
theorem dX7_told_40 : decode cX7_told 40 = .ok (.ireturn, 1) := by decide +kernel
theorem dX7_told_41 : decode cX7_told 41 = .ok (.iload_n 2, 1) := by decide +kernel
theorem dX7_told_42 : decode cX7_told 42 = .ok (.tableswitch 143 0 5 #[38, 51, 64, 77, 97, 120], 38) := by decide +kernel
theorem dX7_told_80 : decode cX7_told 80 = .ok (.aload_n 0, 1) := by decide +kernel
theorem dX7_told_81 : decode cX7_told 81 = .ok (.getfield 10, 3) := by decide +kernel
theorem dX7_told_84 : decode cX7_told 84 = .ok (.getfield 88, 3) := by decide +kernel
theorem dX7_told_87 : decode cX7_told 87 = .ok (.iload_n 1, 1) := by decide +kernel
theorem dX7_told_88 : decode cX7_told 88 = .ok (.aaload, 1) := by decide +kernel
theorem dX7_told_89 : decode cX7_told 89 = .ok (.getfield 92, 3) := by decide +kernel
theorem dX7_told_92 : decode cX7_told 92 = .ok (.ireturn, 1) := by decide +kernel
theorem dX7_told_93 : decode cX7_told 93 = .ok (.aload_n 0, 1) := by decide +kernel
theorem dX7_told_94 : decode cX7_told 94 = .ok (.getfield 10, 3) := by decide +kernel
theorem dX7_told_97 : decode cX7_told 97 = .ok (.getfield 88, 3) := by decide +kernel
theorem dX7_told_100 : decode cX7_told 100 = .ok (.iload_n 1, 1) := by decide +kernel
theorem dX7_told_101 : decode cX7_told 101 = .ok (.aaload, 1) := by decide +kernel
theorem dX7_told_102 : decode cX7_told 102 = .ok (.getfield 108, 3) := by decide +kernel
theorem dX7_told_105 : decode cX7_told 105 = .ok (.ireturn, 1) := by decide +kernel
theorem dX7_told_106 : decode cX7_told 106 = .ok (.aload_n 0, 1) := by decide +kernel
theorem dX7_told_107 : decode cX7_told 107 = .ok (.getfield 10, 3) := by decide +kernel
theorem dX7_told_110 : decode cX7_told 110 = .ok (.getfield 88, 3) := by decide +kernel
theorem dX7_told_113 : decode cX7_told 113 = .ok (.iload_n 1, 1) := by decide +kernel
theorem dX7_told_114 : decode cX7_told 114 = .ok (.aaload, 1) := by decide +kernel
theorem dX7_told_115 : decode cX7_told 115 = .ok (.getfield 97, 3) := by decide +kernel
theorem dX7_told_118 : decode cX7_told 118 = .ok (.ireturn, 1) := by decide +kernel
theorem dX7_told_119 : decode cX7_told 119 = .ok (.aload_n 0, 1) := by decide +kernel
theorem dX7_told_120 : decode cX7_told 120 = .ok (.getfield 10, 3) := by decide +kernel
theorem dX7_told_123 : decode cX7_told 123 = .ok (.getfield 88, 3) := by decide +kernel
theorem dX7_told_126 : decode cX7_told 126 = .ok (.iload_n 1, 1) := by decide +kernel
theorem dX7_told_127 : decode cX7_told 127 = .ok (.aaload, 1) := by decide +kernel
theorem dX7_told_128 : decode cX7_told 128 = .ok (.aload_n 0, 1) := by decide +kernel
theorem dX7_told_129 : decode cX7_told 129 = .ok (.getfield 10, 3) := by decide +kernel
theorem dX7_told_132 : decode cX7_told 132 = .ok (.getfield 110, 3) := by decide +kernel
theorem dX7_told_135 : decode cX7_told 135 = .ok (.invokevirtual 113, 3) := by decide +kernel
theorem dX7_told_138 : decode cX7_told 138 = .ok (.ireturn, 1) := by decide +kernel
theorem dX7_told_139 : decode cX7_told 139 = .ok (.aload_n 0, 1) := by decide +kernel
theorem dX7_told_140 : decode cX7_told 140 = .ok (.getfield 10, 3) := by decide +kernel
theorem dX7_told_143 : decode cX7_told 143 = .ok (.iload_n 1, 1) := by decide +kernel
theorem dX7_told_144 : decode cX7_told 144 = .ok (.aload_n 0, 1) := by decide +kernel
theorem dX7_told_145 : decode cX7_told 145 = .ok (.getfield 10, 3) := by decide +kernel
theorem dX7_told_148 : decode cX7_told 148 = .ok (.getfield 117, 3) := by decide +kernel
theorem dX7_told_151 : decode cX7_told 151 = .ok (.aload_n 0, 1) := by decide +kernel
theorem dX7_told_152 : decode cX7_told 152 = .ok (.getfield 10, 3) := by decide +kernel
theorem dX7_told_155 : decode cX7_told 155 = .ok (.getfield 120, 3) := by decide +kernel
theorem dX7_told_158 : decode cX7_told 158 = .ok (.invokevirtual 123, 3) := by decide +kernel
theorem dX7_told_161 : decode cX7_told 161 = .ok (.ireturn, 1) := by decide +kernel
theorem dX7_told_162 : decode cX7_told 162 = .ok (.aload_n 0, 1) := by decide +kernel
theorem dX7_told_163 : decode cX7_told 163 = .ok (.getfield 10, 3) := by decide +kernel
theorem dX7_told_166 : decode cX7_told 166 = .ok (.iload_n 1, 1) := by decide +kernel
theorem dX7_told_167 : decode cX7_told 167 = .ok (.aload_n 0, 1) := by decide +kernel
theorem dX7_told_168 : decode cX7_told 168 = .ok (.getfield 10, 3) := by decide +kernel
theorem dX7_told_171 : decode cX7_told 171 = .ok (.getfield 117, 3) := by decide +kernel
theorem dX7_told_174 : decode cX7_told 174 = .ok (.aload_n 0, 1) := by decide +kernel
theorem dX7_told_175 : decode cX7_told 175 = .ok (.getfield 10, 3) := by decide +kernel
theorem dX7_told_178 : decode cX7_told 178 = .ok (.getfield 120, 3) := by decide +kernel
theorem dX7_told_181 : decode cX7_told 181 = .ok (.invokevirtual 126, 3) := by decide +kernel
theorem dX7_told_184 : decode cX7_told 184 = .ok (.ireturn, 1) := by decide +kernel
theorem dX7_told_185 : decode cX7_told 185 = .ok (.bipush (-2), 2) := by decide +kernel
theorem dX7_told_187 : decode cX7_told 187 = .ok (.ireturn, 1) := by decide +kernel
theorem dX7_feed_0 : decode cX7_feed 0 = .ok (.iload_n 1, 1) := by decide +kernel
theorem dX7_feed_1 : decode cX7_feed 1 = .ok (.iconst 0, 1) := by decide +kernel
theorem dX7_feed_2 : decode cX7_feed 2 = .ok (.sipush 255, 3) := by decide +kernel
theorem dX7_feed_5 : decode cX7_feed 5 = .ok (.invokestatic 74, 3) := by decide +kernel
theorem dX7_feed_8 : decode cX7_feed 8 = .ok (.ifCond .ne 6, 3) := by decide +kernel
theorem dX7_feed_11 : decode cX7_feed 11 = .ok (.bipush (-2), 2) := by decide +kernel
theorem dX7_feed_13 : decode cX7_feed 13 = .ok (.ireturn, 1) := by decide +kernel
theorem dX7_feed_14 : decode cX7_feed 14 = .ok (.aload_n 0, 1) := by decide +kernel
theorem dX7_feed_15 : decode cX7_feed 15 = .ok (.getfield 26, 3) := by decide +kernel
theorem dX7_feed_18 : decode cX7_feed 18 = .ok (.iload_n 1, 1) := by decide +kernel
theorem dX7_feed_19 : decode cX7_feed 19 = .ok (.invokevirtual 67, 3) := by decide +kernel
theorem dX7_feed_22 : decode cX7_feed 22 = .ok (.ifCond .eq 13, 3) := by decide +kernel
theorem dX7_feed_25 : decode cX7_feed 25 = .ok (.aload_n 0, 1) := by decide +kernel
theorem dX7_feed_26 : decode cX7_feed 26 = .ok (.getfield 26, 3) := by decide +kernel
theorem dX7_feed_29 : decode cX7_feed 29 = .ok (.getfield 129, 3) := by decide +kernel
theorem dX7_feed_32 : decode cX7_feed 32 = .ok (.goto 5, 3) := by decide +kernel
theorem dX7_feed_35 : decode cX7_feed 35 = .ok (.bipush (-4), 2) := by decide +kernel
theorem dX7_feed_37 : decode cX7_feed 37 = .ok (.ireturn, 1) := by decide +kernel
theorem dX7_text_0 : decode cX7_text 0 = .ok (.aload_n 0, 1) := by decide +kernel
theorem dX7_text_1 : decode cX7_text 1 = .ok (.getfield 36, 3) := by decide +kernel
theorem dX7_text_4 : decode cX7_text 4 = .ok (.bipush 6, 2) := by decide +kernel
theorem dX7_text_6 : decode cX7_text 6 = .ok (.if_icmp .lt 6, 3) := by decide +kernel
theorem dX7_text_9 : decode cX7_text 9 = .ok (.bipush (-4), 2) := by decide +kernel
theorem dX7_text_11 : decode cX7_text 11 = .ok (.ireturn, 1) := by decide +kernel
theorem dX7_text_12 : decode cX7_text 12 = .ok (.aload_n 0, 1) := by decide +kernel
theorem dX7_text_13 : decode cX7_text 13 = .ok (.getfield 26, 3) := by decide +kernel
theorem dX7_text_16 : decode cX7_text 16 = .ok (.invokevirtual 132, 3) := by decide +kernel
theorem dX7_text_19 : decode cX7_text 19 = .ok (.istore_n 1, 1) := by decide +kernel
theorem dX7_text_20 : decode cX7_text 20 = .ok (.iload_n 1, 1) := by decide +kernel
theorem dX7_text_21 : decode cX7_text 21 = .ok (.iconst (-1), 1) := by decide +kernel
theorem dX7_text_22 : decode cX7_text 22 = .ok (.if_icmp .eq 8, 3) := by decide +kernel
theorem dX7_text_25 : decode cX7_text 25 = .ok (.bipush (-100), 2) := by decide +kernel
theorem dX7_text_27 : decode cX7_text 27 = .ok (.iload_n 1, 1) := by decide +kernel
theorem dX7_text_28 : decode cX7_text 28 = .ok (.isub, 1) := by decide +kernel
theorem dX7_text_29 : decode cX7_text 29 = .ok (.ireturn, 1) := by decide +kernel
theorem dX7_text_30 : decode cX7_text 30 = .ok (.aload_n 0, 1) := by decide +kernel
theorem dX7_text_31 : decode cX7_text 31 = .ok (.getfield 32, 3) := by decide +kernel
theorem dX7_text_34 : decode cX7_text 34 = .ok (.aload_n 0, 1) := by decide +kernel
theorem dX7_text_35 : decode cX7_text 35 = .ok (.getfield 36, 3) := by decide +kernel
theorem dX7_text_38 : decode cX7_text 38 = .ok (.aaload, 1) := by decide +kernel
theorem dX7_text_39 : decode cX7_text 39 = .ok (.aload_n 0, 1) := by decide +kernel
theorem dX7_text_40 : decode cX7_text 40 = .ok (.getfield 26, 3) := by decide +kernel
theorem dX7_text_43 : decode cX7_text 43 = .ok (.getfield 135, 3) := by decide +kernel
theorem dX7_text_46 : decode cX7_text 46 = .ok (.invokevirtual 139, 3) := by decide +kernel
theorem dX7_text_49 : decode cX7_text 49 = .ok (.aload_n 0, 1) := by decide +kernel
theorem dX7_text_50 : decode cX7_text 50 = .ok (.dup, 1) := by decide +kernel
theorem dX7_text_51 : decode cX7_text 51 = .ok (.getfield 36, 3) := by decide +kernel
theorem dX7_text_54 : decode cX7_text 54 = .ok (.iconst 1, 1) := by decide +kernel
theorem dX7_text_55 : decode cX7_text 55 = .ok (.iadd, 1) := by decide +kernel
theorem dX7_text_56 : decode cX7_text 56 = .ok (.putfield 36, 3) := by decide +kernel
theorem dX7_text_59 : decode cX7_text 59 = .ok (.aload_n 0, 1) := by decide +kernel
theorem dX7_text_60 : decode cX7_text 60 = .ok (.getfield 36, 3) := by decide +kernel
theorem dX7_text_63 : decode cX7_text 63 = .ok (.iconst 1, 1) := by decide +kernel
theorem dX7_text_64 : decode cX7_text 64 = .ok (.isub, 1) := by decide +kernel
theorem dX7_text_65 : decode cX7_text 65 = .ok (.ireturn, 1) := by decide +kernel
theorem dX7_force_0 : decode cX7_force 0 = .ok (.iload_n 1, 1) := by decide +kernel
theorem dX7_force_1 : decode cX7_force 1 = .ok (.iconst 0, 1) := by decide +kernel
theorem dX7_force_2 : decode cX7_force 2 = .ok (.aload_n 0, 1) := by decide +kernel
theorem dX7_force_3 : decode cX7_force 3 = .ok (.getfield 36, 3) := by decide +kernel
theorem dX7_force_6 : decode cX7_force 6 = .ok (.iconst 1, 1) := by decide +kernel
theorem dX7_force_7 : decode cX7_force 7 = .ok (.isub, 1) := by decide +kernel
theorem dX7_force_8 : decode cX7_force 8 = .ok (.invokestatic 74, 3) := by decide +kernel
theorem dX7_force_11 : decode cX7_force 11 = .ok (.ifCond .ne 6, 3) := by decide +kernel
theorem dX7_force_14 : decode cX7_force 14 = .ok (.bipush (-2), 2) := by decide +kernel
theorem dX7_force_16 : decode cX7_force 16 = .ok (.ireturn, 1) := by decide +kernel
theorem dX7_force_17 : decode cX7_force 17 = .ok (.aload_n 0, 1) := by decide +kernel
theorem dX7_force_18 : decode cX7_force 18 = .ok (.getfield 10, 3) := by decide +kernel
theorem dX7_force_21 : decode cX7_force 21 = .ok (.getfield 143, 3) := by decide +kernel
theorem dX7_force_24 : decode cX7_force 24 = .ok (.istore_n 2, 1) := by decide +kernel
theorem dX7_force_25 : decode cX7_force 25 = .ok (.aload_n 0, 1) := by decide +kernel
theorem dX7_force_26 : decode cX7_force 26 = .ok (.getfield 10, 3) := by decide +kernel
theorem dX7_force_29 : decode cX7_force 29 = .ok (.iload_n 1, 1) := by decide +kernel
theorem dX7_force_30 : decode cX7_force 30 = .ok (.putfield 143, 3) := by decide +kernel
theorem dX7_force_33 : decode cX7_force 33 = .ok (.iload_n 2, 1) := by decide +kernel
theorem dX7_force_34 : decode cX7_force 34 = .ok (.ireturn, 1) := by decide +kernel
theorem dX7_stands_0 : decode cX7_stands 0 = .ok (.aload_n 0, 1) := by decide +kernel
theorem dX7_stands_1 : decode cX7_stands 1 = .ok (.aload_n 0, 1) := by decide +kernel
theorem dX7_stands_2 : decode cX7_stands 2 = .ok (.getfield 10, 3) := by decide +kernel
theorem dX7_stands_5 : decode cX7_stands 5 = .ok (.getfield 117, 3) := by decide +kernel
theorem dX7_stands_8 : decode cX7_stands 8 = .ok (.aload_n 0, 1) := by decide +kernel
theorem dX7_stands_9 : decode cX7_stands 9 = .ok (.getfield 10, 3) := by decide +kernel
theorem dX7_stands_12 : decode cX7_stands 12 = .ok (.getfield 120, 3) := by decide +kernel
theorem dX7_stands_15 : decode cX7_stands 15 = .ok (.iload_n 1, 1) := by decide +kernel
theorem dX7_stands_16 : decode cX7_stands 16 = .ok (.invokevirtual 145, 3) := by decide +kernel
theorem dX7_stands_19 : decode cX7_stands 19 = .ok (.ireturn, 1) := by decide +kernel
theorem dX7_standsAt_0 : decode cX7_standsAt 0 = .ok (.iload_n 1, 1) := by decide +kernel
theorem dX7_standsAt_1 : decode cX7_standsAt 1 = .ok (.iconst 0, 1) := by decide +kernel
theorem dX7_standsAt_2 : decode cX7_standsAt 2 = .ok (.bipush 63, 2) := by decide +kernel
theorem dX7_standsAt_4 : decode cX7_standsAt 4 = .ok (.invokestatic 74, 3) := by decide +kernel
theorem dX7_standsAt_7 : decode cX7_standsAt 7 = .ok (.ifCond .eq 13, 3) := by decide +kernel
theorem dX7_standsAt_10 : decode cX7_standsAt 10 = .ok (.iload_n 2, 1) := by decide +kernel
theorem dX7_standsAt_11 : decode cX7_standsAt 11 = .ok (.iconst 0, 1) := by decide +kernel
theorem dX7_standsAt_12 : decode cX7_standsAt 12 = .ok (.bipush 7, 2) := by decide +kernel
theorem dX7_standsAt_14 : decode cX7_standsAt 14 = .ok (.invokestatic 74, 3) := by decide +kernel
theorem dX7_standsAt_17 : decode cX7_standsAt 17 = .ok (.ifCond .ne 6, 3) := by decide +kernel
theorem dX7_standsAt_20 : decode cX7_standsAt 20 = .ok (.ldc 148, 2) := by decide +kernel
theorem dX7_standsAt_22 : decode cX7_standsAt 22 = .ok (.ireturn, 1) := by decide +kernel
theorem dX7_standsAt_23 : decode cX7_standsAt 23 = .ok (.aload_n 0, 1) := by decide +kernel
theorem dX7_standsAt_24 : decode cX7_standsAt 24 = .ok (.iload_n 1, 1) := by decide +kernel
theorem dX7_standsAt_25 : decode cX7_standsAt 25 = .ok (.iload_n 2, 1) := by decide +kernel
theorem dX7_standsAt_26 : decode cX7_standsAt 26 = .ok (.iload_n 3, 1) := by decide +kernel
theorem dX7_standsAt_27 : decode cX7_standsAt 27 = .ok (.invokevirtual 145, 3) := by decide +kernel
theorem dX7_standsAt_30 : decode cX7_standsAt 30 = .ok (.ireturn, 1) := by decide +kernel
theorem dX7_firm_0 : decode cX7_firm 0 = .ok (.iconst 0, 1) := by decide +kernel
theorem dX7_firm_1 : decode cX7_firm 1 = .ok (.istore_n 1, 1) := by decide +kernel
theorem dX7_firm_2 : decode cX7_firm 2 = .ok (.iconst 0, 1) := by decide +kernel
theorem dX7_firm_3 : decode cX7_firm 3 = .ok (.istore_n 2, 1) := by decide +kernel
theorem dX7_firm_4 : decode cX7_firm 4 = .ok (.iload_n 2, 1) := by decide +kernel
theorem dX7_firm_5 : decode cX7_firm 5 = .ok (.bipush 8, 2) := by decide +kernel
theorem dX7_firm_7 : decode cX7_firm 7 = .ok (.if_icmp .ge 30, 3) := by decide +kernel
theorem dX7_firm_10 : decode cX7_firm 10 = .ok (.aload_n 0, 1) := by decide +kernel
theorem dX7_firm_11 : decode cX7_firm 11 = .ok (.aload_n 0, 1) := by decide +kernel
theorem dX7_firm_12 : decode cX7_firm 12 = .ok (.getfield 10, 3) := by decide +kernel
theorem dX7_firm_15 : decode cX7_firm 15 = .ok (.getfield 117, 3) := by decide +kernel
theorem dX7_firm_18 : decode cX7_firm 18 = .ok (.iload_n 2, 1) := by decide +kernel
theorem dX7_firm_19 : decode cX7_firm 19 = .ok (.invokevirtual 149, 3) := by decide +kernel
theorem dX7_firm_22 : decode cX7_firm 22 = .ok (.ifCond .eq 9, 3) := by decide +kernel
theorem dX7_firm_25 : decode cX7_firm 25 = .ok (.iload_n 1, 1) := by decide +kernel
theorem dX7_firm_26 : decode cX7_firm 26 = .ok (.iconst 1, 1) := by decide +kernel
theorem dX7_firm_27 : decode cX7_firm 27 = .ok (.iload_n 2, 1) := by decide +kernel
theorem dX7_firm_28 : decode cX7_firm 28 = .ok (.ishl, 1) := by decide +kernel
theorem dX7_firm_29 : decode cX7_firm 29 = .ok (.ior, 1) := by decide +kernel
theorem dX7_firm_30 : decode cX7_firm 30 = .ok (.istore_n 1, 1) := by decide +kernel
theorem dX7_firm_31 : decode cX7_firm 31 = .ok (.iinc 2 1, 3) := by decide +kernel
theorem dX7_firm_34 : decode cX7_firm 34 = .ok (.goto (-30), 3) := by decide +kernel
theorem dX7_firm_37 : decode cX7_firm 37 = .ok (.iload_n 1, 1) := by decide +kernel
theorem dX7_firm_38 : decode cX7_firm 38 = .ok (.ireturn, 1) := by decide +kernel
theorem dX7_fewest_0 : decode cX7_fewest 0 = .ok (.iload_n 1, 1) := by decide +kernel
theorem dX7_fewest_1 : decode cX7_fewest 1 = .ok (.iconst 0, 1) := by decide +kernel
theorem dX7_fewest_2 : decode cX7_fewest 2 = .ok (.iconst 1, 1) := by decide +kernel
theorem dX7_fewest_3 : decode cX7_fewest 3 = .ok (.invokestatic 74, 3) := by decide +kernel
theorem dX7_fewest_6 : decode cX7_fewest 6 = .ok (.ifCond .ne 6, 3) := by decide +kernel
theorem dX7_fewest_9 : decode cX7_fewest 9 = .ok (.bipush (-2), 2) := by decide +kernel
theorem dX7_fewest_11 : decode cX7_fewest 11 = .ok (.ireturn, 1) := by decide +kernel
theorem dX7_fewest_12 : decode cX7_fewest 12 = .ok (.iconst 0, 1) := by decide +kernel
theorem dX7_fewest_13 : decode cX7_fewest 13 = .ok (.istore_n 2, 1) := by decide +kernel
theorem dX7_fewest_14 : decode cX7_fewest 14 = .ok (.iload_n 2, 1) := by decide +kernel
theorem dX7_fewest_15 : decode cX7_fewest 15 = .ok (.iconst 4, 1) := by decide +kernel
theorem dX7_fewest_16 : decode cX7_fewest 16 = .ok (.if_icmp .gt 88, 3) := by decide +kernel
theorem dX7_fewest_19 : decode cX7_fewest 19 = .ok (.aload_n 0, 1) := by decide +kernel
theorem dX7_fewest_20 : decode cX7_fewest 20 = .ok (.getfield 10, 3) := by decide +kernel
theorem dX7_fewest_23 : decode cX7_fewest 23 = .ok (.getfield 120, 3) := by decide +kernel
theorem dX7_fewest_26 : decode cX7_fewest 26 = .ok (.iload_n 2, 1) := by decide +kernel
theorem dX7_fewest_27 : decode cX7_fewest 27 = .ok (.iadd, 1) := by decide +kernel
theorem dX7_fewest_28 : decode cX7_fewest 28 = .ok (.invokestatic 153, 3) := by decide +kernel
theorem dX7_fewest_31 : decode cX7_fewest 31 = .ok (.istore_n 3, 1) := by decide +kernel
theorem dX7_fewest_32 : decode cX7_fewest 32 = .ok (.aload_n 0, 1) := by decide +kernel
theorem dX7_fewest_33 : decode cX7_fewest 33 = .ok (.aload_n 0, 1) := by decide +kernel
theorem dX7_fewest_34 : decode cX7_fewest 34 = .ok (.getfield 10, 3) := by decide +kernel
theorem dX7_fewest_37 : decode cX7_fewest 37 = .ok (.getfield 117, 3) := by decide +kernel
theorem dX7_fewest_40 : decode cX7_fewest 40 = .ok (.iload_n 3, 1) := by decide +kernel
theorem dX7_fewest_41 : decode cX7_fewest 41 = .ok (.invokevirtual 149, 3) := by decide +kernel
theorem dX7_fewest_44 : decode cX7_fewest 44 = .ok (.ifCond .eq 13, 3) := by decide +kernel
theorem dX7_fewest_47 : decode cX7_fewest 47 = .ok (.iload_n 1, 1) := by decide +kernel
theorem dX7_fewest_48 : decode cX7_fewest 48 = .ok (.ifCond .ne 7, 3) := by decide +kernel
theorem dX7_fewest_51 : decode cX7_fewest 51 = .ok (.iload_n 2, 1) := by decide +kernel
theorem dX7_fewest_52 : decode cX7_fewest 52 = .ok (.goto 4, 3) := by decide +kernel
theorem dX7_fewest_55 : decode cX7_fewest 55 = .ok (.iload_n 3, 1) := by decide +kernel
theorem dX7_fewest_56 : decode cX7_fewest 56 = .ok (.ireturn, 1) := by decide +kernel
theorem dX7_fewest_57 : decode cX7_fewest 57 = .ok (.aload_n 0, 1) := by decide +kernel
theorem dX7_fewest_58 : decode cX7_fewest 58 = .ok (.getfield 10, 3) := by decide +kernel
theorem dX7_fewest_61 : decode cX7_fewest 61 = .ok (.getfield 120, 3) := by decide +kernel
theorem dX7_fewest_64 : decode cX7_fewest 64 = .ok (.iload_n 2, 1) := by decide +kernel
theorem dX7_fewest_65 : decode cX7_fewest 65 = .ok (.isub, 1) := by decide +kernel
theorem dX7_fewest_66 : decode cX7_fewest 66 = .ok (.invokestatic 153, 3) := by decide +kernel
theorem dX7_fewest_69 : decode cX7_fewest 69 = .ok (.istore 4, 2) := by decide +kernel
theorem dX7_fewest_71 : decode cX7_fewest 71 = .ok (.aload_n 0, 1) := by decide +kernel
theorem dX7_fewest_72 : decode cX7_fewest 72 = .ok (.aload_n 0, 1) := by decide +kernel
theorem dX7_fewest_73 : decode cX7_fewest 73 = .ok (.getfield 10, 3) := by decide +kernel
theorem dX7_fewest_76 : decode cX7_fewest 76 = .ok (.getfield 117, 3) := by decide +kernel
theorem dX7_fewest_79 : decode cX7_fewest 79 = .ok (.iload 4, 2) := by decide +kernel
theorem dX7_fewest_81 : decode cX7_fewest 81 = .ok (.invokevirtual 149, 3) := by decide +kernel
theorem dX7_fewest_84 : decode cX7_fewest 84 = .ok (.ifCond .eq 14, 3) := by decide +kernel
theorem dX7_fewest_87 : decode cX7_fewest 87 = .ok (.iload_n 1, 1) := by decide +kernel
theorem dX7_fewest_88 : decode cX7_fewest 88 = .ok (.ifCond .ne 7, 3) := by decide +kernel
theorem dX7_fewest_91 : decode cX7_fewest 91 = .ok (.iload_n 2, 1) := by decide +kernel
theorem dX7_fewest_92 : decode cX7_fewest 92 = .ok (.goto 5, 3) := by decide +kernel
theorem dX7_fewest_95 : decode cX7_fewest 95 = .ok (.iload 4, 2) := by decide +kernel
theorem dX7_fewest_97 : decode cX7_fewest 97 = .ok (.ireturn, 1) := by decide +kernel
theorem dX7_fewest_98 : decode cX7_fewest 98 = .ok (.iinc 2 1, 3) := by decide +kernel
theorem dX7_fewest_101 : decode cX7_fewest 101 = .ok (.goto (-87), 3) := by decide +kernel
theorem dX7_fewest_104 : decode cX7_fewest 104 = .ok (.iconst (-1), 1) := by decide +kernel
theorem dX7_fewest_105 : decode cX7_fewest 105 = .ok (.ireturn, 1) := by decide +kernel
theorem dX7_feels_0 : decode cX7_feels 0 = .ok (.iload_n 1, 1) := by decide +kernel
theorem dX7_feels_1 : decode cX7_feels 1 = .ok (.iconst 0, 1) := by decide +kernel
theorem dX7_feels_2 : decode cX7_feels 2 = .ok (.iconst 1, 1) := by decide +kernel
theorem dX7_feels_3 : decode cX7_feels 3 = .ok (.invokestatic 74, 3) := by decide +kernel
theorem dX7_feels_6 : decode cX7_feels 6 = .ok (.ifCond .ne 6, 3) := by decide +kernel
theorem dX7_feels_9 : decode cX7_feels 9 = .ok (.bipush (-2), 2) := by decide +kernel
theorem dX7_feels_11 : decode cX7_feels 11 = .ok (.ireturn, 1) := by decide +kernel
theorem dX7_feels_12 : decode cX7_feels 12 = .ok (.iconst 0, 1) := by decide +kernel
theorem dX7_feels_13 : decode cX7_feels 13 = .ok (.istore_n 2, 1) := by decide +kernel
theorem dX7_feels_14 : decode cX7_feels 14 = .ok (.aload_n 0, 1) := by decide +kernel
theorem dX7_feels_15 : decode cX7_feels 15 = .ok (.aload_n 0, 1) := by decide +kernel
theorem dX7_feels_16 : decode cX7_feels 16 = .ok (.getfield 10, 3) := by decide +kernel
theorem dX7_feels_19 : decode cX7_feels 19 = .ok (.getfield 117, 3) := by decide +kernel
theorem dX7_feels_22 : decode cX7_feels 22 = .ok (.aload_n 0, 1) := by decide +kernel
theorem dX7_feels_23 : decode cX7_feels 23 = .ok (.getfield 10, 3) := by decide +kernel
theorem dX7_feels_26 : decode cX7_feels 26 = .ok (.getfield 120, 3) := by decide +kernel
theorem dX7_feels_29 : decode cX7_feels 29 = .ok (.invokevirtual 156, 3) := by decide +kernel
theorem dX7_feels_32 : decode cX7_feels 32 = .ok (.aload_n 0, 1) := by decide +kernel
theorem dX7_feels_33 : decode cX7_feels 33 = .ok (.getfield 43, 3) := by decide +kernel
theorem dX7_feels_36 : decode cX7_feels 36 = .ok (.invokevirtual 160, 3) := by decide +kernel
theorem dX7_feels_39 : decode cX7_feels 39 = .ok (.istore_n 3, 1) := by decide +kernel
theorem dX7_feels_40 : decode cX7_feels 40 = .ok (.iload_n 2, 1) := by decide +kernel
theorem dX7_feels_41 : decode cX7_feels 41 = .ok (.bipush 8, 2) := by decide +kernel
theorem dX7_feels_43 : decode cX7_feels 43 = .ok (.if_icmp .ge 53, 3) := by decide +kernel
theorem dX7_feels_46 : decode cX7_feels 46 = .ok (.aload_n 0, 1) := by decide +kernel
theorem dX7_feels_47 : decode cX7_feels 47 = .ok (.getfield 43, 3) := by decide +kernel
theorem dX7_feels_50 : decode cX7_feels 50 = .ok (.invokevirtual 163, 3) := by decide +kernel
theorem dX7_feels_53 : decode cX7_feels 53 = .ok (.ifCond .ne 43, 3) := by decide +kernel
theorem dX7_feels_56 : decode cX7_feels 56 = .ok (.aload_n 0, 1) := by decide +kernel
theorem dX7_feels_57 : decode cX7_feels 57 = .ok (.getfield 43, 3) := by decide +kernel
theorem dX7_feels_60 : decode cX7_feels 60 = .ok (.invokevirtual 160, 3) := by decide +kernel
theorem dX7_feels_63 : decode cX7_feels 63 = .ok (.iload_n 3, 1) := by decide +kernel
theorem dX7_feels_64 : decode cX7_feels 64 = .ok (.if_icmp .ne 32, 3) := by decide +kernel
theorem dX7_feels_67 : decode cX7_feels 67 = .ok (.iinc 2 1, 3) := by decide +kernel
theorem dX7_feels_70 : decode cX7_feels 70 = .ok (.aload_n 0, 1) := by decide +kernel
theorem dX7_feels_71 : decode cX7_feels 71 = .ok (.aload_n 0, 1) := by decide +kernel
theorem dX7_feels_72 : decode cX7_feels 72 = .ok (.getfield 10, 3) := by decide +kernel
theorem dX7_feels_75 : decode cX7_feels 75 = .ok (.getfield 117, 3) := by decide +kernel
theorem dX7_feels_78 : decode cX7_feels 78 = .ok (.aload_n 0, 1) := by decide +kernel
theorem dX7_feels_79 : decode cX7_feels 79 = .ok (.getfield 10, 3) := by decide +kernel
theorem dX7_feels_82 : decode cX7_feels 82 = .ok (.getfield 120, 3) := by decide +kernel
theorem dX7_feels_85 : decode cX7_feels 85 = .ok (.iload_n 2, 1) := by decide +kernel
theorem dX7_feels_86 : decode cX7_feels 86 = .ok (.iadd, 1) := by decide +kernel
theorem dX7_feels_87 : decode cX7_feels 87 = .ok (.invokestatic 153, 3) := by decide +kernel
theorem dX7_feels_90 : decode cX7_feels 90 = .ok (.invokevirtual 156, 3) := by decide +kernel
theorem dX7_feels_93 : decode cX7_feels 93 = .ok (.goto (-53), 3) := by decide +kernel
theorem dX7_feels_96 : decode cX7_feels 96 = .ok (.iload_n 1, 1) := by decide +kernel
theorem dX7_feels_97 : decode cX7_feels 97 = .ok (.ifCond .ne 5, 3) := by decide +kernel
theorem dX7_feels_100 : decode cX7_feels 100 = .ok (.iload_n 2, 1) := by decide +kernel
theorem dX7_feels_101 : decode cX7_feels 101 = .ok (.ireturn, 1) := by decide +kernel
theorem dX7_feels_102 : decode cX7_feels 102 = .ok (.aload_n 0, 1) := by decide +kernel
theorem dX7_feels_103 : decode cX7_feels 103 = .ok (.getfield 43, 3) := by decide +kernel
theorem dX7_feels_106 : decode cX7_feels 106 = .ok (.invokevirtual 163, 3) := by decide +kernel
theorem dX7_feels_109 : decode cX7_feels 109 = .ok (.ifCond .eq 7, 3) := by decide +kernel
theorem dX7_feels_112 : decode cX7_feels 112 = .ok (.iconst 1, 1) := by decide +kernel
theorem dX7_feels_113 : decode cX7_feels 113 = .ok (.goto 4, 3) := by decide +kernel
theorem dX7_feels_116 : decode cX7_feels 116 = .ok (.iconst 0, 1) := by decide +kernel
theorem dX7_feels_117 : decode cX7_feels 117 = .ok (.ireturn, 1) := by decide +kernel
theorem dX7_best_0 : decode cX7_best 0 = .ok (.iload_n 1, 1) := by decide +kernel
theorem dX7_best_1 : decode cX7_best 1 = .ok (.iconst 0, 1) := by decide +kernel
theorem dX7_best_2 : decode cX7_best 2 = .ok (.iconst 2, 1) := by decide +kernel
theorem dX7_best_3 : decode cX7_best 3 = .ok (.invokestatic 74, 3) := by decide +kernel
theorem dX7_best_6 : decode cX7_best 6 = .ok (.ifCond .ne 6, 3) := by decide +kernel
theorem dX7_best_9 : decode cX7_best 9 = .ok (.ldc 148, 2) := by decide +kernel
theorem dX7_best_11 : decode cX7_best 11 = .ok (.ireturn, 1) := by decide +kernel
theorem dX7_best_12 : decode cX7_best 12 = .ok (.iconst 0, 1) := by decide +kernel
theorem dX7_best_13 : decode cX7_best 13 = .ok (.istore_n 2, 1) := by decide +kernel
theorem dX7_best_14 : decode cX7_best 14 = .ok (.aload_n 0, 1) := by decide +kernel
theorem dX7_best_15 : decode cX7_best 15 = .ok (.iconst 0, 1) := by decide +kernel
theorem dX7_best_16 : decode cX7_best 16 = .ok (.iconst 0, 1) := by decide +kernel
theorem dX7_best_17 : decode cX7_best 17 = .ok (.invokevirtual 167, 3) := by decide +kernel
theorem dX7_best_20 : decode cX7_best 20 = .ok (.istore_n 3, 1) := by decide +kernel
theorem dX7_best_21 : decode cX7_best 21 = .ok (.iconst 1, 1) := by decide +kernel
theorem dX7_best_22 : decode cX7_best 22 = .ok (.istore 4, 2) := by decide +kernel
theorem dX7_best_24 : decode cX7_best 24 = .ok (.iload 4, 2) := by decide +kernel
theorem dX7_best_26 : decode cX7_best 26 = .ok (.sipush 512, 3) := by decide +kernel
theorem dX7_best_29 : decode cX7_best 29 = .ok (.if_icmp .ge 37, 3) := by decide +kernel
theorem dX7_best_32 : decode cX7_best 32 = .ok (.aload_n 0, 1) := by decide +kernel
theorem dX7_best_33 : decode cX7_best 33 = .ok (.iload 4, 2) := by decide +kernel
theorem dX7_best_35 : decode cX7_best 35 = .ok (.bipush 8, 2) := by decide +kernel
theorem dX7_best_37 : decode cX7_best 37 = .ok (.idiv, 1) := by decide +kernel
theorem dX7_best_38 : decode cX7_best 38 = .ok (.iload 4, 2) := by decide +kernel
theorem dX7_best_40 : decode cX7_best 40 = .ok (.bipush 8, 2) := by decide +kernel
theorem dX7_best_42 : decode cX7_best 42 = .ok (.irem, 1) := by decide +kernel
theorem dX7_best_43 : decode cX7_best 43 = .ok (.invokevirtual 167, 3) := by decide +kernel
theorem dX7_best_46 : decode cX7_best 46 = .ok (.istore 5, 2) := by decide +kernel
theorem dX7_best_48 : decode cX7_best 48 = .ok (.iload 5, 2) := by decide +kernel
theorem dX7_best_50 : decode cX7_best 50 = .ok (.iload_n 3, 1) := by decide +kernel
theorem dX7_best_51 : decode cX7_best 51 = .ok (.if_icmp .le 9, 3) := by decide +kernel
theorem dX7_best_54 : decode cX7_best 54 = .ok (.iload 5, 2) := by decide +kernel
theorem dX7_best_56 : decode cX7_best 56 = .ok (.istore_n 3, 1) := by decide +kernel
theorem dX7_best_57 : decode cX7_best 57 = .ok (.iload 4, 2) := by decide +kernel
theorem dX7_best_59 : decode cX7_best 59 = .ok (.istore_n 2, 1) := by decide +kernel
theorem dX7_best_60 : decode cX7_best 60 = .ok (.iinc 4 1, 3) := by decide +kernel
theorem dX7_best_63 : decode cX7_best 63 = .ok (.goto (-39), 3) := by decide +kernel
theorem dX7_best_66 : decode cX7_best 66 = .ok (.iload_n 1, 1) := by decide +kernel
theorem dX7_best_67 : decode cX7_best 67 = .ok (.iconst 2, 1) := by decide +kernel
theorem dX7_best_68 : decode cX7_best 68 = .ok (.if_icmp .ne 5, 3) := by decide +kernel
theorem dX7_best_71 : decode cX7_best 71 = .ok (.iload_n 3, 1) := by decide +kernel
theorem dX7_best_72 : decode cX7_best 72 = .ok (.ireturn, 1) := by decide +kernel
theorem dX7_best_73 : decode cX7_best 73 = .ok (.iload_n 1, 1) := by decide +kernel
theorem dX7_best_74 : decode cX7_best 74 = .ok (.ifCond .ne 10, 3) := by decide +kernel
theorem dX7_best_77 : decode cX7_best 77 = .ok (.iload_n 2, 1) := by decide +kernel
theorem dX7_best_78 : decode cX7_best 78 = .ok (.bipush 8, 2) := by decide +kernel
theorem dX7_best_80 : decode cX7_best 80 = .ok (.idiv, 1) := by decide +kernel
theorem dX7_best_81 : decode cX7_best 81 = .ok (.goto 7, 3) := by decide +kernel
theorem dX7_best_84 : decode cX7_best 84 = .ok (.iload_n 2, 1) := by decide +kernel
theorem dX7_best_85 : decode cX7_best 85 = .ok (.bipush 8, 2) := by decide +kernel
theorem dX7_best_87 : decode cX7_best 87 = .ok (.irem, 1) := by decide +kernel
theorem dX7_best_88 : decode cX7_best 88 = .ok (.ireturn, 1) := by decide +kernel
theorem dX7_turn_0 : decode cX7_turn 0 = .ok (.iload_n 1, 1) := by decide +kernel
theorem dX7_turn_1 : decode cX7_turn 1 = .ok (.bipush (-7), 2) := by decide +kernel
theorem dX7_turn_3 : decode cX7_turn 3 = .ok (.bipush 7, 2) := by decide +kernel
theorem dX7_turn_5 : decode cX7_turn 5 = .ok (.invokestatic 74, 3) := by decide +kernel
theorem dX7_turn_8 : decode cX7_turn 8 = .ok (.ifCond .ne 6, 3) := by decide +kernel
theorem dX7_turn_11 : decode cX7_turn 11 = .ok (.bipush (-2), 2) := by decide +kernel
theorem dX7_turn_13 : decode cX7_turn 13 = .ok (.ireturn, 1) := by decide +kernel
theorem dX7_turn_14 : decode cX7_turn 14 = .ok (.aload_n 0, 1) := by decide +kernel
theorem dX7_turn_15 : decode cX7_turn 15 = .ok (.getfield 10, 3) := by decide +kernel
theorem dX7_turn_18 : decode cX7_turn 18 = .ok (.aload_n 0, 1) := by decide +kernel
theorem dX7_turn_19 : decode cX7_turn 19 = .ok (.getfield 10, 3) := by decide +kernel
theorem dX7_turn_22 : decode cX7_turn 22 = .ok (.getfield 120, 3) := by decide +kernel
theorem dX7_turn_25 : decode cX7_turn 25 = .ok (.iload_n 1, 1) := by decide +kernel
theorem dX7_turn_26 : decode cX7_turn 26 = .ok (.iadd, 1) := by decide +kernel
theorem dX7_turn_27 : decode cX7_turn 27 = .ok (.invokestatic 153, 3) := by decide +kernel
theorem dX7_turn_30 : decode cX7_turn 30 = .ok (.putfield 120, 3) := by decide +kernel
theorem dX7_turn_33 : decode cX7_turn 33 = .ok (.aload_n 0, 1) := by decide +kernel
theorem dX7_turn_34 : decode cX7_turn 34 = .ok (.invokevirtual 170, 3) := by decide +kernel
theorem dX7_turn_37 : decode cX7_turn 37 = .ok (.ireturn, 1) := by decide +kernel
theorem dX7_wedge_0 : decode cX7_wedge 0 = .ok (.aload_n 0, 1) := by decide +kernel
theorem dX7_wedge_1 : decode cX7_wedge 1 = .ok (.invokevirtual 170, 3) := by decide +kernel
theorem dX7_wedge_4 : decode cX7_wedge 4 = .ok (.istore_n 1, 1) := by decide +kernel
theorem dX7_wedge_5 : decode cX7_wedge 5 = .ok (.iload_n 1, 1) := by decide +kernel
theorem dX7_wedge_6 : decode cX7_wedge 6 = .ok (.ifCond .ne 6, 3) := by decide +kernel
theorem dX7_wedge_9 : decode cX7_wedge 9 = .ok (.bipush (-3), 2) := by decide +kernel
theorem dX7_wedge_11 : decode cX7_wedge 11 = .ok (.ireturn, 1) := by decide +kernel
theorem dX7_wedge_12 : decode cX7_wedge 12 = .ok (.aload_n 0, 1) := by decide +kernel
theorem dX7_wedge_13 : decode cX7_wedge 13 = .ok (.getfield 10, 3) := by decide +kernel
theorem dX7_wedge_16 : decode cX7_wedge 16 = .ok (.aload_n 0, 1) := by decide +kernel
theorem dX7_wedge_17 : decode cX7_wedge 17 = .ok (.getfield 43, 3) := by decide +kernel
theorem dX7_wedge_20 : decode cX7_wedge 20 = .ok (.invokevirtual 173, 3) := by decide +kernel
theorem dX7_wedge_23 : decode cX7_wedge 23 = .ok (.aload_n 0, 1) := by decide +kernel
theorem dX7_wedge_24 : decode cX7_wedge 24 = .ok (.getfield 10, 3) := by decide +kernel
theorem dX7_wedge_27 : decode cX7_wedge 27 = .ok (.getfield 117, 3) := by decide +kernel
theorem dX7_wedge_30 : decode cX7_wedge 30 = .ok (.aload_n 0, 1) := by decide +kernel
theorem dX7_wedge_31 : decode cX7_wedge 31 = .ok (.getfield 10, 3) := by decide +kernel
theorem dX7_wedge_34 : decode cX7_wedge 34 = .ok (.getfield 120, 3) := by decide +kernel
theorem dX7_wedge_37 : decode cX7_wedge 37 = .ok (.invokevirtual 123, 3) := by decide +kernel
theorem dX7_wedge_40 : decode cX7_wedge 40 = .ok (.istore_n 2, 1) := by decide +kernel
theorem dX7_wedge_41 : decode cX7_wedge 41 = .ok (.aload_n 0, 1) := by decide +kernel
theorem dX7_wedge_42 : decode cX7_wedge 42 = .ok (.getfield 10, 3) := by decide +kernel
theorem dX7_wedge_45 : decode cX7_wedge 45 = .ok (.getfield 78, 3) := by decide +kernel
theorem dX7_wedge_48 : decode cX7_wedge 48 = .ok (.iload_n 2, 1) := by decide +kernel
theorem dX7_wedge_49 : decode cX7_wedge 49 = .ok (.bipush 99, 2) := by decide +kernel
theorem dX7_wedge_51 : decode cX7_wedge 51 = .ok (.aload_n 0, 1) := by decide +kernel
theorem dX7_wedge_52 : decode cX7_wedge 52 = .ok (.getfield 10, 3) := by decide +kernel
theorem dX7_wedge_55 : decode cX7_wedge 55 = .ok (.getfield 78, 3) := by decide +kernel
theorem dX7_wedge_58 : decode cX7_wedge 58 = .ok (.iload_n 2, 1) := by decide +kernel
theorem dX7_wedge_59 : decode cX7_wedge 59 = .ok (.iaload, 1) := by decide +kernel
theorem dX7_wedge_60 : decode cX7_wedge 60 = .ok (.iload_n 1, 1) := by decide +kernel
theorem dX7_wedge_61 : decode cX7_wedge 61 = .ok (.iadd, 1) := by decide +kernel
theorem dX7_wedge_62 : decode cX7_wedge 62 = .ok (.invokestatic 176, 3) := by decide +kernel
theorem dX7_wedge_65 : decode cX7_wedge 65 = .ok (.iastore, 1) := by decide +kernel
theorem dX7_wedge_66 : decode cX7_wedge 66 = .ok (.iload_n 1, 1) := by decide +kernel
theorem dX7_wedge_67 : decode cX7_wedge 67 = .ok (.ireturn, 1) := by decide +kernel
theorem dX7_saw_0 : decode cX7_saw 0 = .ok (.aload_n 0, 1) := by decide +kernel
theorem dX7_saw_1 : decode cX7_saw 1 = .ok (.invokevirtual 170, 3) := by decide +kernel
theorem dX7_saw_4 : decode cX7_saw 4 = .ok (.istore_n 1, 1) := by decide +kernel
theorem dX7_saw_5 : decode cX7_saw 5 = .ok (.iload_n 1, 1) := by decide +kernel
theorem dX7_saw_6 : decode cX7_saw 6 = .ok (.ifCond .ne 6, 3) := by decide +kernel
theorem dX7_saw_9 : decode cX7_saw 9 = .ok (.bipush (-3), 2) := by decide +kernel
theorem dX7_saw_11 : decode cX7_saw 11 = .ok (.ireturn, 1) := by decide +kernel
theorem dX7_saw_12 : decode cX7_saw 12 = .ok (.iload_n 1, 1) := by decide +kernel
theorem dX7_saw_13 : decode cX7_saw 13 = .ok (.iconst 2, 1) := by decide +kernel
theorem dX7_saw_14 : decode cX7_saw 14 = .ok (.idiv, 1) := by decide +kernel
theorem dX7_saw_15 : decode cX7_saw 15 = .ok (.istore_n 2, 1) := by decide +kernel
theorem dX7_saw_16 : decode cX7_saw 16 = .ok (.aload_n 0, 1) := by decide +kernel
theorem dX7_saw_17 : decode cX7_saw 17 = .ok (.getfield 43, 3) := by decide +kernel
theorem dX7_saw_20 : decode cX7_saw 20 = .ok (.invokevirtual 160, 3) := by decide +kernel
theorem dX7_saw_23 : decode cX7_saw 23 = .ok (.istore_n 3, 1) := by decide +kernel
theorem dX7_saw_24 : decode cX7_saw 24 = .ok (.aload_n 0, 1) := by decide +kernel
theorem dX7_saw_25 : decode cX7_saw 25 = .ok (.getfield 10, 3) := by decide +kernel
theorem dX7_saw_28 : decode cX7_saw 28 = .ok (.getfield 88, 3) := by decide +kernel
theorem dX7_saw_31 : decode cX7_saw 31 = .ok (.iload_n 3, 1) := by decide +kernel
theorem dX7_saw_32 : decode cX7_saw 32 = .ok (.aaload, 1) := by decide +kernel
theorem dX7_saw_33 : decode cX7_saw 33 = .ok (.iload_n 2, 1) := by decide +kernel
theorem dX7_saw_34 : decode cX7_saw 34 = .ok (.invokevirtual 181, 3) := by decide +kernel
theorem dX7_saw_37 : decode cX7_saw 37 = .ok (.aload_n 0, 1) := by decide +kernel
theorem dX7_saw_38 : decode cX7_saw 38 = .ok (.getfield 10, 3) := by decide +kernel
theorem dX7_saw_41 : decode cX7_saw 41 = .ok (.getfield 88, 3) := by decide +kernel
theorem dX7_saw_44 : decode cX7_saw 44 = .ok (.iload_n 3, 1) := by decide +kernel
theorem dX7_saw_45 : decode cX7_saw 45 = .ok (.iconst 2, 1) := by decide +kernel
theorem dX7_saw_46 : decode cX7_saw 46 = .ok (.iadd, 1) := by decide +kernel
theorem dX7_saw_47 : decode cX7_saw 47 = .ok (.aaload, 1) := by decide +kernel
theorem dX7_saw_48 : decode cX7_saw 48 = .ok (.iload_n 1, 1) := by decide +kernel
theorem dX7_saw_49 : decode cX7_saw 49 = .ok (.iload_n 2, 1) := by decide +kernel
theorem dX7_saw_50 : decode cX7_saw 50 = .ok (.isub, 1) := by decide +kernel
theorem dX7_saw_51 : decode cX7_saw 51 = .ok (.invokevirtual 181, 3) := by decide +kernel
theorem dX7_saw_54 : decode cX7_saw 54 = .ok (.aload_n 0, 1) := by decide +kernel
theorem dX7_saw_55 : decode cX7_saw 55 = .ok (.invokevirtual 170, 3) := by decide +kernel
theorem dX7_saw_58 : decode cX7_saw 58 = .ok (.ireturn, 1) := by decide +kernel
theorem dX7_screwed_0 : decode cX7_screwed 0 = .ok (.iconst (-1), 1) := by decide +kernel
theorem dX7_screwed_1 : decode cX7_screwed 1 = .ok (.istore_n 1, 1) := by decide +kernel
theorem dX7_screwed_2 : decode cX7_screwed 2 = .ok (.iconst 0, 1) := by decide +kernel
theorem dX7_screwed_3 : decode cX7_screwed 3 = .ok (.istore_n 2, 1) := by decide +kernel
theorem dX7_screwed_4 : decode cX7_screwed 4 = .ok (.iload_n 2, 1) := by decide +kernel
theorem dX7_screwed_5 : decode cX7_screwed 5 = .ok (.sipush 2401, 3) := by decide +kernel
theorem dX7_screwed_8 : decode cX7_screwed 8 = .ok (.if_icmp .ge 52, 3) := by decide +kernel
theorem dX7_screwed_11 : decode cX7_screwed 11 = .ok (.aload_n 0, 1) := by decide +kernel
theorem dX7_screwed_12 : decode cX7_screwed 12 = .ok (.iload_n 2, 1) := by decide +kernel
theorem dX7_screwed_13 : decode cX7_screwed 13 = .ok (.invokevirtual 185, 3) := by decide +kernel
theorem dX7_screwed_16 : decode cX7_screwed 16 = .ok (.istore_n 3, 1) := by decide +kernel
theorem dX7_screwed_17 : decode cX7_screwed 17 = .ok (.iload_n 3, 1) := by decide +kernel
theorem dX7_screwed_18 : decode cX7_screwed 18 = .ok (.iconst (-1), 1) := by decide +kernel
theorem dX7_screwed_19 : decode cX7_screwed 19 = .ok (.if_icmp .eq 17, 3) := by decide +kernel
theorem dX7_screwed_22 : decode cX7_screwed 22 = .ok (.iload_n 1, 1) := by decide +kernel
theorem dX7_screwed_23 : decode cX7_screwed 23 = .ok (.iconst (-1), 1) := by decide +kernel
theorem dX7_screwed_24 : decode cX7_screwed 24 = .ok (.if_icmp .eq 8, 3) := by decide +kernel
theorem dX7_screwed_27 : decode cX7_screwed 27 = .ok (.iload_n 3, 1) := by decide +kernel
theorem dX7_screwed_28 : decode cX7_screwed 28 = .ok (.iload_n 1, 1) := by decide +kernel
theorem dX7_screwed_29 : decode cX7_screwed 29 = .ok (.if_icmp .ge 7, 3) := by decide +kernel
theorem dX7_screwed_32 : decode cX7_screwed 32 = .ok (.iconst 1, 1) := by decide +kernel
theorem dX7_screwed_33 : decode cX7_screwed 33 = .ok (.goto 4, 3) := by decide +kernel
theorem dX7_screwed_36 : decode cX7_screwed 36 = .ok (.iconst 0, 1) := by decide +kernel
theorem dX7_screwed_37 : decode cX7_screwed 37 = .ok (.istore 4, 2) := by decide +kernel
theorem dX7_screwed_39 : decode cX7_screwed 39 = .ok (.iload 4, 2) := by decide +kernel
theorem dX7_screwed_41 : decode cX7_screwed 41 = .ok (.ifCond .eq 13, 3) := by decide +kernel
theorem dX7_screwed_44 : decode cX7_screwed 44 = .ok (.aload_n 0, 1) := by decide +kernel
theorem dX7_screwed_45 : decode cX7_screwed 45 = .ok (.iload_n 2, 1) := by decide +kernel
theorem dX7_screwed_46 : decode cX7_screwed 46 = .ok (.invokevirtual 188, 3) := by decide +kernel
theorem dX7_screwed_49 : decode cX7_screwed 49 = .ok (.ifCond .eq 5, 3) := by decide +kernel
theorem dX7_screwed_52 : decode cX7_screwed 52 = .ok (.iload_n 3, 1) := by decide +kernel
theorem dX7_screwed_53 : decode cX7_screwed 53 = .ok (.istore_n 1, 1) := by decide +kernel
theorem dX7_screwed_54 : decode cX7_screwed 54 = .ok (.iinc 2 1, 3) := by decide +kernel
theorem dX7_screwed_57 : decode cX7_screwed 57 = .ok (.goto (-53), 3) := by decide +kernel
theorem dX7_screwed_60 : decode cX7_screwed 60 = .ok (.iload_n 1, 1) := by decide +kernel
theorem dX7_screwed_61 : decode cX7_screwed 61 = .ok (.ireturn, 1) := by decide +kernel
theorem dX7_blame_0 : decode cX7_blame 0 = .ok (.iload_n 1, 1) := by decide +kernel
theorem dX7_blame_1 : decode cX7_blame 1 = .ok (.iconst 0, 1) := by decide +kernel
theorem dX7_blame_2 : decode cX7_blame 2 = .ok (.iconst 1, 1) := by decide +kernel
theorem dX7_blame_3 : decode cX7_blame 3 = .ok (.invokestatic 74, 3) := by decide +kernel
theorem dX7_blame_6 : decode cX7_blame 6 = .ok (.ifCond .ne 6, 3) := by decide +kernel
theorem dX7_blame_9 : decode cX7_blame 9 = .ok (.ldc 148, 2) := by decide +kernel
theorem dX7_blame_11 : decode cX7_blame 11 = .ok (.ireturn, 1) := by decide +kernel
theorem dX7_blame_12 : decode cX7_blame 12 = .ok (.aload_n 0, 1) := by decide +kernel
theorem dX7_blame_13 : decode cX7_blame 13 = .ok (.aload_n 0, 1) := by decide +kernel
theorem dX7_blame_14 : decode cX7_blame 14 = .ok (.getfield 10, 3) := by decide +kernel
theorem dX7_blame_17 : decode cX7_blame 17 = .ok (.getfield 120, 3) := by decide +kernel
theorem dX7_blame_20 : decode cX7_blame 20 = .ok (.invokevirtual 191, 3) := by decide +kernel
theorem dX7_blame_23 : decode cX7_blame 23 = .ok (.istore_n 2, 1) := by decide +kernel
theorem dX7_blame_24 : decode cX7_blame 24 = .ok (.iload_n 2, 1) := by decide +kernel
theorem dX7_blame_25 : decode cX7_blame 25 = .ok (.aload_n 0, 1) := by decide +kernel
theorem dX7_blame_26 : decode cX7_blame 26 = .ok (.aload_n 0, 1) := by decide +kernel
theorem dX7_blame_27 : decode cX7_blame 27 = .ok (.getfield 10, 3) := by decide +kernel
theorem dX7_blame_30 : decode cX7_blame 30 = .ok (.getfield 120, 3) := by decide +kernel
theorem dX7_blame_33 : decode cX7_blame 33 = .ok (.iconst 2, 1) := by decide +kernel
theorem dX7_blame_34 : decode cX7_blame 34 = .ok (.iadd, 1) := by decide +kernel
theorem dX7_blame_35 : decode cX7_blame 35 = .ok (.invokestatic 153, 3) := by decide +kernel
theorem dX7_blame_38 : decode cX7_blame 38 = .ok (.invokevirtual 191, 3) := by decide +kernel
theorem dX7_blame_41 : decode cX7_blame 41 = .ok (.iadd, 1) := by decide +kernel
theorem dX7_blame_42 : decode cX7_blame 42 = .ok (.iconst 2, 1) := by decide +kernel
theorem dX7_blame_43 : decode cX7_blame 43 = .ok (.idiv, 1) := by decide +kernel
theorem dX7_blame_44 : decode cX7_blame 44 = .ok (.istore_n 3, 1) := by decide +kernel
theorem dX7_blame_45 : decode cX7_blame 45 = .ok (.iload_n 1, 1) := by decide +kernel
theorem dX7_blame_46 : decode cX7_blame 46 = .ok (.ifCond .ne 7, 3) := by decide +kernel
theorem dX7_blame_49 : decode cX7_blame 49 = .ok (.iload_n 3, 1) := by decide +kernel
theorem dX7_blame_50 : decode cX7_blame 50 = .ok (.goto 6, 3) := by decide +kernel
theorem dX7_blame_53 : decode cX7_blame 53 = .ok (.iload_n 2, 1) := by decide +kernel
theorem dX7_blame_54 : decode cX7_blame 54 = .ok (.iload_n 3, 1) := by decide +kernel
theorem dX7_blame_55 : decode cX7_blame 55 = .ok (.isub, 1) := by decide +kernel
theorem dX7_blame_56 : decode cX7_blame 56 = .ok (.ireturn, 1) := by decide +kernel
theorem dX7_beside_0 : decode cX7_beside 0 = .ok (.iload_n 1, 1) := by decide +kernel
theorem dX7_beside_1 : decode cX7_beside 1 = .ok (.iconst 0, 1) := by decide +kernel
theorem dX7_beside_2 : decode cX7_beside 2 = .ok (.iconst 1, 1) := by decide +kernel
theorem dX7_beside_3 : decode cX7_beside 3 = .ok (.invokestatic 74, 3) := by decide +kernel
theorem dX7_beside_6 : decode cX7_beside 6 = .ok (.ifCond .ne 6, 3) := by decide +kernel
theorem dX7_beside_9 : decode cX7_beside 9 = .ok (.bipush (-2), 2) := by decide +kernel
theorem dX7_beside_11 : decode cX7_beside 11 = .ok (.ireturn, 1) := by decide +kernel
theorem dX7_beside_12 : decode cX7_beside 12 = .ok (.iconst 0, 1) := by decide +kernel
theorem dX7_beside_13 : decode cX7_beside 13 = .ok (.istore_n 2, 1) := by decide +kernel
theorem dX7_beside_14 : decode cX7_beside 14 = .ok (.iload_n 2, 1) := by decide +kernel
theorem dX7_beside_15 : decode cX7_beside 15 = .ok (.sipush 512, 3) := by decide +kernel
theorem dX7_beside_18 : decode cX7_beside 18 = .ok (.if_icmp .ge 49, 3) := by decide +kernel
theorem dX7_beside_21 : decode cX7_beside 21 = .ok (.iload_n 2, 1) := by decide +kernel
theorem dX7_beside_22 : decode cX7_beside 22 = .ok (.bipush 8, 2) := by decide +kernel
theorem dX7_beside_24 : decode cX7_beside 24 = .ok (.idiv, 1) := by decide +kernel
theorem dX7_beside_25 : decode cX7_beside 25 = .ok (.istore_n 3, 1) := by decide +kernel
theorem dX7_beside_26 : decode cX7_beside 26 = .ok (.iload_n 2, 1) := by decide +kernel
theorem dX7_beside_27 : decode cX7_beside 27 = .ok (.bipush 8, 2) := by decide +kernel
theorem dX7_beside_29 : decode cX7_beside 29 = .ok (.irem, 1) := by decide +kernel
theorem dX7_beside_30 : decode cX7_beside 30 = .ok (.istore 4, 2) := by decide +kernel
theorem dX7_beside_32 : decode cX7_beside 32 = .ok (.aload_n 0, 1) := by decide +kernel
theorem dX7_beside_33 : decode cX7_beside 33 = .ok (.iload_n 3, 1) := by decide +kernel
theorem dX7_beside_34 : decode cX7_beside 34 = .ok (.invokevirtual 194, 3) := by decide +kernel
theorem dX7_beside_37 : decode cX7_beside 37 = .ok (.ifCond .eq 24, 3) := by decide +kernel
theorem dX7_beside_40 : decode cX7_beside 40 = .ok (.aload_n 0, 1) := by decide +kernel
theorem dX7_beside_41 : decode cX7_beside 41 = .ok (.iload_n 3, 1) := by decide +kernel
theorem dX7_beside_42 : decode cX7_beside 42 = .ok (.iload 4, 2) := by decide +kernel
theorem dX7_beside_44 : decode cX7_beside 44 = .ok (.invokevirtual 149, 3) := by decide +kernel
theorem dX7_beside_47 : decode cX7_beside 47 = .ok (.ifCond .eq 14, 3) := by decide +kernel
theorem dX7_beside_50 : decode cX7_beside 50 = .ok (.iload_n 1, 1) := by decide +kernel
theorem dX7_beside_51 : decode cX7_beside 51 = .ok (.ifCond .ne 7, 3) := by decide +kernel
theorem dX7_beside_54 : decode cX7_beside 54 = .ok (.iload_n 3, 1) := by decide +kernel
theorem dX7_beside_55 : decode cX7_beside 55 = .ok (.goto 5, 3) := by decide +kernel
theorem dX7_beside_58 : decode cX7_beside 58 = .ok (.iload 4, 2) := by decide +kernel
theorem dX7_beside_60 : decode cX7_beside 60 = .ok (.ireturn, 1) := by decide +kernel
theorem dX7_beside_61 : decode cX7_beside 61 = .ok (.iinc 2 1, 3) := by decide +kernel
theorem dX7_beside_64 : decode cX7_beside 64 = .ok (.goto (-50), 3) := by decide +kernel
theorem dX7_beside_67 : decode cX7_beside 67 = .ok (.iconst (-1), 1) := by decide +kernel
theorem dX7_beside_68 : decode cX7_beside 68 = .ok (.ireturn, 1) := by decide +kernel
theorem dX7_sit_0 : decode cX7_sit 0 = .ok (.aload_n 0, 1) := by decide +kernel
theorem dX7_sit_1 : decode cX7_sit 1 = .ok (.getfield 10, 3) := by decide +kernel
theorem dX7_sit_4 : decode cX7_sit 4 = .ok (.getfield 110, 3) := by decide +kernel
theorem dX7_sit_7 : decode cX7_sit 7 = .ok (.istore_n 1, 1) := by decide +kernel
theorem dX7_sit_8 : decode cX7_sit 8 = .ok (.iconst (-1), 1) := by decide +kernel
theorem dX7_sit_9 : decode cX7_sit 9 = .ok (.istore_n 2, 1) := by decide +kernel
theorem dX7_sit_10 : decode cX7_sit 10 = .ok (.iconst 0, 1) := by decide +kernel
theorem dX7_sit_11 : decode cX7_sit 11 = .ok (.istore_n 3, 1) := by decide +kernel
theorem dX7_sit_12 : decode cX7_sit 12 = .ok (.iload_n 3, 1) := by decide +kernel
theorem dX7_sit_13 : decode cX7_sit 13 = .ok (.bipush 9, 2) := by decide +kernel
theorem dX7_sit_15 : decode cX7_sit 15 = .ok (.iload_n 1, 1) := by decide +kernel
theorem dX7_sit_16 : decode cX7_sit 16 = .ok (.isub, 1) := by decide +kernel
theorem dX7_sit_17 : decode cX7_sit 17 = .ok (.if_icmp .gt 47, 3) := by decide +kernel
theorem dX7_sit_20 : decode cX7_sit 20 = .ok (.iload_n 2, 1) := by decide +kernel
theorem dX7_sit_21 : decode cX7_sit 21 = .ok (.iconst (-1), 1) := by decide +kernel
theorem dX7_sit_22 : decode cX7_sit 22 = .ok (.if_icmp .ne 42, 3) := by decide +kernel
theorem dX7_sit_25 : decode cX7_sit 25 = .ok (.aload_n 0, 1) := by decide +kernel
theorem dX7_sit_26 : decode cX7_sit 26 = .ok (.getfield 10, 3) := by decide +kernel
theorem dX7_sit_29 : decode cX7_sit 29 = .ok (.iload_n 1, 1) := by decide +kernel
theorem dX7_sit_30 : decode cX7_sit 30 = .ok (.iload_n 3, 1) := by decide +kernel
theorem dX7_sit_31 : decode cX7_sit 31 = .ok (.iadd, 1) := by decide +kernel
theorem dX7_sit_32 : decode cX7_sit 32 = .ok (.putfield 110, 3) := by decide +kernel
theorem dX7_sit_35 : decode cX7_sit 35 = .ok (.aload_n 0, 1) := by decide +kernel
theorem dX7_sit_36 : decode cX7_sit 36 = .ok (.aload_n 0, 1) := by decide +kernel
theorem dX7_sit_37 : decode cX7_sit 37 = .ok (.getfield 10, 3) := by decide +kernel
theorem dX7_sit_40 : decode cX7_sit 40 = .ok (.getfield 117, 3) := by decide +kernel
theorem dX7_sit_43 : decode cX7_sit 43 = .ok (.aload_n 0, 1) := by decide +kernel
theorem dX7_sit_44 : decode cX7_sit 44 = .ok (.getfield 10, 3) := by decide +kernel
theorem dX7_sit_47 : decode cX7_sit 47 = .ok (.getfield 120, 3) := by decide +kernel
theorem dX7_sit_50 : decode cX7_sit 50 = .ok (.invokevirtual 149, 3) := by decide +kernel
theorem dX7_sit_53 : decode cX7_sit 53 = .ok (.ifCond .eq 5, 3) := by decide +kernel
theorem dX7_sit_56 : decode cX7_sit 56 = .ok (.iload_n 3, 1) := by decide +kernel
theorem dX7_sit_57 : decode cX7_sit 57 = .ok (.istore_n 2, 1) := by decide +kernel
theorem dX7_sit_58 : decode cX7_sit 58 = .ok (.iinc 3 1, 3) := by decide +kernel
theorem dX7_sit_61 : decode cX7_sit 61 = .ok (.goto (-49), 3) := by decide +kernel
theorem dX7_sit_64 : decode cX7_sit 64 = .ok (.aload_n 0, 1) := by decide +kernel
theorem dX7_sit_65 : decode cX7_sit 65 = .ok (.getfield 10, 3) := by decide +kernel
theorem dX7_sit_68 : decode cX7_sit 68 = .ok (.iload_n 1, 1) := by decide +kernel
theorem dX7_sit_69 : decode cX7_sit 69 = .ok (.putfield 110, 3) := by decide +kernel
theorem dX7_sit_72 : decode cX7_sit 72 = .ok (.iload_n 2, 1) := by decide +kernel
theorem dX7_sit_73 : decode cX7_sit 73 = .ok (.ireturn, 1) := by decide +kernel
theorem dX7_judge_0 : decode cX7_judge 0 = .ok (.iload_n 1, 1) := by decide +kernel
theorem dX7_judge_1 : decode cX7_judge 1 = .ok (.invokestatic 197, 3) := by decide +kernel
theorem dX7_judge_4 : decode cX7_judge 4 = .ok (.ifCond .ne 6, 3) := by decide +kernel
theorem dX7_judge_7 : decode cX7_judge 7 = .ok (.bipush (-2), 2) := by decide +kernel
theorem dX7_judge_9 : decode cX7_judge 9 = .ok (.ireturn, 1) := by decide +kernel
theorem dX7_judge_10 : decode cX7_judge 10 = .ok (.aload_n 0, 1) := by decide +kernel
theorem dX7_judge_11 : decode cX7_judge 11 = .ok (.getfield 49, 3) := by decide +kernel
theorem dX7_judge_14 : decode cX7_judge 14 = .ok (.iload_n 1, 1) := by decide +kernel
theorem dX7_judge_15 : decode cX7_judge 15 = .ok (.aaload, 1) := by decide +kernel
theorem dX7_judge_16 : decode cX7_judge 16 = .ok (.invokevirtual 200, 3) := by decide +kernel
theorem dX7_judge_19 : decode cX7_judge 19 = .ok (.ifCond .eq 8, 3) := by decide +kernel
theorem dX7_judge_22 : decode cX7_judge 22 = .ok (.bipush (-11), 2) := by decide +kernel
theorem dX7_judge_24 : decode cX7_judge 24 = .ok (.goto 20, 3) := by decide +kernel
theorem dX7_judge_27 : decode cX7_judge 27 = .ok (.aload_n 0, 1) := by decide +kernel
theorem dX7_judge_28 : decode cX7_judge 28 = .ok (.aload_n 0, 1) := by decide +kernel
theorem dX7_judge_29 : decode cX7_judge 29 = .ok (.getfield 49, 3) := by decide +kernel
theorem dX7_judge_32 : decode cX7_judge 32 = .ok (.iload_n 1, 1) := by decide +kernel
theorem dX7_judge_33 : decode cX7_judge 33 = .ok (.aaload, 1) := by decide +kernel
theorem dX7_judge_34 : decode cX7_judge 34 = .ok (.aload_n 0, 1) := by decide +kernel
theorem dX7_judge_35 : decode cX7_judge 35 = .ok (.getfield 10, 3) := by decide +kernel
theorem dX7_judge_38 : decode cX7_judge 38 = .ok (.getfield 117, 3) := by decide +kernel
theorem dX7_judge_41 : decode cX7_judge 41 = .ok (.invokevirtual 203, 3) := by decide +kernel
theorem dX7_judge_44 : decode cX7_judge 44 = .ok (.ireturn, 1) := by decide +kernel
theorem dX7_which_0 : decode cX7_which 0 = .ok (.iload_n 1, 1) := by decide +kernel
theorem dX7_which_1 : decode cX7_which 1 = .ok (.invokestatic 197, 3) := by decide +kernel
theorem dX7_which_4 : decode cX7_which 4 = .ok (.ifCond .eq 15, 3) := by decide +kernel
theorem dX7_which_7 : decode cX7_which 7 = .ok (.aload_n 0, 1) := by decide +kernel
theorem dX7_which_8 : decode cX7_which 8 = .ok (.getfield 49, 3) := by decide +kernel
theorem dX7_which_11 : decode cX7_which 11 = .ok (.iload_n 1, 1) := by decide +kernel
theorem dX7_which_12 : decode cX7_which 12 = .ok (.aaload, 1) := by decide +kernel
theorem dX7_which_13 : decode cX7_which 13 = .ok (.invokevirtual 200, 3) := by decide +kernel
theorem dX7_which_16 : decode cX7_which 16 = .ok (.ifCond .eq 7, 3) := by decide +kernel
theorem dX7_which_19 : decode cX7_which 19 = .ok (.ldc2_w 207, 3) := by decide +kernel
theorem dX7_which_22 : decode cX7_which 22 = .ok (.lreturn, 1) := by decide +kernel
theorem dX7_which_23 : decode cX7_which 23 = .ok (.lconst 0, 1) := by decide +kernel
theorem dX7_which_24 : decode cX7_which 24 = .ok (.lstore_n 2, 1) := by decide +kernel
theorem dX7_which_25 : decode cX7_which 25 = .ok (.iconst 0, 1) := by decide +kernel
theorem dX7_which_26 : decode cX7_which 26 = .ok (.istore 4, 2) := by decide +kernel
theorem dX7_which_28 : decode cX7_which 28 = .ok (.iload 4, 2) := by decide +kernel
theorem dX7_which_30 : decode cX7_which 30 = .ok (.bipush 64, 2) := by decide +kernel
theorem dX7_which_32 : decode cX7_which 32 = .ok (.if_icmp .ge 32, 3) := by decide +kernel
theorem dX7_which_35 : decode cX7_which 35 = .ok (.aload_n 0, 1) := by decide +kernel
theorem dX7_which_36 : decode cX7_which 36 = .ok (.aload_n 0, 1) := by decide +kernel
theorem dX7_which_37 : decode cX7_which 37 = .ok (.getfield 49, 3) := by decide +kernel
theorem dX7_which_40 : decode cX7_which 40 = .ok (.iload_n 1, 1) := by decide +kernel
theorem dX7_which_41 : decode cX7_which 41 = .ok (.aaload, 1) := by decide +kernel
theorem dX7_which_42 : decode cX7_which 42 = .ok (.iload 4, 2) := by decide +kernel
theorem dX7_which_44 : decode cX7_which 44 = .ok (.invokevirtual 203, 3) := by decide +kernel
theorem dX7_which_47 : decode cX7_which 47 = .ok (.iconst (-1), 1) := by decide +kernel
theorem dX7_which_48 : decode cX7_which 48 = .ok (.if_icmp .ne 10, 3) := by decide +kernel
theorem dX7_which_51 : decode cX7_which 51 = .ok (.lload_n 2, 1) := by decide +kernel
theorem dX7_which_52 : decode cX7_which 52 = .ok (.lconst 1, 1) := by decide +kernel
theorem dX7_which_53 : decode cX7_which 53 = .ok (.iload 4, 2) := by decide +kernel
theorem dX7_which_55 : decode cX7_which 55 = .ok (.lshl, 1) := by decide +kernel
theorem dX7_which_56 : decode cX7_which 56 = .ok (.lor, 1) := by decide +kernel
theorem dX7_which_57 : decode cX7_which 57 = .ok (.lstore_n 2, 1) := by decide +kernel
theorem dX7_which_58 : decode cX7_which 58 = .ok (.iinc 4 1, 3) := by decide +kernel
theorem dX7_which_61 : decode cX7_which 61 = .ok (.goto (-33), 3) := by decide +kernel
theorem dX7_which_64 : decode cX7_which 64 = .ok (.lload_n 2, 1) := by decide +kernel
theorem dX7_which_65 : decode cX7_which 65 = .ok (.lreturn, 1) := by decide +kernel
theorem dX7_drawn_0 : decode cX7_drawn 0 = .ok (.iload_n 1, 1) := by decide +kernel
theorem dX7_drawn_1 : decode cX7_drawn 1 = .ok (.invokestatic 209, 3) := by decide +kernel
theorem dX7_drawn_4 : decode cX7_drawn 4 = .ok (.istore_n 2, 1) := by decide +kernel
theorem dX7_drawn_5 : decode cX7_drawn 5 = .ok (.iload_n 2, 1) := by decide +kernel
theorem dX7_drawn_6 : decode cX7_drawn 6 = .ok (.invokestatic 209, 3) := by decide +kernel
theorem dX7_drawn_9 : decode cX7_drawn 9 = .ok (.istore_n 3, 1) := by decide +kernel
theorem dX7_drawn_10 : decode cX7_drawn 10 = .ok (.aload_n 0, 1) := by decide +kernel
theorem dX7_drawn_11 : decode cX7_drawn 11 = .ok (.iload_n 2, 1) := by decide +kernel
theorem dX7_drawn_12 : decode cX7_drawn 12 = .ok (.bipush 8, 2) := by decide +kernel
theorem dX7_drawn_14 : decode cX7_drawn 14 = .ok (.iushr, 1) := by decide +kernel
theorem dX7_drawn_15 : decode cX7_drawn 15 = .ok (.bipush 64, 2) := by decide +kernel
theorem dX7_drawn_17 : decode cX7_drawn 17 = .ok (.irem, 1) := by decide +kernel
theorem dX7_drawn_18 : decode cX7_drawn 18 = .ok (.iload_n 3, 1) := by decide +kernel
theorem dX7_drawn_19 : decode cX7_drawn 19 = .ok (.bipush 10, 2) := by decide +kernel
theorem dX7_drawn_21 : decode cX7_drawn 21 = .ok (.iushr, 1) := by decide +kernel
theorem dX7_drawn_22 : decode cX7_drawn 22 = .ok (.bipush 8, 2) := by decide +kernel
theorem dX7_drawn_24 : decode cX7_drawn 24 = .ok (.irem, 1) := by decide +kernel
theorem dX7_drawn_25 : decode cX7_drawn 25 = .ok (.invokevirtual 156, 3) := by decide +kernel
theorem dX7_drawn_28 : decode cX7_drawn 28 = .ok (.aload_n 0, 1) := by decide +kernel
theorem dX7_drawn_29 : decode cX7_drawn 29 = .ok (.getfield 43, 3) := by decide +kernel
theorem dX7_drawn_32 : decode cX7_drawn 32 = .ok (.getfield 212, 3) := by decide +kernel
theorem dX7_drawn_35 : decode cX7_drawn 35 = .ok (.ireturn, 1) := by decide +kernel
theorem dX7_odds_0 : decode cX7_odds 0 = .ok (.iload_n 2, 1) := by decide +kernel
theorem dX7_odds_1 : decode cX7_odds 1 = .ok (.iconst 1, 1) := by decide +kernel
theorem dX7_odds_2 : decode cX7_odds 2 = .ok (.bipush 30, 2) := by decide +kernel
theorem dX7_odds_4 : decode cX7_odds 4 = .ok (.invokestatic 74, 3) := by decide +kernel
theorem dX7_odds_7 : decode cX7_odds 7 = .ok (.ifCond .eq 12, 3) := by decide +kernel
theorem dX7_odds_10 : decode cX7_odds 10 = .ok (.iload_n 3, 1) := by decide +kernel
theorem dX7_odds_11 : decode cX7_odds 11 = .ok (.iconst 0, 1) := by decide +kernel
theorem dX7_odds_12 : decode cX7_odds 12 = .ok (.iconst 1, 1) := by decide +kernel
theorem dX7_odds_13 : decode cX7_odds 13 = .ok (.invokestatic 74, 3) := by decide +kernel
theorem dX7_odds_16 : decode cX7_odds 16 = .ok (.ifCond .ne 7, 3) := by decide +kernel
theorem dX7_odds_19 : decode cX7_odds 19 = .ok (.ldc2_w 207, 3) := by decide +kernel
theorem dX7_odds_22 : decode cX7_odds 22 = .ok (.lreturn, 1) := by decide +kernel
theorem dX7_odds_23 : decode cX7_odds 23 = .ok (.iconst 0, 1) := by decide +kernel
theorem dX7_odds_24 : decode cX7_odds 24 = .ok (.istore 4, 2) := by decide +kernel
theorem dX7_odds_26 : decode cX7_odds 26 = .ok (.iconst 0, 1) := by decide +kernel
theorem dX7_odds_27 : decode cX7_odds 27 = .ok (.istore 5, 2) := by decide +kernel
theorem dX7_odds_29 : decode cX7_odds 29 = .ok (.iload 5, 2) := by decide +kernel
theorem dX7_odds_31 : decode cX7_odds 31 = .ok (.iload_n 2, 1) := by decide +kernel
theorem dX7_odds_32 : decode cX7_odds 32 = .ok (.if_icmp .ge 23, 3) := by decide +kernel
theorem dX7_odds_35 : decode cX7_odds 35 = .ok (.aload_n 0, 1) := by decide +kernel
theorem dX7_odds_36 : decode cX7_odds 36 = .ok (.iload_n 1, 1) := by decide +kernel
theorem dX7_odds_37 : decode cX7_odds 37 = .ok (.iload 5, 2) := by decide +kernel
theorem dX7_odds_39 : decode cX7_odds 39 = .ok (.iadd, 1) := by decide +kernel
theorem dX7_odds_40 : decode cX7_odds 40 = .ok (.invokevirtual 215, 3) := by decide +kernel
theorem dX7_odds_43 : decode cX7_odds 43 = .ok (.ifCond .ne 6, 3) := by decide +kernel
theorem dX7_odds_46 : decode cX7_odds 46 = .ok (.iinc 4 1, 3) := by decide +kernel
theorem dX7_odds_49 : decode cX7_odds 49 = .ok (.iinc 5 1, 3) := by decide +kernel
theorem dX7_odds_52 : decode cX7_odds 52 = .ok (.goto (-23), 3) := by decide +kernel
theorem dX7_odds_55 : decode cX7_odds 55 = .ok (.iload 4, 2) := by decide +kernel
theorem dX7_odds_57 : decode cX7_odds 57 = .ok (.iload_n 2, 1) := by decide +kernel
theorem dX7_odds_58 : decode cX7_odds 58 = .ok (.invokestatic 218, 3) := by decide +kernel
theorem dX7_odds_61 : decode cX7_odds 61 = .ok (.istore 5, 2) := by decide +kernel
theorem dX7_odds_63 : decode cX7_odds 63 = .ok (.iload_n 3, 1) := by decide +kernel
theorem dX7_odds_64 : decode cX7_odds 64 = .ok (.ifCond .ne 12, 3) := by decide +kernel
theorem dX7_odds_67 : decode cX7_odds 67 = .ok (.iload 4, 2) := by decide +kernel
theorem dX7_odds_69 : decode cX7_odds 69 = .ok (.iload 5, 2) := by decide +kernel
theorem dX7_odds_71 : decode cX7_odds 71 = .ok (.idiv, 1) := by decide +kernel
theorem dX7_odds_72 : decode cX7_odds 72 = .ok (.i2l, 1) := by decide +kernel
theorem dX7_odds_73 : decode cX7_odds 73 = .ok (.goto 8, 3) := by decide +kernel
theorem dX7_odds_76 : decode cX7_odds 76 = .ok (.iload_n 2, 1) := by decide +kernel
theorem dX7_odds_77 : decode cX7_odds 77 = .ok (.iload 5, 2) := by decide +kernel
theorem dX7_odds_79 : decode cX7_odds 79 = .ok (.idiv, 1) := by decide +kernel
theorem dX7_odds_80 : decode cX7_odds 80 = .ok (.i2l, 1) := by decide +kernel
theorem dX7_odds_81 : decode cX7_odds 81 = .ok (.lreturn, 1) := by decide +kernel
theorem dX7_image_0 : decode cX7_image 0 = .ok (.aload_n 0, 1) := by decide +kernel
theorem dX7_image_1 : decode cX7_image 1 = .ok (.getfield 16, 3) := by decide +kernel
theorem dX7_image_4 : decode cX7_image 4 = .ok (.aload_n 0, 1) := by decide +kernel
theorem dX7_image_5 : decode cX7_image 5 = .ok (.getfield 10, 3) := by decide +kernel
theorem dX7_image_8 : decode cX7_image 8 = .ok (.invokevirtual 221, 3) := by decide +kernel
theorem dX7_image_11 : decode cX7_image 11 = .ok (.aload_n 0, 1) := by decide +kernel
theorem dX7_image_12 : decode cX7_image 12 = .ok (.iconst 1, 1) := by decide +kernel
theorem dX7_image_13 : decode cX7_image 13 = .ok (.putfield 19, 3) := by decide +kernel
theorem dX7_image_16 : decode cX7_image 16 = .ok (.aload_n 0, 1) := by decide +kernel
theorem dX7_image_17 : decode cX7_image 17 = .ok (.getfield 10, 3) := by decide +kernel
theorem dX7_image_20 : decode cX7_image 20 = .ok (.getfield 120, 3) := by decide +kernel
theorem dX7_image_23 : decode cX7_image 23 = .ok (.ireturn, 1) := by decide +kernel
theorem dX7_back_0 : decode cX7_back 0 = .ok (.aload_n 0, 1) := by decide +kernel
theorem dX7_back_1 : decode cX7_back 1 = .ok (.getfield 19, 3) := by decide +kernel
theorem dX7_back_4 : decode cX7_back 4 = .ok (.ifCond .ne 6, 3) := by decide +kernel
theorem dX7_back_7 : decode cX7_back 7 = .ok (.bipush (-3), 2) := by decide +kernel
theorem dX7_back_9 : decode cX7_back 9 = .ok (.ireturn, 1) := by decide +kernel
theorem dX7_back_10 : decode cX7_back 10 = .ok (.aload_n 0, 1) := by decide +kernel
theorem dX7_back_11 : decode cX7_back 11 = .ok (.getfield 10, 3) := by decide +kernel
theorem dX7_back_14 : decode cX7_back 14 = .ok (.aload_n 0, 1) := by decide +kernel
theorem dX7_back_15 : decode cX7_back 15 = .ok (.getfield 16, 3) := by decide +kernel
theorem dX7_back_18 : decode cX7_back 18 = .ok (.invokevirtual 221, 3) := by decide +kernel
theorem dX7_back_21 : decode cX7_back 21 = .ok (.aload_n 0, 1) := by decide +kernel
theorem dX7_back_22 : decode cX7_back 22 = .ok (.getfield 10, 3) := by decide +kernel
theorem dX7_back_25 : decode cX7_back 25 = .ok (.getfield 120, 3) := by decide +kernel
theorem dX7_back_28 : decode cX7_back 28 = .ok (.ireturn, 1) := by decide +kernel
theorem dX7_count_0 : decode cX7_count 0 = .ok (.iload_n 1, 1) := by decide +kernel
theorem dX7_count_1 : decode cX7_count 1 = .ok (.tableswitch 96 0 6 #[43, 51, 59, 67, 75, 80, 88], 43) := by decide +kernel
theorem dX7_count_44 : decode cX7_count 44 = .ok (.aload_n 0, 1) := by decide +kernel
theorem dX7_count_45 : decode cX7_count 45 = .ok (.getfield 10, 3) := by decide +kernel
theorem dX7_count_48 : decode cX7_count 48 = .ok (.getfield 117, 3) := by decide +kernel
theorem dX7_count_51 : decode cX7_count 51 = .ok (.ireturn, 1) := by decide +kernel
theorem dX7_count_52 : decode cX7_count 52 = .ok (.aload_n 0, 1) := by decide +kernel
theorem dX7_count_53 : decode cX7_count 53 = .ok (.getfield 10, 3) := by decide +kernel
theorem dX7_count_56 : decode cX7_count 56 = .ok (.getfield 224, 3) := by decide +kernel
theorem dX7_count_59 : decode cX7_count 59 = .ok (.ireturn, 1) := by decide +kernel
theorem dX7_count_60 : decode cX7_count 60 = .ok (.aload_n 0, 1) := by decide +kernel
theorem dX7_count_61 : decode cX7_count 61 = .ok (.getfield 10, 3) := by decide +kernel
theorem dX7_count_64 : decode cX7_count 64 = .ok (.getfield 120, 3) := by decide +kernel
theorem dX7_count_67 : decode cX7_count 67 = .ok (.ireturn, 1) := by decide +kernel
theorem dX7_count_68 : decode cX7_count 68 = .ok (.aload_n 0, 1) := by decide +kernel
theorem dX7_count_69 : decode cX7_count 69 = .ok (.getfield 10, 3) := by decide +kernel
theorem dX7_count_72 : decode cX7_count 72 = .ok (.getfield 110, 3) := by decide +kernel
theorem dX7_count_75 : decode cX7_count 75 = .ok (.ireturn, 1) := by decide +kernel
theorem dX7_count_76 : decode cX7_count 76 = .ok (.aload_n 0, 1) := by decide +kernel
theorem dX7_count_77 : decode cX7_count 77 = .ok (.getfield 36, 3) := by decide +kernel
theorem dX7_count_80 : decode cX7_count 80 = .ok (.ireturn, 1) := by decide +kernel
theorem dX7_count_81 : decode cX7_count 81 = .ok (.aload_n 0, 1) := by decide +kernel
theorem dX7_count_82 : decode cX7_count 82 = .ok (.getfield 26, 3) := by decide +kernel
theorem dX7_count_85 : decode cX7_count 85 = .ok (.getfield 129, 3) := by decide +kernel
theorem dX7_count_88 : decode cX7_count 88 = .ok (.ireturn, 1) := by decide +kernel
theorem dX7_count_89 : decode cX7_count 89 = .ok (.aload_n 0, 1) := by decide +kernel
theorem dX7_count_90 : decode cX7_count 90 = .ok (.getfield 10, 3) := by decide +kernel
theorem dX7_count_93 : decode cX7_count 93 = .ok (.getfield 143, 3) := by decide +kernel
theorem dX7_count_96 : decode cX7_count 96 = .ok (.ireturn, 1) := by decide +kernel
theorem dX7_count_97 : decode cX7_count 97 = .ok (.bipush (-2), 2) := by decide +kernel
theorem dX7_count_99 : decode cX7_count 99 = .ok (.ireturn, 1) := by decide +kernel
theorem dX7_sheet_0 : decode cX7_sheet 0 = .ok (.iload_n 1, 1) := by decide +kernel
theorem dX7_sheet_1 : decode cX7_sheet 1 = .ok (.invokestatic 197, 3) := by decide +kernel
theorem dX7_sheet_4 : decode cX7_sheet 4 = .ok (.ifCond .eq 12, 3) := by decide +kernel
theorem dX7_sheet_7 : decode cX7_sheet 7 = .ok (.iload_n 2, 1) := by decide +kernel
theorem dX7_sheet_8 : decode cX7_sheet 8 = .ok (.iconst (-1), 1) := by decide +kernel
theorem dX7_sheet_9 : decode cX7_sheet 9 = .ok (.iconst 2, 1) := by decide +kernel
theorem dX7_sheet_10 : decode cX7_sheet 10 = .ok (.invokestatic 74, 3) := by decide +kernel
theorem dX7_sheet_13 : decode cX7_sheet 13 = .ok (.ifCond .ne 6, 3) := by decide +kernel
theorem dX7_sheet_16 : decode cX7_sheet 16 = .ok (.bipush (-2), 2) := by decide +kernel
theorem dX7_sheet_18 : decode cX7_sheet 18 = .ok (.ireturn, 1) := by decide +kernel
theorem dX7_sheet_19 : decode cX7_sheet 19 = .ok (.iload_n 2, 1) := by decide +kernel
theorem dX7_sheet_20 : decode cX7_sheet 20 = .ok (.iconst (-1), 1) := by decide +kernel
theorem dX7_sheet_21 : decode cX7_sheet 21 = .ok (.if_icmp .ne 14, 3) := by decide +kernel
theorem dX7_sheet_24 : decode cX7_sheet 24 = .ok (.aload_n 0, 1) := by decide +kernel
theorem dX7_sheet_25 : decode cX7_sheet 25 = .ok (.getfield 49, 3) := by decide +kernel
theorem dX7_sheet_28 : decode cX7_sheet 28 = .ok (.iload_n 1, 1) := by decide +kernel
theorem dX7_sheet_29 : decode cX7_sheet 29 = .ok (.aaload, 1) := by decide +kernel
theorem dX7_sheet_30 : decode cX7_sheet 30 = .ok (.invokevirtual 227, 3) := by decide +kernel
theorem dX7_sheet_33 : decode cX7_sheet 33 = .ok (.iconst 1, 1) := by decide +kernel
theorem dX7_sheet_34 : decode cX7_sheet 34 = .ok (.ireturn, 1) := by decide +kernel
theorem dX7_sheet_35 : decode cX7_sheet 35 = .ok (.iload_n 3, 1) := by decide +kernel
theorem dX7_sheet_36 : decode cX7_sheet 36 = .ok (.bipush 40, 2) := by decide +kernel
theorem dX7_sheet_38 : decode cX7_sheet 38 = .ok (.if_icmp .le 6, 3) := by decide +kernel
theorem dX7_sheet_41 : decode cX7_sheet 41 = .ok (.bipush (-2), 2) := by decide +kernel
theorem dX7_sheet_43 : decode cX7_sheet 43 = .ok (.ireturn, 1) := by decide +kernel
theorem dX7_sheet_44 : decode cX7_sheet 44 = .ok (.iload_n 3, 1) := by decide +kernel
theorem dX7_sheet_45 : decode cX7_sheet 45 = .ok (.ifCond .ge 6, 3) := by decide +kernel
theorem dX7_sheet_48 : decode cX7_sheet 48 = .ok (.bipush (-14), 2) := by decide +kernel
theorem dX7_sheet_50 : decode cX7_sheet 50 = .ok (.ireturn, 1) := by decide +kernel
theorem dX7_sheet_51 : decode cX7_sheet 51 = .ok (.aload_n 0, 1) := by decide +kernel
theorem dX7_sheet_52 : decode cX7_sheet 52 = .ok (.getfield 49, 3) := by decide +kernel
theorem dX7_sheet_55 : decode cX7_sheet 55 = .ok (.iload_n 1, 1) := by decide +kernel
theorem dX7_sheet_56 : decode cX7_sheet 56 = .ok (.aaload, 1) := by decide +kernel
theorem dX7_sheet_57 : decode cX7_sheet 57 = .ok (.iload_n 2, 1) := by decide +kernel
theorem dX7_sheet_58 : decode cX7_sheet 58 = .ok (.iload_n 3, 1) := by decide +kernel
theorem dX7_sheet_59 : decode cX7_sheet 59 = .ok (.invokevirtual 230, 3) := by decide +kernel
theorem dX7_sheet_62 : decode cX7_sheet 62 = .ok (.iconst 1, 1) := by decide +kernel
theorem dX7_sheet_63 : decode cX7_sheet 63 = .ok (.ireturn, 1) := by decide +kernel
theorem dX7_cell_0 : decode cX7_cell 0 = .ok (.iload_n 1, 1) := by decide +kernel
theorem dX7_cell_1 : decode cX7_cell 1 = .ok (.invokestatic 197, 3) := by decide +kernel
theorem dX7_cell_4 : decode cX7_cell 4 = .ok (.ifCond .ne 6, 3) := by decide +kernel
theorem dX7_cell_7 : decode cX7_cell 7 = .ok (.bipush (-2), 2) := by decide +kernel
theorem dX7_cell_9 : decode cX7_cell 9 = .ok (.ireturn, 1) := by decide +kernel
theorem dX7_cell_10 : decode cX7_cell 10 = .ok (.aload_n 0, 1) := by decide +kernel
theorem dX7_cell_11 : decode cX7_cell 11 = .ok (.getfield 49, 3) := by decide +kernel
theorem dX7_cell_14 : decode cX7_cell 14 = .ok (.iload_n 1, 1) := by decide +kernel
theorem dX7_cell_15 : decode cX7_cell 15 = .ok (.aaload, 1) := by decide +kernel
theorem dX7_cell_16 : decode cX7_cell 16 = .ok (.invokevirtual 200, 3) := by decide +kernel
theorem dX7_cell_19 : decode cX7_cell 19 = .ok (.ifCond .eq 6, 3) := by decide +kernel
theorem dX7_cell_22 : decode cX7_cell 22 = .ok (.bipush (-11), 2) := by decide +kernel
theorem dX7_cell_24 : decode cX7_cell 24 = .ok (.ireturn, 1) := by decide +kernel
theorem dX7_cell_25 : decode cX7_cell 25 = .ok (.aload_n 0, 1) := by decide +kernel
theorem dX7_cell_26 : decode cX7_cell 26 = .ok (.getfield 49, 3) := by decide +kernel
theorem dX7_cell_29 : decode cX7_cell 29 = .ok (.iload_n 1, 1) := by decide +kernel
theorem dX7_cell_30 : decode cX7_cell 30 = .ok (.aaload, 1) := by decide +kernel
theorem dX7_cell_31 : decode cX7_cell 31 = .ok (.iload_n 2, 1) := by decide +kernel
theorem dX7_cell_32 : decode cX7_cell 32 = .ok (.invokevirtual 233, 3) := by decide +kernel
theorem dX7_cell_35 : decode cX7_cell 35 = .ok (.ifCond .ne 6, 3) := by decide +kernel
theorem dX7_cell_38 : decode cX7_cell 38 = .ok (.bipush (-12), 2) := by decide +kernel
theorem dX7_cell_40 : decode cX7_cell 40 = .ok (.ireturn, 1) := by decide +kernel
theorem dX7_cell_41 : decode cX7_cell 41 = .ok (.aload_n 0, 1) := by decide +kernel
theorem dX7_cell_42 : decode cX7_cell 42 = .ok (.getfield 49, 3) := by decide +kernel
theorem dX7_cell_45 : decode cX7_cell 45 = .ok (.iload_n 1, 1) := by decide +kernel
theorem dX7_cell_46 : decode cX7_cell 46 = .ok (.aaload, 1) := by decide +kernel
theorem dX7_cell_47 : decode cX7_cell 47 = .ok (.iload_n 2, 1) := by decide +kernel
theorem dX7_cell_48 : decode cX7_cell 48 = .ok (.iload_n 3, 1) := by decide +kernel
theorem dX7_cell_49 : decode cX7_cell 49 = .ok (.invokevirtual 236, 3) := by decide +kernel
theorem dX7_cell_52 : decode cX7_cell 52 = .ok (.iconst 1, 1) := by decide +kernel
theorem dX7_cell_53 : decode cX7_cell 53 = .ok (.ireturn, 1) := by decide +kernel
theorem dX7_copy_0 : decode cX7_copy 0 = .ok (.iload_n 1, 1) := by decide +kernel
theorem dX7_copy_1 : decode cX7_copy 1 = .ok (.invokestatic 197, 3) := by decide +kernel
theorem dX7_copy_4 : decode cX7_copy 4 = .ok (.ifCond .eq 10, 3) := by decide +kernel
theorem dX7_copy_7 : decode cX7_copy 7 = .ok (.iload_n 3, 1) := by decide +kernel
theorem dX7_copy_8 : decode cX7_copy 8 = .ok (.invokestatic 197, 3) := by decide +kernel
theorem dX7_copy_11 : decode cX7_copy 11 = .ok (.ifCond .ne 6, 3) := by decide +kernel
theorem dX7_copy_14 : decode cX7_copy 14 = .ok (.bipush (-2), 2) := by decide +kernel
theorem dX7_copy_16 : decode cX7_copy 16 = .ok (.ireturn, 1) := by decide +kernel
theorem dX7_copy_17 : decode cX7_copy 17 = .ok (.aload_n 0, 1) := by decide +kernel
theorem dX7_copy_18 : decode cX7_copy 18 = .ok (.getfield 49, 3) := by decide +kernel
theorem dX7_copy_21 : decode cX7_copy 21 = .ok (.iload_n 1, 1) := by decide +kernel
theorem dX7_copy_22 : decode cX7_copy 22 = .ok (.aaload, 1) := by decide +kernel
theorem dX7_copy_23 : decode cX7_copy 23 = .ok (.astore 6, 2) := by decide +kernel
theorem dX7_copy_25 : decode cX7_copy 25 = .ok (.aload_n 0, 1) := by decide +kernel
theorem dX7_copy_26 : decode cX7_copy 26 = .ok (.getfield 49, 3) := by decide +kernel
theorem dX7_copy_29 : decode cX7_copy 29 = .ok (.iload_n 3, 1) := by decide +kernel
theorem dX7_copy_30 : decode cX7_copy 30 = .ok (.aaload, 1) := by decide +kernel
theorem dX7_copy_31 : decode cX7_copy 31 = .ok (.astore 7, 2) := by decide +kernel
theorem dX7_copy_33 : decode cX7_copy 33 = .ok (.aload 6, 2) := by decide +kernel
theorem dX7_copy_35 : decode cX7_copy 35 = .ok (.invokevirtual 200, 3) := by decide +kernel
theorem dX7_copy_38 : decode cX7_copy 38 = .ok (.ifCond .ne 11, 3) := by decide +kernel
theorem dX7_copy_41 : decode cX7_copy 41 = .ok (.aload 7, 2) := by decide +kernel
theorem dX7_copy_43 : decode cX7_copy 43 = .ok (.invokevirtual 200, 3) := by decide +kernel
theorem dX7_copy_46 : decode cX7_copy 46 = .ok (.ifCond .eq 6, 3) := by decide +kernel
theorem dX7_copy_49 : decode cX7_copy 49 = .ok (.bipush (-11), 2) := by decide +kernel
theorem dX7_copy_51 : decode cX7_copy 51 = .ok (.ireturn, 1) := by decide +kernel
theorem dX7_copy_52 : decode cX7_copy 52 = .ok (.aload 6, 2) := by decide +kernel
theorem dX7_copy_54 : decode cX7_copy 54 = .ok (.getfield 239, 3) := by decide +kernel
theorem dX7_copy_57 : decode cX7_copy 57 = .ok (.aload 7, 2) := by decide +kernel
theorem dX7_copy_59 : decode cX7_copy 59 = .ok (.getfield 239, 3) := by decide +kernel
theorem dX7_copy_62 : decode cX7_copy 62 = .ok (.if_icmp .eq 6, 3) := by decide +kernel
theorem dX7_copy_65 : decode cX7_copy 65 = .ok (.bipush (-13), 2) := by decide +kernel
theorem dX7_copy_67 : decode cX7_copy 67 = .ok (.ireturn, 1) := by decide +kernel
theorem dX7_copy_68 : decode cX7_copy 68 = .ok (.aload 6, 2) := by decide +kernel
theorem dX7_copy_70 : decode cX7_copy 70 = .ok (.iload_n 2, 1) := by decide +kernel
theorem dX7_copy_71 : decode cX7_copy 71 = .ok (.iload 5, 2) := by decide +kernel
theorem dX7_copy_73 : decode cX7_copy 73 = .ok (.invokevirtual 242, 3) := by decide +kernel
theorem dX7_copy_76 : decode cX7_copy 76 = .ok (.ifCond .eq 15, 3) := by decide +kernel
theorem dX7_copy_79 : decode cX7_copy 79 = .ok (.aload 7, 2) := by decide +kernel
theorem dX7_copy_81 : decode cX7_copy 81 = .ok (.iload 4, 2) := by decide +kernel
theorem dX7_copy_83 : decode cX7_copy 83 = .ok (.iload 5, 2) := by decide +kernel
theorem dX7_copy_85 : decode cX7_copy 85 = .ok (.invokevirtual 242, 3) := by decide +kernel
theorem dX7_copy_88 : decode cX7_copy 88 = .ok (.ifCond .ne 6, 3) := by decide +kernel
theorem dX7_copy_91 : decode cX7_copy 91 = .ok (.bipush (-12), 2) := by decide +kernel
theorem dX7_copy_93 : decode cX7_copy 93 = .ok (.ireturn, 1) := by decide +kernel
theorem dX7_copy_94 : decode cX7_copy 94 = .ok (.aload 6, 2) := by decide +kernel
theorem dX7_copy_96 : decode cX7_copy 96 = .ok (.getfield 245, 3) := by decide +kernel
theorem dX7_copy_99 : decode cX7_copy 99 = .ok (.iload_n 2, 1) := by decide +kernel
theorem dX7_copy_100 : decode cX7_copy 100 = .ok (.aload 7, 2) := by decide +kernel
theorem dX7_copy_102 : decode cX7_copy 102 = .ok (.getfield 245, 3) := by decide +kernel
theorem dX7_copy_105 : decode cX7_copy 105 = .ok (.iload 4, 2) := by decide +kernel
theorem dX7_copy_107 : decode cX7_copy 107 = .ok (.iload 5, 2) := by decide +kernel
theorem dX7_copy_109 : decode cX7_copy 109 = .ok (.invokestatic 248, 3) := by decide +kernel
theorem dX7_copy_112 : decode cX7_copy 112 = .ok (.iload 5, 2) := by decide +kernel
theorem dX7_copy_114 : decode cX7_copy 114 = .ok (.ireturn, 1) := by decide +kernel
theorem dX7_floors_0 : decode cX7_floors 0 = .ok (.iload_n 1, 1) := by decide +kernel
theorem dX7_floors_1 : decode cX7_floors 1 = .ok (.invokestatic 197, 3) := by decide +kernel
theorem dX7_floors_4 : decode cX7_floors 4 = .ok (.ifCond .eq 23, 3) := by decide +kernel
theorem dX7_floors_7 : decode cX7_floors 7 = .ok (.iload_n 2, 1) := by decide +kernel
theorem dX7_floors_8 : decode cX7_floors 8 = .ok (.iconst 0, 1) := by decide +kernel
theorem dX7_floors_9 : decode cX7_floors 9 = .ok (.iconst 2, 1) := by decide +kernel
theorem dX7_floors_10 : decode cX7_floors 10 = .ok (.invokestatic 74, 3) := by decide +kernel
theorem dX7_floors_13 : decode cX7_floors 13 = .ok (.ifCond .eq 14, 3) := by decide +kernel
theorem dX7_floors_16 : decode cX7_floors 16 = .ok (.iload 4, 2) := by decide +kernel
theorem dX7_floors_18 : decode cX7_floors 18 = .ok (.iconst 0, 1) := by decide +kernel
theorem dX7_floors_19 : decode cX7_floors 19 = .ok (.bipush 20, 2) := by decide +kernel
theorem dX7_floors_21 : decode cX7_floors 21 = .ok (.invokestatic 74, 3) := by decide +kernel
theorem dX7_floors_24 : decode cX7_floors 24 = .ok (.ifCond .ne 6, 3) := by decide +kernel
theorem dX7_floors_27 : decode cX7_floors 27 = .ok (.bipush (-2), 2) := by decide +kernel
theorem dX7_floors_29 : decode cX7_floors 29 = .ok (.ireturn, 1) := by decide +kernel
theorem dX7_floors_30 : decode cX7_floors 30 = .ok (.aload_n 0, 1) := by decide +kernel
theorem dX7_floors_31 : decode cX7_floors 31 = .ok (.getfield 49, 3) := by decide +kernel
theorem dX7_floors_34 : decode cX7_floors 34 = .ok (.iload_n 1, 1) := by decide +kernel
theorem dX7_floors_35 : decode cX7_floors 35 = .ok (.aaload, 1) := by decide +kernel
theorem dX7_floors_36 : decode cX7_floors 36 = .ok (.astore 5, 2) := by decide +kernel
theorem dX7_floors_38 : decode cX7_floors 38 = .ok (.aload 5, 2) := by decide +kernel
theorem dX7_floors_40 : decode cX7_floors 40 = .ok (.invokevirtual 200, 3) := by decide +kernel
theorem dX7_floors_43 : decode cX7_floors 43 = .ok (.ifCond .eq 6, 3) := by decide +kernel
theorem dX7_floors_46 : decode cX7_floors 46 = .ok (.bipush (-11), 2) := by decide +kernel
theorem dX7_floors_48 : decode cX7_floors 48 = .ok (.ireturn, 1) := by decide +kernel
theorem dX7_floors_49 : decode cX7_floors 49 = .ok (.aload 5, 2) := by decide +kernel
theorem dX7_floors_51 : decode cX7_floors 51 = .ok (.getfield 239, 3) := by decide +kernel
theorem dX7_floors_54 : decode cX7_floors 54 = .ok (.iload_n 2, 1) := by decide +kernel
theorem dX7_floors_55 : decode cX7_floors 55 = .ok (.if_icmp .eq 6, 3) := by decide +kernel
theorem dX7_floors_58 : decode cX7_floors 58 = .ok (.bipush (-13), 2) := by decide +kernel
theorem dX7_floors_60 : decode cX7_floors 60 = .ok (.ireturn, 1) := by decide +kernel
theorem dX7_floors_61 : decode cX7_floors 61 = .ok (.iconst 0, 1) := by decide +kernel
theorem dX7_floors_62 : decode cX7_floors 62 = .ok (.istore 6, 2) := by decide +kernel
theorem dX7_floors_64 : decode cX7_floors 64 = .ok (.iconst 0, 1) := by decide +kernel
theorem dX7_floors_65 : decode cX7_floors 65 = .ok (.istore 7, 2) := by decide +kernel
theorem dX7_floors_67 : decode cX7_floors 67 = .ok (.iload 7, 2) := by decide +kernel
theorem dX7_floors_69 : decode cX7_floors 69 = .ok (.iload 4, 2) := by decide +kernel
theorem dX7_floors_71 : decode cX7_floors 71 = .ok (.if_icmp .ge 61, 3) := by decide +kernel
theorem dX7_floors_74 : decode cX7_floors 74 = .ok (.iload_n 3, 1) := by decide +kernel
theorem dX7_floors_75 : decode cX7_floors 75 = .ok (.iconst 2, 1) := by decide +kernel
theorem dX7_floors_76 : decode cX7_floors 76 = .ok (.iload 7, 2) := by decide +kernel
theorem dX7_floors_78 : decode cX7_floors 78 = .ok (.imul, 1) := by decide +kernel
theorem dX7_floors_79 : decode cX7_floors 79 = .ok (.iadd, 1) := by decide +kernel
theorem dX7_floors_80 : decode cX7_floors 80 = .ok (.istore 8, 2) := by decide +kernel
theorem dX7_floors_82 : decode cX7_floors 82 = .ok (.aload 5, 2) := by decide +kernel
theorem dX7_floors_84 : decode cX7_floors 84 = .ok (.iload 8, 2) := by decide +kernel
theorem dX7_floors_86 : decode cX7_floors 86 = .ok (.iconst 2, 1) := by decide +kernel
theorem dX7_floors_87 : decode cX7_floors 87 = .ok (.invokevirtual 242, 3) := by decide +kernel
theorem dX7_floors_90 : decode cX7_floors 90 = .ok (.ifCond .ne 6, 3) := by decide +kernel
theorem dX7_floors_93 : decode cX7_floors 93 = .ok (.bipush (-12), 2) := by decide +kernel
theorem dX7_floors_95 : decode cX7_floors 95 = .ok (.ireturn, 1) := by decide +kernel
theorem dX7_floors_96 : decode cX7_floors 96 = .ok (.aload_n 0, 1) := by decide +kernel
theorem dX7_floors_97 : decode cX7_floors 97 = .ok (.aload 5, 2) := by decide +kernel
theorem dX7_floors_99 : decode cX7_floors 99 = .ok (.getfield 245, 3) := by decide +kernel
theorem dX7_floors_102 : decode cX7_floors 102 = .ok (.iload 8, 2) := by decide +kernel
theorem dX7_floors_104 : decode cX7_floors 104 = .ok (.iaload, 1) := by decide +kernel
theorem dX7_floors_105 : decode cX7_floors 105 = .ok (.aload 5, 2) := by decide +kernel
theorem dX7_floors_107 : decode cX7_floors 107 = .ok (.getfield 245, 3) := by decide +kernel
theorem dX7_floors_110 : decode cX7_floors 110 = .ok (.iload 8, 2) := by decide +kernel
theorem dX7_floors_112 : decode cX7_floors 112 = .ok (.iconst 1, 1) := by decide +kernel
theorem dX7_floors_113 : decode cX7_floors 113 = .ok (.iadd, 1) := by decide +kernel
theorem dX7_floors_114 : decode cX7_floors 114 = .ok (.iaload, 1) := by decide +kernel
theorem dX7_floors_115 : decode cX7_floors 115 = .ok (.invokevirtual 254, 3) := by decide +kernel
theorem dX7_floors_118 : decode cX7_floors 118 = .ok (.bipush (-2), 2) := by decide +kernel
theorem dX7_floors_120 : decode cX7_floors 120 = .ok (.if_icmp .eq 6, 3) := by decide +kernel
theorem dX7_floors_123 : decode cX7_floors 123 = .ok (.iinc 6 1, 3) := by decide +kernel
theorem dX7_floors_126 : decode cX7_floors 126 = .ok (.iinc 7 1, 3) := by decide +kernel
theorem dX7_floors_129 : decode cX7_floors 129 = .ok (.goto (-62), 3) := by decide +kernel
theorem dX7_floors_132 : decode cX7_floors 132 = .ok (.iload 6, 2) := by decide +kernel
theorem dX7_floors_134 : decode cX7_floors 134 = .ok (.ireturn, 1) := by decide +kernel
theorem dX7_taken_0 : decode cX7_taken 0 = .ok (.iload_n 2, 1) := by decide +kernel
theorem dX7_taken_1 : decode cX7_taken 1 = .ok (.invokestatic 85, 3) := by decide +kernel
theorem dX7_taken_4 : decode cX7_taken 4 = .ok (.ifCond .ne 6, 3) := by decide +kernel
theorem dX7_taken_7 : decode cX7_taken 7 = .ok (.bipush (-2), 2) := by decide +kernel
theorem dX7_taken_9 : decode cX7_taken 9 = .ok (.ireturn, 1) := by decide +kernel
theorem dX7_taken_10 : decode cX7_taken 10 = .ok (.iload_n 1, 1) := by decide +kernel
theorem dX7_taken_11 : decode cX7_taken 11 = .ok (.invokestatic 82, 3) := by decide +kernel
theorem dX7_taken_14 : decode cX7_taken 14 = .ok (.ifCond .ne 6, 3) := by decide +kernel
theorem dX7_taken_17 : decode cX7_taken 17 = .ok (.bipush (-11), 2) := by decide +kernel
theorem dX7_taken_19 : decode cX7_taken 19 = .ok (.ireturn, 1) := by decide +kernel
theorem dX7_taken_20 : decode cX7_taken 20 = .ok (.aload_n 0, 1) := by decide +kernel
theorem dX7_taken_21 : decode cX7_taken 21 = .ok (.getfield 10, 3) := by decide +kernel
theorem dX7_taken_24 : decode cX7_taken 24 = .ok (.getfield 88, 3) := by decide +kernel
theorem dX7_taken_27 : decode cX7_taken 27 = .ok (.iload_n 1, 1) := by decide +kernel
theorem dX7_taken_28 : decode cX7_taken 28 = .ok (.aaload, 1) := by decide +kernel
theorem dX7_taken_29 : decode cX7_taken 29 = .ok (.iload_n 2, 1) := by decide +kernel
theorem dX7_taken_30 : decode cX7_taken 30 = .ok (.invokevirtual 257, 3) := by decide +kernel
theorem dX7_taken_33 : decode cX7_taken 33 = .ok (.ifCond .eq 18, 3) := by decide +kernel
theorem dX7_taken_36 : decode cX7_taken 36 = .ok (.aload_n 0, 1) := by decide +kernel
theorem dX7_taken_37 : decode cX7_taken 37 = .ok (.getfield 10, 3) := by decide +kernel
theorem dX7_taken_40 : decode cX7_taken 40 = .ok (.getfield 88, 3) := by decide +kernel
theorem dX7_taken_43 : decode cX7_taken 43 = .ok (.iload_n 1, 1) := by decide +kernel
theorem dX7_taken_44 : decode cX7_taken 44 = .ok (.aaload, 1) := by decide +kernel
theorem dX7_taken_45 : decode cX7_taken 45 = .ok (.getfield 108, 3) := by decide +kernel
theorem dX7_taken_48 : decode cX7_taken 48 = .ok (.goto 5, 3) := by decide +kernel
theorem dX7_taken_51 : decode cX7_taken 51 = .ok (.bipush (-13), 2) := by decide +kernel
theorem dX7_taken_53 : decode cX7_taken 53 = .ok (.ireturn, 1) := by decide +kernel
theorem dX7_within_0 : decode cX7_within 0 = .ok (.iload_n 0, 1) := by decide +kernel
theorem dX7_within_1 : decode cX7_within 1 = .ok (.iload_n 1, 1) := by decide +kernel
theorem dX7_within_2 : decode cX7_within 2 = .ok (.if_icmp .lt 12, 3) := by decide +kernel
theorem dX7_within_5 : decode cX7_within 5 = .ok (.iload_n 0, 1) := by decide +kernel
theorem dX7_within_6 : decode cX7_within 6 = .ok (.iload_n 2, 1) := by decide +kernel
theorem dX7_within_7 : decode cX7_within 7 = .ok (.if_icmp .gt 7, 3) := by decide +kernel
theorem dX7_within_10 : decode cX7_within 10 = .ok (.iconst 1, 1) := by decide +kernel
theorem dX7_within_11 : decode cX7_within 11 = .ok (.goto 4, 3) := by decide +kernel
theorem dX7_within_14 : decode cX7_within 14 = .ok (.iconst 0, 1) := by decide +kernel
theorem dX7_within_15 : decode cX7_within 15 = .ok (.ireturn, 1) := by decide +kernel
theorem dX7_held_0 : decode cX7_held 0 = .ok (.iload_n 0, 1) := by decide +kernel
theorem dX7_held_1 : decode cX7_held 1 = .ok (.iload_n 1, 1) := by decide +kernel
theorem dX7_held_2 : decode cX7_held 2 = .ok (.if_icmp .ge 5, 3) := by decide +kernel
theorem dX7_held_5 : decode cX7_held 5 = .ok (.iload_n 1, 1) := by decide +kernel
theorem dX7_held_6 : decode cX7_held 6 = .ok (.ireturn, 1) := by decide +kernel
theorem dX7_held_7 : decode cX7_held 7 = .ok (.iload_n 0, 1) := by decide +kernel
theorem dX7_held_8 : decode cX7_held 8 = .ok (.iload_n 2, 1) := by decide +kernel
theorem dX7_held_9 : decode cX7_held 9 = .ok (.if_icmp .le 7, 3) := by decide +kernel
theorem dX7_held_12 : decode cX7_held 12 = .ok (.iload_n 2, 1) := by decide +kernel
theorem dX7_held_13 : decode cX7_held 13 = .ok (.goto 4, 3) := by decide +kernel
theorem dX7_held_16 : decode cX7_held 16 = .ok (.iload_n 0, 1) := by decide +kernel
theorem dX7_held_17 : decode cX7_held 17 = .ok (.ireturn, 1) := by decide +kernel
theorem dX7_round_0 : decode cX7_round 0 = .ok (.iload_n 0, 1) := by decide +kernel
theorem dX7_round_1 : decode cX7_round 1 = .ok (.bipush 8, 2) := by decide +kernel
theorem dX7_round_3 : decode cX7_round 3 = .ok (.invokestatic 260, 3) := by decide +kernel
theorem dX7_round_6 : decode cX7_round 6 = .ok (.ireturn, 1) := by decide +kernel
theorem dX7_isLeg_0 : decode cX7_isLeg 0 = .ok (.iload_n 0, 1) := by decide +kernel
theorem dX7_isLeg_1 : decode cX7_isLeg 1 = .ok (.iconst 0, 1) := by decide +kernel
theorem dX7_isLeg_2 : decode cX7_isLeg 2 = .ok (.iconst 3, 1) := by decide +kernel
theorem dX7_isLeg_3 : decode cX7_isLeg 3 = .ok (.invokestatic 74, 3) := by decide +kernel
theorem dX7_isLeg_6 : decode cX7_isLeg 6 = .ok (.ireturn, 1) := by decide +kernel
theorem dX7_isKind_0 : decode cX7_isKind 0 = .ok (.iload_n 0, 1) := by decide +kernel
theorem dX7_isKind_1 : decode cX7_isKind 1 = .ok (.iconst 0, 1) := by decide +kernel
theorem dX7_isKind_2 : decode cX7_isKind 2 = .ok (.iconst 5, 1) := by decide +kernel
theorem dX7_isKind_3 : decode cX7_isKind 3 = .ok (.invokestatic 74, 3) := by decide +kernel
theorem dX7_isKind_6 : decode cX7_isKind 6 = .ok (.ireturn, 1) := by decide +kernel
theorem dX7_isSheet_0 : decode cX7_isSheet 0 = .ok (.iload_n 0, 1) := by decide +kernel
theorem dX7_isSheet_1 : decode cX7_isSheet 1 = .ok (.iconst 0, 1) := by decide +kernel
theorem dX7_isSheet_2 : decode cX7_isSheet 2 = .ok (.iconst 3, 1) := by decide +kernel
theorem dX7_isSheet_3 : decode cX7_isSheet 3 = .ok (.invokestatic 74, 3) := by decide +kernel
theorem dX7_isSheet_6 : decode cX7_isSheet 6 = .ok (.ireturn, 1) := by decide +kernel
theorem dX7_nextDraw_0 : decode cX7_nextDraw 0 = .ok (.iload_n 0, 1) := by decide +kernel
theorem dX7_nextDraw_1 : decode cX7_nextDraw 1 = .ok (.ldc_w 263, 3) := by decide +kernel
theorem dX7_nextDraw_4 : decode cX7_nextDraw 4 = .ok (.imul, 1) := by decide +kernel
theorem dX7_nextDraw_5 : decode cX7_nextDraw 5 = .ok (.sipush 12345, 3) := by decide +kernel
theorem dX7_nextDraw_8 : decode cX7_nextDraw 8 = .ok (.iadd, 1) := by decide +kernel
theorem dX7_nextDraw_9 : decode cX7_nextDraw 9 = .ok (.ireturn, 1) := by decide +kernel
theorem dX7_commonDivisor_0 : decode cX7_commonDivisor 0 = .ok (.iconst 1, 1) := by decide +kernel
theorem dX7_commonDivisor_1 : decode cX7_commonDivisor 1 = .ok (.istore_n 2, 1) := by decide +kernel
theorem dX7_commonDivisor_2 : decode cX7_commonDivisor 2 = .ok (.iconst 2, 1) := by decide +kernel
theorem dX7_commonDivisor_3 : decode cX7_commonDivisor 3 = .ok (.istore_n 3, 1) := by decide +kernel
theorem dX7_commonDivisor_4 : decode cX7_commonDivisor 4 = .ok (.iload_n 3, 1) := by decide +kernel
theorem dX7_commonDivisor_5 : decode cX7_commonDivisor 5 = .ok (.iload_n 1, 1) := by decide +kernel
theorem dX7_commonDivisor_6 : decode cX7_commonDivisor 6 = .ok (.if_icmp .gt 23, 3) := by decide +kernel
theorem dX7_commonDivisor_9 : decode cX7_commonDivisor 9 = .ok (.iload_n 0, 1) := by decide +kernel
theorem dX7_commonDivisor_10 : decode cX7_commonDivisor 10 = .ok (.iload_n 3, 1) := by decide +kernel
theorem dX7_commonDivisor_11 : decode cX7_commonDivisor 11 = .ok (.irem, 1) := by decide +kernel
theorem dX7_commonDivisor_12 : decode cX7_commonDivisor 12 = .ok (.ifCond .ne 11, 3) := by decide +kernel
theorem dX7_commonDivisor_15 : decode cX7_commonDivisor 15 = .ok (.iload_n 1, 1) := by decide +kernel
theorem dX7_commonDivisor_16 : decode cX7_commonDivisor 16 = .ok (.iload_n 3, 1) := by decide +kernel
theorem dX7_commonDivisor_17 : decode cX7_commonDivisor 17 = .ok (.irem, 1) := by decide +kernel
theorem dX7_commonDivisor_18 : decode cX7_commonDivisor 18 = .ok (.ifCond .ne 5, 3) := by decide +kernel
theorem dX7_commonDivisor_21 : decode cX7_commonDivisor 21 = .ok (.iload_n 3, 1) := by decide +kernel
theorem dX7_commonDivisor_22 : decode cX7_commonDivisor 22 = .ok (.istore_n 2, 1) := by decide +kernel
theorem dX7_commonDivisor_23 : decode cX7_commonDivisor 23 = .ok (.iinc 3 1, 3) := by decide +kernel
theorem dX7_commonDivisor_26 : decode cX7_commonDivisor 26 = .ok (.goto (-22), 3) := by decide +kernel
theorem dX7_commonDivisor_29 : decode cX7_commonDivisor 29 = .ok (.iload_n 2, 1) := by decide +kernel
theorem dX7_commonDivisor_30 : decode cX7_commonDivisor 30 = .ok (.ireturn, 1) := by decide +kernel
theorem dX7_setOfLeg_0 : decode cX7_setOfLeg 0 = .ok (.iload_n 2, 1) := by decide +kernel
theorem dX7_setOfLeg_1 : decode cX7_setOfLeg 1 = .ok (.invokestatic 82, 3) := by decide +kernel
theorem dX7_setOfLeg_4 : decode cX7_setOfLeg 4 = .ok (.ifCond .eq 22, 3) := by decide +kernel
theorem dX7_setOfLeg_7 : decode cX7_setOfLeg 7 = .ok (.iload_n 3, 1) := by decide +kernel
theorem dX7_setOfLeg_8 : decode cX7_setOfLeg 8 = .ok (.iconst 0, 1) := by decide +kernel
theorem dX7_setOfLeg_9 : decode cX7_setOfLeg 9 = .ok (.iload_n 1, 1) := by decide +kernel
theorem dX7_setOfLeg_10 : decode cX7_setOfLeg 10 = .ok (.ifCond .ne 8, 3) := by decide +kernel
theorem dX7_setOfLeg_13 : decode cX7_setOfLeg 13 = .ok (.bipush 99, 2) := by decide +kernel
theorem dX7_setOfLeg_15 : decode cX7_setOfLeg 15 = .ok (.goto 5, 3) := by decide +kernel
theorem dX7_setOfLeg_18 : decode cX7_setOfLeg 18 = .ok (.bipush 9, 2) := by decide +kernel
theorem dX7_setOfLeg_20 : decode cX7_setOfLeg 20 = .ok (.invokestatic 74, 3) := by decide +kernel
theorem dX7_setOfLeg_23 : decode cX7_setOfLeg 23 = .ok (.ifCond .ne 6, 3) := by decide +kernel
theorem dX7_setOfLeg_26 : decode cX7_setOfLeg 26 = .ok (.bipush (-2), 2) := by decide +kernel
theorem dX7_setOfLeg_28 : decode cX7_setOfLeg 28 = .ok (.ireturn, 1) := by decide +kernel
theorem dX7_setOfLeg_29 : decode cX7_setOfLeg 29 = .ok (.aload_n 0, 1) := by decide +kernel
theorem dX7_setOfLeg_30 : decode cX7_setOfLeg 30 = .ok (.getfield 10, 3) := by decide +kernel
theorem dX7_setOfLeg_33 : decode cX7_setOfLeg 33 = .ok (.getfield 88, 3) := by decide +kernel
theorem dX7_setOfLeg_36 : decode cX7_setOfLeg 36 = .ok (.iload_n 2, 1) := by decide +kernel
theorem dX7_setOfLeg_37 : decode cX7_setOfLeg 37 = .ok (.aaload, 1) := by decide +kernel
theorem dX7_setOfLeg_38 : decode cX7_setOfLeg 38 = .ok (.astore 4, 2) := by decide +kernel
theorem dX7_setOfLeg_40 : decode cX7_setOfLeg 40 = .ok (.iload_n 1, 1) := by decide +kernel
theorem dX7_setOfLeg_41 : decode cX7_setOfLeg 41 = .ok (.ifCond .ne 11, 3) := by decide +kernel
theorem dX7_setOfLeg_44 : decode cX7_setOfLeg 44 = .ok (.aload 4, 2) := by decide +kernel
theorem dX7_setOfLeg_46 : decode cX7_setOfLeg 46 = .ok (.getfield 108, 3) := by decide +kernel
theorem dX7_setOfLeg_49 : decode cX7_setOfLeg 49 = .ok (.goto 8, 3) := by decide +kernel
theorem dX7_setOfLeg_52 : decode cX7_setOfLeg 52 = .ok (.aload 4, 2) := by decide +kernel
theorem dX7_setOfLeg_54 : decode cX7_setOfLeg 54 = .ok (.getfield 97, 3) := by decide +kernel
theorem dX7_setOfLeg_57 : decode cX7_setOfLeg 57 = .ok (.istore 5, 2) := by decide +kernel
theorem dX7_setOfLeg_59 : decode cX7_setOfLeg 59 = .ok (.iload_n 1, 1) := by decide +kernel
theorem dX7_setOfLeg_60 : decode cX7_setOfLeg 60 = .ok (.ifCond .ne 12, 3) := by decide +kernel
theorem dX7_setOfLeg_63 : decode cX7_setOfLeg 63 = .ok (.aload 4, 2) := by decide +kernel
theorem dX7_setOfLeg_65 : decode cX7_setOfLeg 65 = .ok (.iload_n 3, 1) := by decide +kernel
theorem dX7_setOfLeg_66 : decode cX7_setOfLeg 66 = .ok (.putfield 108, 3) := by decide +kernel
theorem dX7_setOfLeg_69 : decode cX7_setOfLeg 69 = .ok (.goto 9, 3) := by decide +kernel
theorem dX7_setOfLeg_72 : decode cX7_setOfLeg 72 = .ok (.aload 4, 2) := by decide +kernel
theorem dX7_setOfLeg_74 : decode cX7_setOfLeg 74 = .ok (.iload_n 3, 1) := by decide +kernel
theorem dX7_setOfLeg_75 : decode cX7_setOfLeg 75 = .ok (.putfield 97, 3) := by decide +kernel
theorem dX7_setOfLeg_78 : decode cX7_setOfLeg 78 = .ok (.iload 5, 2) := by decide +kernel
theorem dX7_setOfLeg_80 : decode cX7_setOfLeg 80 = .ok (.ireturn, 1) := by decide +kernel
theorem dX7_setOfTable_0 : decode cX7_setOfTable 0 = .ok (.bipush (-2), 2) := by decide +kernel
theorem dX7_setOfTable_2 : decode cX7_setOfTable 2 = .ok (.istore_n 3, 1) := by decide +kernel
theorem dX7_setOfTable_3 : decode cX7_setOfTable 3 = .ok (.iload_n 1, 1) := by decide +kernel
theorem dX7_setOfTable_4 : decode cX7_setOfTable 4 = .ok (.iconst 2, 1) := by decide +kernel
theorem dX7_setOfTable_5 : decode cX7_setOfTable 5 = .ok (.if_icmp .ne 32, 3) := by decide +kernel
theorem dX7_setOfTable_8 : decode cX7_setOfTable 8 = .ok (.iload_n 2, 1) := by decide +kernel
theorem dX7_setOfTable_9 : decode cX7_setOfTable 9 = .ok (.iconst 0, 1) := by decide +kernel
theorem dX7_setOfTable_10 : decode cX7_setOfTable 10 = .ok (.bipush 63, 2) := by decide +kernel
theorem dX7_setOfTable_12 : decode cX7_setOfTable 12 = .ok (.invokestatic 74, 3) := by decide +kernel
theorem dX7_setOfTable_15 : decode cX7_setOfTable 15 = .ok (.ifCond .eq 22, 3) := by decide +kernel
theorem dX7_setOfTable_18 : decode cX7_setOfTable 18 = .ok (.aload_n 0, 1) := by decide +kernel
theorem dX7_setOfTable_19 : decode cX7_setOfTable 19 = .ok (.getfield 10, 3) := by decide +kernel
theorem dX7_setOfTable_22 : decode cX7_setOfTable 22 = .ok (.getfield 117, 3) := by decide +kernel
theorem dX7_setOfTable_25 : decode cX7_setOfTable 25 = .ok (.istore_n 3, 1) := by decide +kernel
theorem dX7_setOfTable_26 : decode cX7_setOfTable 26 = .ok (.aload_n 0, 1) := by decide +kernel
theorem dX7_setOfTable_27 : decode cX7_setOfTable 27 = .ok (.getfield 10, 3) := by decide +kernel
theorem dX7_setOfTable_30 : decode cX7_setOfTable 30 = .ok (.iload_n 2, 1) := by decide +kernel
theorem dX7_setOfTable_31 : decode cX7_setOfTable 31 = .ok (.putfield 117, 3) := by decide +kernel
theorem dX7_setOfTable_34 : decode cX7_setOfTable 34 = .ok (.goto 101, 3) := by decide +kernel
theorem dX7_setOfTable_37 : decode cX7_setOfTable 37 = .ok (.iload_n 1, 1) := by decide +kernel
theorem dX7_setOfTable_38 : decode cX7_setOfTable 38 = .ok (.iconst 3, 1) := by decide +kernel
theorem dX7_setOfTable_39 : decode cX7_setOfTable 39 = .ok (.if_icmp .ne 31, 3) := by decide +kernel
theorem dX7_setOfTable_42 : decode cX7_setOfTable 42 = .ok (.iload_n 2, 1) := by decide +kernel
theorem dX7_setOfTable_43 : decode cX7_setOfTable 43 = .ok (.iconst 1, 1) := by decide +kernel
theorem dX7_setOfTable_44 : decode cX7_setOfTable 44 = .ok (.iconst 3, 1) := by decide +kernel
theorem dX7_setOfTable_45 : decode cX7_setOfTable 45 = .ok (.invokestatic 74, 3) := by decide +kernel
theorem dX7_setOfTable_48 : decode cX7_setOfTable 48 = .ok (.ifCond .eq 22, 3) := by decide +kernel
theorem dX7_setOfTable_51 : decode cX7_setOfTable 51 = .ok (.aload_n 0, 1) := by decide +kernel
theorem dX7_setOfTable_52 : decode cX7_setOfTable 52 = .ok (.getfield 10, 3) := by decide +kernel
theorem dX7_setOfTable_55 : decode cX7_setOfTable 55 = .ok (.getfield 224, 3) := by decide +kernel
theorem dX7_setOfTable_58 : decode cX7_setOfTable 58 = .ok (.istore_n 3, 1) := by decide +kernel
theorem dX7_setOfTable_59 : decode cX7_setOfTable 59 = .ok (.aload_n 0, 1) := by decide +kernel
theorem dX7_setOfTable_60 : decode cX7_setOfTable 60 = .ok (.getfield 10, 3) := by decide +kernel
theorem dX7_setOfTable_63 : decode cX7_setOfTable 63 = .ok (.iload_n 2, 1) := by decide +kernel
theorem dX7_setOfTable_64 : decode cX7_setOfTable 64 = .ok (.putfield 224, 3) := by decide +kernel
theorem dX7_setOfTable_67 : decode cX7_setOfTable 67 = .ok (.goto 68, 3) := by decide +kernel
theorem dX7_setOfTable_70 : decode cX7_setOfTable 70 = .ok (.iload_n 1, 1) := by decide +kernel
theorem dX7_setOfTable_71 : decode cX7_setOfTable 71 = .ok (.iconst 4, 1) := by decide +kernel
theorem dX7_setOfTable_72 : decode cX7_setOfTable 72 = .ok (.if_icmp .ne 32, 3) := by decide +kernel
theorem dX7_setOfTable_75 : decode cX7_setOfTable 75 = .ok (.iload_n 2, 1) := by decide +kernel
theorem dX7_setOfTable_76 : decode cX7_setOfTable 76 = .ok (.iconst 0, 1) := by decide +kernel
theorem dX7_setOfTable_77 : decode cX7_setOfTable 77 = .ok (.bipush 7, 2) := by decide +kernel
theorem dX7_setOfTable_79 : decode cX7_setOfTable 79 = .ok (.invokestatic 74, 3) := by decide +kernel
theorem dX7_setOfTable_82 : decode cX7_setOfTable 82 = .ok (.ifCond .eq 22, 3) := by decide +kernel
theorem dX7_setOfTable_85 : decode cX7_setOfTable 85 = .ok (.aload_n 0, 1) := by decide +kernel
theorem dX7_setOfTable_86 : decode cX7_setOfTable 86 = .ok (.getfield 10, 3) := by decide +kernel
theorem dX7_setOfTable_89 : decode cX7_setOfTable 89 = .ok (.getfield 120, 3) := by decide +kernel
theorem dX7_setOfTable_92 : decode cX7_setOfTable 92 = .ok (.istore_n 3, 1) := by decide +kernel
theorem dX7_setOfTable_93 : decode cX7_setOfTable 93 = .ok (.aload_n 0, 1) := by decide +kernel
theorem dX7_setOfTable_94 : decode cX7_setOfTable 94 = .ok (.getfield 10, 3) := by decide +kernel
theorem dX7_setOfTable_97 : decode cX7_setOfTable 97 = .ok (.iload_n 2, 1) := by decide +kernel
theorem dX7_setOfTable_98 : decode cX7_setOfTable 98 = .ok (.putfield 120, 3) := by decide +kernel
theorem dX7_setOfTable_101 : decode cX7_setOfTable 101 = .ok (.goto 34, 3) := by decide +kernel
theorem dX7_setOfTable_104 : decode cX7_setOfTable 104 = .ok (.iload_n 1, 1) := by decide +kernel
theorem dX7_setOfTable_105 : decode cX7_setOfTable 105 = .ok (.iconst 5, 1) := by decide +kernel
theorem dX7_setOfTable_106 : decode cX7_setOfTable 106 = .ok (.if_icmp .ne 29, 3) := by decide +kernel
theorem dX7_setOfTable_109 : decode cX7_setOfTable 109 = .ok (.iload_n 2, 1) := by decide +kernel
theorem dX7_setOfTable_110 : decode cX7_setOfTable 110 = .ok (.iconst 0, 1) := by decide +kernel
theorem dX7_setOfTable_111 : decode cX7_setOfTable 111 = .ok (.bipush 9, 2) := by decide +kernel
theorem dX7_setOfTable_113 : decode cX7_setOfTable 113 = .ok (.invokestatic 74, 3) := by decide +kernel
theorem dX7_setOfTable_116 : decode cX7_setOfTable 116 = .ok (.ifCond .eq 19, 3) := by decide +kernel
theorem dX7_setOfTable_119 : decode cX7_setOfTable 119 = .ok (.aload_n 0, 1) := by decide +kernel
theorem dX7_setOfTable_120 : decode cX7_setOfTable 120 = .ok (.getfield 10, 3) := by decide +kernel
theorem dX7_setOfTable_123 : decode cX7_setOfTable 123 = .ok (.getfield 110, 3) := by decide +kernel
theorem dX7_setOfTable_126 : decode cX7_setOfTable 126 = .ok (.istore_n 3, 1) := by decide +kernel
theorem dX7_setOfTable_127 : decode cX7_setOfTable 127 = .ok (.aload_n 0, 1) := by decide +kernel
theorem dX7_setOfTable_128 : decode cX7_setOfTable 128 = .ok (.getfield 10, 3) := by decide +kernel
theorem dX7_setOfTable_131 : decode cX7_setOfTable 131 = .ok (.iload_n 2, 1) := by decide +kernel
theorem dX7_setOfTable_132 : decode cX7_setOfTable 132 = .ok (.putfield 110, 3) := by decide +kernel
theorem dX7_setOfTable_135 : decode cX7_setOfTable 135 = .ok (.iload_n 3, 1) := by decide +kernel
theorem dX7_setOfTable_136 : decode cX7_setOfTable 136 = .ok (.ireturn, 1) := by decide +kernel
theorem dX7_ruleInForce_0 : decode cX7_ruleInForce 0 = .ok (.aload_n 0, 1) := by decide +kernel
theorem dX7_ruleInForce_1 : decode cX7_ruleInForce 1 = .ok (.getfield 32, 3) := by decide +kernel
theorem dX7_ruleInForce_4 : decode cX7_ruleInForce 4 = .ok (.aload_n 0, 1) := by decide +kernel
theorem dX7_ruleInForce_5 : decode cX7_ruleInForce 5 = .ok (.getfield 10, 3) := by decide +kernel
theorem dX7_ruleInForce_8 : decode cX7_ruleInForce 8 = .ok (.getfield 143, 3) := by decide +kernel
theorem dX7_ruleInForce_11 : decode cX7_ruleInForce 11 = .ok (.aaload, 1) := by decide +kernel
theorem dX7_ruleInForce_12 : decode cX7_ruleInForce 12 = .ok (.areturn, 1) := by decide +kernel
theorem dX7_measure_0 : decode cX7_measure 0 = .ok (.aload_n 0, 1) := by decide +kernel
theorem dX7_measure_1 : decode cX7_measure 1 = .ok (.getfield 43, 3) := by decide +kernel
theorem dX7_measure_4 : decode cX7_measure 4 = .ok (.aload_n 0, 1) := by decide +kernel
theorem dX7_measure_5 : decode cX7_measure 5 = .ok (.getfield 10, 3) := by decide +kernel
theorem dX7_measure_8 : decode cX7_measure 8 = .ok (.aload_n 0, 1) := by decide +kernel
theorem dX7_measure_9 : decode cX7_measure 9 = .ok (.invokevirtual 264, 3) := by decide +kernel
theorem dX7_measure_12 : decode cX7_measure 12 = .ok (.iload_n 1, 1) := by decide +kernel
theorem dX7_measure_13 : decode cX7_measure 13 = .ok (.iload_n 2, 1) := by decide +kernel
theorem dX7_measure_14 : decode cX7_measure 14 = .ok (.invokevirtual 268, 3) := by decide +kernel
theorem dX7_measure_17 : decode cX7_measure 17 = .ok (.return_, 1) := by decide +kernel
theorem dX7_standing_0 : decode cX7_standing 0 = .ok (.iload_n 3, 1) := by decide +kernel
theorem dX7_standing_1 : decode cX7_standing 1 = .ok (.iconst 0, 1) := by decide +kernel
theorem dX7_standing_2 : decode cX7_standing 2 = .ok (.iconst 5, 1) := by decide +kernel
theorem dX7_standing_3 : decode cX7_standing 3 = .ok (.invokestatic 74, 3) := by decide +kernel
theorem dX7_standing_6 : decode cX7_standing 6 = .ok (.ifCond .ne 6, 3) := by decide +kernel
theorem dX7_standing_9 : decode cX7_standing 9 = .ok (.ldc 148, 2) := by decide +kernel
theorem dX7_standing_11 : decode cX7_standing 11 = .ok (.ireturn, 1) := by decide +kernel
theorem dX7_standing_12 : decode cX7_standing 12 = .ok (.aload_n 0, 1) := by decide +kernel
theorem dX7_standing_13 : decode cX7_standing 13 = .ok (.iload_n 1, 1) := by decide +kernel
theorem dX7_standing_14 : decode cX7_standing 14 = .ok (.iload_n 2, 1) := by decide +kernel
theorem dX7_standing_15 : decode cX7_standing 15 = .ok (.invokevirtual 156, 3) := by decide +kernel
theorem dX7_standing_18 : decode cX7_standing 18 = .ok (.iload_n 3, 1) := by decide +kernel
theorem dX7_standing_19 : decode cX7_standing 19 = .ok (.tableswitch 77 0 4 #[33, 41, 49, 57, 65], 33) := by decide +kernel
theorem dX7_standing_52 : decode cX7_standing 52 = .ok (.aload_n 0, 1) := by decide +kernel
theorem dX7_standing_53 : decode cX7_standing 53 = .ok (.getfield 43, 3) := by decide +kernel
theorem dX7_standing_56 : decode cX7_standing 56 = .ok (.getfield 271, 3) := by decide +kernel
theorem dX7_standing_59 : decode cX7_standing 59 = .ok (.ireturn, 1) := by decide +kernel
theorem dX7_standing_60 : decode cX7_standing 60 = .ok (.aload_n 0, 1) := by decide +kernel
theorem dX7_standing_61 : decode cX7_standing 61 = .ok (.getfield 43, 3) := by decide +kernel
theorem dX7_standing_64 : decode cX7_standing 64 = .ok (.getfield 212, 3) := by decide +kernel
theorem dX7_standing_67 : decode cX7_standing 67 = .ok (.ireturn, 1) := by decide +kernel
theorem dX7_standing_68 : decode cX7_standing 68 = .ok (.aload_n 0, 1) := by decide +kernel
theorem dX7_standing_69 : decode cX7_standing 69 = .ok (.getfield 43, 3) := by decide +kernel
theorem dX7_standing_72 : decode cX7_standing 72 = .ok (.getfield 274, 3) := by decide +kernel
theorem dX7_standing_75 : decode cX7_standing 75 = .ok (.ireturn, 1) := by decide +kernel
theorem dX7_standing_76 : decode cX7_standing 76 = .ok (.aload_n 0, 1) := by decide +kernel
theorem dX7_standing_77 : decode cX7_standing 77 = .ok (.getfield 43, 3) := by decide +kernel
theorem dX7_standing_80 : decode cX7_standing 80 = .ok (.invokevirtual 277, 3) := by decide +kernel
theorem dX7_standing_83 : decode cX7_standing 83 = .ok (.ireturn, 1) := by decide +kernel
theorem dX7_standing_84 : decode cX7_standing 84 = .ok (.aload_n 0, 1) := by decide +kernel
theorem dX7_standing_85 : decode cX7_standing 85 = .ok (.getfield 43, 3) := by decide +kernel
theorem dX7_standing_88 : decode cX7_standing 88 = .ok (.aload_n 0, 1) := by decide +kernel
theorem dX7_standing_89 : decode cX7_standing 89 = .ok (.invokevirtual 264, 3) := by decide +kernel
theorem dX7_standing_92 : decode cX7_standing 92 = .ok (.invokevirtual 280, 3) := by decide +kernel
theorem dX7_standing_95 : decode cX7_standing 95 = .ok (.ireturn, 1) := by decide +kernel
theorem dX7_standing_96 : decode cX7_standing 96 = .ok (.aload_n 0, 1) := by decide +kernel
theorem dX7_standing_97 : decode cX7_standing 97 = .ok (.getfield 43, 3) := by decide +kernel
theorem dX7_standing_100 : decode cX7_standing 100 = .ok (.aload_n 0, 1) := by decide +kernel
theorem dX7_standing_101 : decode cX7_standing 101 = .ok (.invokevirtual 264, 3) := by decide +kernel
theorem dX7_standing_104 : decode cX7_standing 104 = .ok (.invokevirtual 284, 3) := by decide +kernel
theorem dX7_standing_107 : decode cX7_standing 107 = .ok (.ireturn, 1) := by decide +kernel
theorem dX7_isFirmAt_0 : decode cX7_isFirmAt 0 = .ok (.aload_n 0, 1) := by decide +kernel
theorem dX7_isFirmAt_1 : decode cX7_isFirmAt 1 = .ok (.iload_n 1, 1) := by decide +kernel
theorem dX7_isFirmAt_2 : decode cX7_isFirmAt 2 = .ok (.iload_n 2, 1) := by decide +kernel
theorem dX7_isFirmAt_3 : decode cX7_isFirmAt 3 = .ok (.invokevirtual 156, 3) := by decide +kernel
theorem dX7_isFirmAt_6 : decode cX7_isFirmAt 6 = .ok (.aload_n 0, 1) := by decide +kernel
theorem dX7_isFirmAt_7 : decode cX7_isFirmAt 7 = .ok (.getfield 43, 3) := by decide +kernel
theorem dX7_isFirmAt_10 : decode cX7_isFirmAt 10 = .ok (.invokevirtual 163, 3) := by decide +kernel
theorem dX7_isFirmAt_13 : decode cX7_isFirmAt 13 = .ok (.ireturn, 1) := by decide +kernel
theorem dX7_worthAt_0 : decode cX7_worthAt 0 = .ok (.aload_n 0, 1) := by decide +kernel
theorem dX7_worthAt_1 : decode cX7_worthAt 1 = .ok (.iload_n 1, 1) := by decide +kernel
theorem dX7_worthAt_2 : decode cX7_worthAt 2 = .ok (.iload_n 2, 1) := by decide +kernel
theorem dX7_worthAt_3 : decode cX7_worthAt 3 = .ok (.invokevirtual 156, 3) := by decide +kernel
theorem dX7_worthAt_6 : decode cX7_worthAt 6 = .ok (.aload_n 0, 1) := by decide +kernel
theorem dX7_worthAt_7 : decode cX7_worthAt 7 = .ok (.getfield 43, 3) := by decide +kernel
theorem dX7_worthAt_10 : decode cX7_worthAt 10 = .ok (.aload_n 0, 1) := by decide +kernel
theorem dX7_worthAt_11 : decode cX7_worthAt 11 = .ok (.invokevirtual 264, 3) := by decide +kernel
theorem dX7_worthAt_14 : decode cX7_worthAt 14 = .ok (.invokevirtual 280, 3) := by decide +kernel
theorem dX7_worthAt_17 : decode cX7_worthAt 17 = .ok (.ireturn, 1) := by decide +kernel
theorem dX7_gapAt_0 : decode cX7_gapAt 0 = .ok (.aload_n 0, 1) := by decide +kernel
theorem dX7_gapAt_1 : decode cX7_gapAt 1 = .ok (.aload_n 0, 1) := by decide +kernel
theorem dX7_gapAt_2 : decode cX7_gapAt 2 = .ok (.getfield 10, 3) := by decide +kernel
theorem dX7_gapAt_5 : decode cX7_gapAt 5 = .ok (.getfield 117, 3) := by decide +kernel
theorem dX7_gapAt_8 : decode cX7_gapAt 8 = .ok (.iload_n 1, 1) := by decide +kernel
theorem dX7_gapAt_9 : decode cX7_gapAt 9 = .ok (.invokevirtual 156, 3) := by decide +kernel
theorem dX7_gapAt_12 : decode cX7_gapAt 12 = .ok (.aload_n 0, 1) := by decide +kernel
theorem dX7_gapAt_13 : decode cX7_gapAt 13 = .ok (.getfield 43, 3) := by decide +kernel
theorem dX7_gapAt_16 : decode cX7_gapAt 16 = .ok (.getfield 271, 3) := by decide +kernel
theorem dX7_gapAt_19 : decode cX7_gapAt 19 = .ok (.ireturn, 1) := by decide +kernel
theorem dX7_rockHere_0 : decode cX7_rockHere 0 = .ok (.aload_n 0, 1) := by decide +kernel
theorem dX7_rockHere_1 : decode cX7_rockHere 1 = .ok (.aload_n 0, 1) := by decide +kernel
theorem dX7_rockHere_2 : decode cX7_rockHere 2 = .ok (.getfield 10, 3) := by decide +kernel
theorem dX7_rockHere_5 : decode cX7_rockHere 5 = .ok (.getfield 117, 3) := by decide +kernel
theorem dX7_rockHere_8 : decode cX7_rockHere 8 = .ok (.aload_n 0, 1) := by decide +kernel
theorem dX7_rockHere_9 : decode cX7_rockHere 9 = .ok (.getfield 10, 3) := by decide +kernel
theorem dX7_rockHere_12 : decode cX7_rockHere 12 = .ok (.getfield 120, 3) := by decide +kernel
theorem dX7_rockHere_15 : decode cX7_rockHere 15 = .ok (.invokevirtual 156, 3) := by decide +kernel
theorem dX7_rockHere_18 : decode cX7_rockHere 18 = .ok (.aload_n 0, 1) := by decide +kernel
theorem dX7_rockHere_19 : decode cX7_rockHere 19 = .ok (.getfield 43, 3) := by decide +kernel
theorem dX7_rockHere_22 : decode cX7_rockHere 22 = .ok (.getfield 212, 3) := by decide +kernel
theorem dX7_rockHere_25 : decode cX7_rockHere 25 = .ok (.ireturn, 1) := by decide +kernel
theorem dX7_isApart_0 : decode cX7_isApart 0 = .ok (.iconst 2, 1) := by decide +kernel
theorem dX7_isApart_1 : decode cX7_isApart 1 = .ok (.aload_n 0, 1) := by decide +kernel
theorem dX7_isApart_2 : decode cX7_isApart 2 = .ok (.getfield 10, 3) := by decide +kernel
theorem dX7_isApart_5 : decode cX7_isApart 5 = .ok (.getfield 224, 3) := by decide +kernel
theorem dX7_isApart_8 : decode cX7_isApart 8 = .ok (.imul, 1) := by decide +kernel
theorem dX7_isApart_9 : decode cX7_isApart 9 = .ok (.istore_n 2, 1) := by decide +kernel
theorem dX7_isApart_10 : decode cX7_isApart 10 = .ok (.iload_n 1, 1) := by decide +kernel
theorem dX7_isApart_11 : decode cX7_isApart 11 = .ok (.bipush 8, 2) := by decide +kernel
theorem dX7_isApart_13 : decode cX7_isApart 13 = .ok (.idiv, 1) := by decide +kernel
theorem dX7_isApart_14 : decode cX7_isApart 14 = .ok (.aload_n 0, 1) := by decide +kernel
theorem dX7_isApart_15 : decode cX7_isApart 15 = .ok (.getfield 10, 3) := by decide +kernel
theorem dX7_isApart_18 : decode cX7_isApart 18 = .ok (.getfield 117, 3) := by decide +kernel
theorem dX7_isApart_21 : decode cX7_isApart 21 = .ok (.bipush 8, 2) := by decide +kernel
theorem dX7_isApart_23 : decode cX7_isApart 23 = .ok (.idiv, 1) := by decide +kernel
theorem dX7_isApart_24 : decode cX7_isApart 24 = .ok (.isub, 1) := by decide +kernel
theorem dX7_isApart_25 : decode cX7_isApart 25 = .ok (.invokestatic 287, 3) := by decide +kernel
theorem dX7_isApart_28 : decode cX7_isApart 28 = .ok (.iload_n 2, 1) := by decide +kernel
theorem dX7_isApart_29 : decode cX7_isApart 29 = .ok (.if_icmp .gt 25, 3) := by decide +kernel
theorem dX7_isApart_32 : decode cX7_isApart 32 = .ok (.iload_n 1, 1) := by decide +kernel
theorem dX7_isApart_33 : decode cX7_isApart 33 = .ok (.bipush 8, 2) := by decide +kernel
theorem dX7_isApart_35 : decode cX7_isApart 35 = .ok (.irem, 1) := by decide +kernel
theorem dX7_isApart_36 : decode cX7_isApart 36 = .ok (.aload_n 0, 1) := by decide +kernel
theorem dX7_isApart_37 : decode cX7_isApart 37 = .ok (.getfield 10, 3) := by decide +kernel
theorem dX7_isApart_40 : decode cX7_isApart 40 = .ok (.getfield 117, 3) := by decide +kernel
theorem dX7_isApart_43 : decode cX7_isApart 43 = .ok (.bipush 8, 2) := by decide +kernel
theorem dX7_isApart_45 : decode cX7_isApart 45 = .ok (.irem, 1) := by decide +kernel
theorem dX7_isApart_46 : decode cX7_isApart 46 = .ok (.isub, 1) := by decide +kernel
theorem dX7_isApart_47 : decode cX7_isApart 47 = .ok (.invokestatic 287, 3) := by decide +kernel
theorem dX7_isApart_50 : decode cX7_isApart 50 = .ok (.iload_n 2, 1) := by decide +kernel
theorem dX7_isApart_51 : decode cX7_isApart 51 = .ok (.if_icmp .le 7, 3) := by decide +kernel
theorem dX7_isApart_54 : decode cX7_isApart 54 = .ok (.iconst 1, 1) := by decide +kernel
theorem dX7_isApart_55 : decode cX7_isApart 55 = .ok (.goto 4, 3) := by decide +kernel
theorem dX7_isApart_58 : decode cX7_isApart 58 = .ok (.iconst 0, 1) := by decide +kernel
theorem dX7_isApart_59 : decode cX7_isApart 59 = .ok (.ireturn, 1) := by decide +kernel
theorem dX7_screwStep_0 : decode cX7_screwStep 0 = .ok (.iload_n 0, 1) := by decide +kernel
theorem dX7_screwStep_1 : decode cX7_screwStep 1 = .ok (.istore_n 2, 1) := by decide +kernel
theorem dX7_screwStep_2 : decode cX7_screwStep 2 = .ok (.iconst 0, 1) := by decide +kernel
theorem dX7_screwStep_3 : decode cX7_screwStep 3 = .ok (.istore_n 3, 1) := by decide +kernel
theorem dX7_screwStep_4 : decode cX7_screwStep 4 = .ok (.iload_n 3, 1) := by decide +kernel
theorem dX7_screwStep_5 : decode cX7_screwStep 5 = .ok (.iload_n 1, 1) := by decide +kernel
theorem dX7_screwStep_6 : decode cX7_screwStep 6 = .ok (.if_icmp .ge 14, 3) := by decide +kernel
theorem dX7_screwStep_9 : decode cX7_screwStep 9 = .ok (.iload_n 2, 1) := by decide +kernel
theorem dX7_screwStep_10 : decode cX7_screwStep 10 = .ok (.bipush 7, 2) := by decide +kernel
theorem dX7_screwStep_12 : decode cX7_screwStep 12 = .ok (.idiv, 1) := by decide +kernel
theorem dX7_screwStep_13 : decode cX7_screwStep 13 = .ok (.istore_n 2, 1) := by decide +kernel
theorem dX7_screwStep_14 : decode cX7_screwStep 14 = .ok (.iinc 3 1, 3) := by decide +kernel
theorem dX7_screwStep_17 : decode cX7_screwStep 17 = .ok (.goto (-13), 3) := by decide +kernel
theorem dX7_screwStep_20 : decode cX7_screwStep 20 = .ok (.iload_n 2, 1) := by decide +kernel
theorem dX7_screwStep_21 : decode cX7_screwStep 21 = .ok (.bipush 7, 2) := by decide +kernel
theorem dX7_screwStep_23 : decode cX7_screwStep 23 = .ok (.irem, 1) := by decide +kernel
theorem dX7_screwStep_24 : decode cX7_screwStep 24 = .ok (.iconst 3, 1) := by decide +kernel
theorem dX7_screwStep_25 : decode cX7_screwStep 25 = .ok (.isub, 1) := by decide +kernel
theorem dX7_screwStep_26 : decode cX7_screwStep 26 = .ok (.ireturn, 1) := by decide +kernel
theorem dX7_screwSum_0 : decode cX7_screwSum 0 = .ok (.iconst 0, 1) := by decide +kernel
theorem dX7_screwSum_1 : decode cX7_screwSum 1 = .ok (.istore_n 2, 1) := by decide +kernel
theorem dX7_screwSum_2 : decode cX7_screwSum 2 = .ok (.iconst 0, 1) := by decide +kernel
theorem dX7_screwSum_3 : decode cX7_screwSum 3 = .ok (.istore_n 3, 1) := by decide +kernel
theorem dX7_screwSum_4 : decode cX7_screwSum 4 = .ok (.iload_n 3, 1) := by decide +kernel
theorem dX7_screwSum_5 : decode cX7_screwSum 5 = .ok (.iconst 4, 1) := by decide +kernel
theorem dX7_screwSum_6 : decode cX7_screwSum 6 = .ok (.if_icmp .ge 48, 3) := by decide +kernel
theorem dX7_screwSum_9 : decode cX7_screwSum 9 = .ok (.iload_n 1, 1) := by decide +kernel
theorem dX7_screwSum_10 : decode cX7_screwSum 10 = .ok (.iload_n 3, 1) := by decide +kernel
theorem dX7_screwSum_11 : decode cX7_screwSum 11 = .ok (.invokestatic 290, 3) := by decide +kernel
theorem dX7_screwSum_14 : decode cX7_screwSum 14 = .ok (.istore 4, 2) := by decide +kernel
theorem dX7_screwSum_16 : decode cX7_screwSum 16 = .ok (.iload 4, 2) := by decide +kernel
theorem dX7_screwSum_18 : decode cX7_screwSum 18 = .ok (.ifCond .eq 22, 3) := by decide +kernel
theorem dX7_screwSum_21 : decode cX7_screwSum 21 = .ok (.aload_n 0, 1) := by decide +kernel
theorem dX7_screwSum_22 : decode cX7_screwSum 22 = .ok (.getfield 10, 3) := by decide +kernel
theorem dX7_screwSum_25 : decode cX7_screwSum 25 = .ok (.getfield 88, 3) := by decide +kernel
theorem dX7_screwSum_28 : decode cX7_screwSum 28 = .ok (.iload_n 3, 1) := by decide +kernel
theorem dX7_screwSum_29 : decode cX7_screwSum 29 = .ok (.aaload, 1) := by decide +kernel
theorem dX7_screwSum_30 : decode cX7_screwSum 30 = .ok (.iload 4, 2) := by decide +kernel
theorem dX7_screwSum_32 : decode cX7_screwSum 32 = .ok (.invokevirtual 293, 3) := by decide +kernel
theorem dX7_screwSum_35 : decode cX7_screwSum 35 = .ok (.ifCond .ne 5, 3) := by decide +kernel
theorem dX7_screwSum_38 : decode cX7_screwSum 38 = .ok (.iconst (-1), 1) := by decide +kernel
theorem dX7_screwSum_39 : decode cX7_screwSum 39 = .ok (.ireturn, 1) := by decide +kernel
theorem dX7_screwSum_40 : decode cX7_screwSum 40 = .ok (.iload_n 2, 1) := by decide +kernel
theorem dX7_screwSum_41 : decode cX7_screwSum 41 = .ok (.iload 4, 2) := by decide +kernel
theorem dX7_screwSum_43 : decode cX7_screwSum 43 = .ok (.invokestatic 287, 3) := by decide +kernel
theorem dX7_screwSum_46 : decode cX7_screwSum 46 = .ok (.iadd, 1) := by decide +kernel
theorem dX7_screwSum_47 : decode cX7_screwSum 47 = .ok (.istore_n 2, 1) := by decide +kernel
theorem dX7_screwSum_48 : decode cX7_screwSum 48 = .ok (.iinc 3 1, 3) := by decide +kernel
theorem dX7_screwSum_51 : decode cX7_screwSum 51 = .ok (.goto (-47), 3) := by decide +kernel
theorem dX7_screwSum_54 : decode cX7_screwSum 54 = .ok (.iload_n 2, 1) := by decide +kernel
theorem dX7_screwSum_55 : decode cX7_screwSum 55 = .ok (.iconst 4, 1) := by decide +kernel
theorem dX7_screwSum_56 : decode cX7_screwSum 56 = .ok (.if_icmp .gt 7, 3) := by decide +kernel
theorem dX7_screwSum_59 : decode cX7_screwSum 59 = .ok (.iload_n 2, 1) := by decide +kernel
theorem dX7_screwSum_60 : decode cX7_screwSum 60 = .ok (.goto 4, 3) := by decide +kernel
theorem dX7_screwSum_63 : decode cX7_screwSum 63 = .ok (.iconst (-1), 1) := by decide +kernel
theorem dX7_screwSum_64 : decode cX7_screwSum 64 = .ok (.ireturn, 1) := by decide +kernel
theorem dX7_isFirmScrewed_0 : decode cX7_isFirmScrewed 0 = .ok (.aload_n 0, 1) := by decide +kernel
theorem dX7_isFirmScrewed_1 : decode cX7_isFirmScrewed 1 = .ok (.iload_n 1, 1) := by decide +kernel
theorem dX7_isFirmScrewed_2 : decode cX7_isFirmScrewed 2 = .ok (.iconst 1, 1) := by decide +kernel
theorem dX7_isFirmScrewed_3 : decode cX7_isFirmScrewed 3 = .ok (.invokevirtual 296, 3) := by decide +kernel
theorem dX7_isFirmScrewed_6 : decode cX7_isFirmScrewed 6 = .ok (.aload_n 0, 1) := by decide +kernel
theorem dX7_isFirmScrewed_7 : decode cX7_isFirmScrewed 7 = .ok (.aload_n 0, 1) := by decide +kernel
theorem dX7_isFirmScrewed_8 : decode cX7_isFirmScrewed 8 = .ok (.getfield 10, 3) := by decide +kernel
theorem dX7_isFirmScrewed_11 : decode cX7_isFirmScrewed 11 = .ok (.getfield 117, 3) := by decide +kernel
theorem dX7_isFirmScrewed_14 : decode cX7_isFirmScrewed 14 = .ok (.aload_n 0, 1) := by decide +kernel
theorem dX7_isFirmScrewed_15 : decode cX7_isFirmScrewed 15 = .ok (.getfield 10, 3) := by decide +kernel
theorem dX7_isFirmScrewed_18 : decode cX7_isFirmScrewed 18 = .ok (.getfield 120, 3) := by decide +kernel
theorem dX7_isFirmScrewed_21 : decode cX7_isFirmScrewed 21 = .ok (.invokevirtual 156, 3) := by decide +kernel
theorem dX7_isFirmScrewed_24 : decode cX7_isFirmScrewed 24 = .ok (.aload_n 0, 1) := by decide +kernel
theorem dX7_isFirmScrewed_25 : decode cX7_isFirmScrewed 25 = .ok (.iload_n 1, 1) := by decide +kernel
theorem dX7_isFirmScrewed_26 : decode cX7_isFirmScrewed 26 = .ok (.iconst (-1), 1) := by decide +kernel
theorem dX7_isFirmScrewed_27 : decode cX7_isFirmScrewed 27 = .ok (.invokevirtual 296, 3) := by decide +kernel
theorem dX7_isFirmScrewed_30 : decode cX7_isFirmScrewed 30 = .ok (.aload_n 0, 1) := by decide +kernel
theorem dX7_isFirmScrewed_31 : decode cX7_isFirmScrewed 31 = .ok (.getfield 43, 3) := by decide +kernel
theorem dX7_isFirmScrewed_34 : decode cX7_isFirmScrewed 34 = .ok (.invokevirtual 163, 3) := by decide +kernel
theorem dX7_isFirmScrewed_37 : decode cX7_isFirmScrewed 37 = .ok (.ireturn, 1) := by decide +kernel
theorem dX7_screwAll_0 : decode cX7_screwAll 0 = .ok (.iconst 0, 1) := by decide +kernel
theorem dX7_screwAll_1 : decode cX7_screwAll 1 = .ok (.istore_n 3, 1) := by decide +kernel
theorem dX7_screwAll_2 : decode cX7_screwAll 2 = .ok (.iload_n 3, 1) := by decide +kernel
theorem dX7_screwAll_3 : decode cX7_screwAll 3 = .ok (.iconst 4, 1) := by decide +kernel
theorem dX7_screwAll_4 : decode cX7_screwAll 4 = .ok (.if_icmp .ge 33, 3) := by decide +kernel
theorem dX7_screwAll_7 : decode cX7_screwAll 7 = .ok (.aload_n 0, 1) := by decide +kernel
theorem dX7_screwAll_8 : decode cX7_screwAll 8 = .ok (.getfield 10, 3) := by decide +kernel
theorem dX7_screwAll_11 : decode cX7_screwAll 11 = .ok (.getfield 88, 3) := by decide +kernel
theorem dX7_screwAll_14 : decode cX7_screwAll 14 = .ok (.iload_n 3, 1) := by decide +kernel
theorem dX7_screwAll_15 : decode cX7_screwAll 15 = .ok (.aaload, 1) := by decide +kernel
theorem dX7_screwAll_16 : decode cX7_screwAll 16 = .ok (.dup, 1) := by decide +kernel
theorem dX7_screwAll_17 : decode cX7_screwAll 17 = .ok (.getfield 97, 3) := by decide +kernel
theorem dX7_screwAll_20 : decode cX7_screwAll 20 = .ok (.iload_n 2, 1) := by decide +kernel
theorem dX7_screwAll_21 : decode cX7_screwAll 21 = .ok (.iload_n 1, 1) := by decide +kernel
theorem dX7_screwAll_22 : decode cX7_screwAll 22 = .ok (.iload_n 3, 1) := by decide +kernel
theorem dX7_screwAll_23 : decode cX7_screwAll 23 = .ok (.invokestatic 290, 3) := by decide +kernel
theorem dX7_screwAll_26 : decode cX7_screwAll 26 = .ok (.imul, 1) := by decide +kernel
theorem dX7_screwAll_27 : decode cX7_screwAll 27 = .ok (.iadd, 1) := by decide +kernel
theorem dX7_screwAll_28 : decode cX7_screwAll 28 = .ok (.putfield 97, 3) := by decide +kernel
theorem dX7_screwAll_31 : decode cX7_screwAll 31 = .ok (.iinc 3 1, 3) := by decide +kernel
theorem dX7_screwAll_34 : decode cX7_screwAll 34 = .ok (.goto (-32), 3) := by decide +kernel
theorem dX7_screwAll_37 : decode cX7_screwAll 37 = .ok (.return_, 1) := by decide +kernel
theorem dX7_firstOtherwise_0 : decode cX7_firstOtherwise 0 = .ok (.iconst 0, 1) := by decide +kernel
theorem dX7_firstOtherwise_1 : decode cX7_firstOtherwise 1 = .ok (.istore_n 3, 1) := by decide +kernel
theorem dX7_firstOtherwise_2 : decode cX7_firstOtherwise 2 = .ok (.iload_n 3, 1) := by decide +kernel
theorem dX7_firstOtherwise_3 : decode cX7_firstOtherwise 3 = .ok (.aload_n 1, 1) := by decide +kernel
theorem dX7_firstOtherwise_4 : decode cX7_firstOtherwise 4 = .ok (.getfield 299, 3) := by decide +kernel
theorem dX7_firstOtherwise_7 : decode cX7_firstOtherwise 7 = .ok (.if_icmp .ge 44, 3) := by decide +kernel
theorem dX7_firstOtherwise_10 : decode cX7_firstOtherwise 10 = .ok (.aload_n 0, 1) := by decide +kernel
theorem dX7_firstOtherwise_11 : decode cX7_firstOtherwise 11 = .ok (.iload_n 2, 1) := by decide +kernel
theorem dX7_firstOtherwise_12 : decode cX7_firstOtherwise 12 = .ok (.aload_n 0, 1) := by decide +kernel
theorem dX7_firstOtherwise_13 : decode cX7_firstOtherwise 13 = .ok (.getfield 10, 3) := by decide +kernel
theorem dX7_firstOtherwise_16 : decode cX7_firstOtherwise 16 = .ok (.getfield 120, 3) := by decide +kernel
theorem dX7_firstOtherwise_19 : decode cX7_firstOtherwise 19 = .ok (.iload_n 3, 1) := by decide +kernel
theorem dX7_firstOtherwise_20 : decode cX7_firstOtherwise 20 = .ok (.iadd, 1) := by decide +kernel
theorem dX7_firstOtherwise_21 : decode cX7_firstOtherwise 21 = .ok (.invokestatic 153, 3) := by decide +kernel
theorem dX7_firstOtherwise_24 : decode cX7_firstOtherwise 24 = .ok (.invokevirtual 156, 3) := by decide +kernel
theorem dX7_firstOtherwise_27 : decode cX7_firstOtherwise 27 = .ok (.aload_n 1, 1) := by decide +kernel
theorem dX7_firstOtherwise_28 : decode cX7_firstOtherwise 28 = .ok (.getfield 245, 3) := by decide +kernel
theorem dX7_firstOtherwise_31 : decode cX7_firstOtherwise 31 = .ok (.iload_n 3, 1) := by decide +kernel
theorem dX7_firstOtherwise_32 : decode cX7_firstOtherwise 32 = .ok (.iaload, 1) := by decide +kernel
theorem dX7_firstOtherwise_33 : decode cX7_firstOtherwise 33 = .ok (.aload_n 0, 1) := by decide +kernel
theorem dX7_firstOtherwise_34 : decode cX7_firstOtherwise 34 = .ok (.getfield 43, 3) := by decide +kernel
theorem dX7_firstOtherwise_37 : decode cX7_firstOtherwise 37 = .ok (.invokevirtual 300, 3) := by decide +kernel
theorem dX7_firstOtherwise_40 : decode cX7_firstOtherwise 40 = .ok (.if_icmp .eq 5, 3) := by decide +kernel
theorem dX7_firstOtherwise_43 : decode cX7_firstOtherwise 43 = .ok (.iload_n 3, 1) := by decide +kernel
theorem dX7_firstOtherwise_44 : decode cX7_firstOtherwise 44 = .ok (.ireturn, 1) := by decide +kernel
theorem dX7_firstOtherwise_45 : decode cX7_firstOtherwise 45 = .ok (.iinc 3 1, 3) := by decide +kernel
theorem dX7_firstOtherwise_48 : decode cX7_firstOtherwise 48 = .ok (.goto (-46), 3) := by decide +kernel
theorem dX7_firstOtherwise_51 : decode cX7_firstOtherwise 51 = .ok (.iconst (-1), 1) := by decide +kernel
theorem dX7_firstOtherwise_52 : decode cX7_firstOtherwise 52 = .ok (.ireturn, 1) := by decide +kernel
