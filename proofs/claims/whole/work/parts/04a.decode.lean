theorem dX0_init_0 : decode cX0_init 0 = .ok (.aload_n 0, 1) := by decide +kernel
theorem dX0_init_1 : decode cX0_init 1 = .ok (.invokespecial 3, 3) := by decide +kernel
theorem dX0_init_4 : decode cX0_init 4 = .ok (.aload_n 0, 1) := by decide +kernel
theorem dX0_init_5 : decode cX0_init 5 = .ok (.bipush 12, 2) := by decide +kernel
theorem dX0_init_7 : decode cX0_init 7 = .ok (.newarray .int, 2) := by decide +kernel
theorem dX0_init_9 : decode cX0_init 9 = .ok (.putfield 9, 3) := by decide +kernel
theorem dX0_init_12 : decode cX0_init 12 = .ok (.aload_n 0, 1) := by decide +kernel
theorem dX0_init_13 : decode cX0_init 13 = .ok (.bipush 12, 2) := by decide +kernel
theorem dX0_init_15 : decode cX0_init 15 = .ok (.newarray .long, 2) := by decide +kernel
theorem dX0_init_17 : decode cX0_init 17 = .ok (.putfield 15, 3) := by decide +kernel
theorem dX0_init_20 : decode cX0_init 20 = .ok (.aload_n 0, 1) := by decide +kernel
theorem dX0_init_21 : decode cX0_init 21 = .ok (.iconst 0, 1) := by decide +kernel
theorem dX0_init_22 : decode cX0_init 22 = .ok (.putfield 19, 3) := by decide +kernel
theorem dX0_init_25 : decode cX0_init 25 = .ok (.aload_n 0, 1) := by decide +kernel
theorem dX0_init_26 : decode cX0_init 26 = .ok (.bipush 8, 2) := by decide +kernel
theorem dX0_init_28 : decode cX0_init 28 = .ok (.newarray .int, 2) := by decide +kernel
theorem dX0_init_30 : decode cX0_init 30 = .ok (.putfield 23, 3) := by decide +kernel
theorem dX0_init_33 : decode cX0_init 33 = .ok (.aload_n 0, 1) := by decide +kernel
theorem dX0_init_34 : decode cX0_init 34 = .ok (.bipush 8, 2) := by decide +kernel
theorem dX0_init_36 : decode cX0_init 36 = .ok (.newarray .int, 2) := by decide +kernel
theorem dX0_init_38 : decode cX0_init 38 = .ok (.putfield 26, 3) := by decide +kernel
theorem dX0_init_41 : decode cX0_init 41 = .ok (.aload_n 0, 1) := by decide +kernel
theorem dX0_init_42 : decode cX0_init 42 = .ok (.getfield 23, 3) := by decide +kernel
theorem dX0_init_45 : decode cX0_init 45 = .ok (.iconst 2, 1) := by decide +kernel
theorem dX0_init_46 : decode cX0_init 46 = .ok (.invokestatic 29, 3) := by decide +kernel
theorem dX0_init_49 : decode cX0_init 49 = .ok (.return_, 1) := by decide +kernel
theorem dX0_empty_0 : decode cX0_empty 0 = .ok (.aload_n 0, 1) := by decide +kernel
theorem dX0_empty_1 : decode cX0_empty 1 = .ok (.iconst 0, 1) := by decide +kernel
theorem dX0_empty_2 : decode cX0_empty 2 = .ok (.putfield 19, 3) := by decide +kernel
theorem dX0_empty_5 : decode cX0_empty 5 = .ok (.aload_n 0, 1) := by decide +kernel
theorem dX0_empty_6 : decode cX0_empty 6 = .ok (.getfield 23, 3) := by decide +kernel
theorem dX0_empty_9 : decode cX0_empty 9 = .ok (.iconst 2, 1) := by decide +kernel
theorem dX0_empty_10 : decode cX0_empty 10 = .ok (.invokestatic 29, 3) := by decide +kernel
theorem dX0_empty_13 : decode cX0_empty 13 = .ok (.return_, 1) := by decide +kernel
theorem dX0_strikeIn_0 : decode cX0_strikeIn 0 = .ok (.lload_n 0, 1) := by decide +kernel
theorem dX0_strikeIn_1 : decode cX0_strikeIn 1 = .ok (.iconst 4, 1) := by decide +kernel
theorem dX0_strikeIn_2 : decode cX0_strikeIn 2 = .ok (.iload_n 2, 1) := by decide +kernel
theorem dX0_strikeIn_3 : decode cX0_strikeIn 3 = .ok (.imul, 1) := by decide +kernel
theorem dX0_strikeIn_4 : decode cX0_strikeIn 4 = .ok (.lshr, 1) := by decide +kernel
theorem dX0_strikeIn_5 : decode cX0_strikeIn 5 = .ok (.l2i, 1) := by decide +kernel
theorem dX0_strikeIn_6 : decode cX0_strikeIn 6 = .ok (.bipush 15, 2) := by decide +kernel
theorem dX0_strikeIn_8 : decode cX0_strikeIn 8 = .ok (.iand, 1) := by decide +kernel
theorem dX0_strikeIn_9 : decode cX0_strikeIn 9 = .ok (.ireturn, 1) := by decide +kernel
theorem dX0_addRow_0 : decode cX0_addRow 0 = .ok (.aload_n 0, 1) := by decide +kernel
theorem dX0_addRow_1 : decode cX0_addRow 1 = .ok (.getfield 19, 3) := by decide +kernel
theorem dX0_addRow_4 : decode cX0_addRow 4 = .ok (.bipush 12, 2) := by decide +kernel
theorem dX0_addRow_6 : decode cX0_addRow 6 = .ok (.if_icmp .lt 5, 3) := by decide +kernel
theorem dX0_addRow_9 : decode cX0_addRow 9 = .ok (.iconst (-1), 1) := by decide +kernel
theorem dX0_addRow_10 : decode cX0_addRow 10 = .ok (.ireturn, 1) := by decide +kernel
theorem dX0_addRow_11 : decode cX0_addRow 11 = .ok (.aload_n 0, 1) := by decide +kernel
theorem dX0_addRow_12 : decode cX0_addRow 12 = .ok (.getfield 9, 3) := by decide +kernel
theorem dX0_addRow_15 : decode cX0_addRow 15 = .ok (.aload_n 0, 1) := by decide +kernel
theorem dX0_addRow_16 : decode cX0_addRow 16 = .ok (.getfield 19, 3) := by decide +kernel
theorem dX0_addRow_19 : decode cX0_addRow 19 = .ok (.iload_n 1, 1) := by decide +kernel
theorem dX0_addRow_20 : decode cX0_addRow 20 = .ok (.iastore, 1) := by decide +kernel
theorem dX0_addRow_21 : decode cX0_addRow 21 = .ok (.aload_n 0, 1) := by decide +kernel
theorem dX0_addRow_22 : decode cX0_addRow 22 = .ok (.getfield 15, 3) := by decide +kernel
theorem dX0_addRow_25 : decode cX0_addRow 25 = .ok (.aload_n 0, 1) := by decide +kernel
theorem dX0_addRow_26 : decode cX0_addRow 26 = .ok (.getfield 19, 3) := by decide +kernel
theorem dX0_addRow_29 : decode cX0_addRow 29 = .ok (.lload_n 2, 1) := by decide +kernel
theorem dX0_addRow_30 : decode cX0_addRow 30 = .ok (.lastore, 1) := by decide +kernel
theorem dX0_addRow_31 : decode cX0_addRow 31 = .ok (.aload_n 0, 1) := by decide +kernel
theorem dX0_addRow_32 : decode cX0_addRow 32 = .ok (.dup, 1) := by decide +kernel
theorem dX0_addRow_33 : decode cX0_addRow 33 = .ok (.getfield 19, 3) := by decide +kernel
theorem dX0_addRow_36 : decode cX0_addRow 36 = .ok (.iconst 1, 1) := by decide +kernel
theorem dX0_addRow_37 : decode cX0_addRow 37 = .ok (.iadd, 1) := by decide +kernel
theorem dX0_addRow_38 : decode cX0_addRow 38 = .ok (.putfield 19, 3) := by decide +kernel
theorem dX0_addRow_41 : decode cX0_addRow 41 = .ok (.aload_n 0, 1) := by decide +kernel
theorem dX0_addRow_42 : decode cX0_addRow 42 = .ok (.getfield 19, 3) := by decide +kernel
theorem dX0_addRow_45 : decode cX0_addRow 45 = .ok (.iconst 1, 1) := by decide +kernel
theorem dX0_addRow_46 : decode cX0_addRow 46 = .ok (.isub, 1) := by decide +kernel
theorem dX0_addRow_47 : decode cX0_addRow 47 = .ok (.ireturn, 1) := by decide +kernel
theorem dX0_struckBy_0 : decode cX0_struckBy 0 = .ok (.iconst 0, 1) := by decide +kernel
theorem dX0_struckBy_1 : decode cX0_struckBy 1 = .ok (.istore_n 2, 1) := by decide +kernel
theorem dX0_struckBy_2 : decode cX0_struckBy 2 = .ok (.iconst 0, 1) := by decide +kernel
theorem dX0_struckBy_3 : decode cX0_struckBy 3 = .ok (.istore_n 3, 1) := by decide +kernel
theorem dX0_struckBy_4 : decode cX0_struckBy 4 = .ok (.iload_n 3, 1) := by decide +kernel
theorem dX0_struckBy_5 : decode cX0_struckBy 5 = .ok (.aload_n 0, 1) := by decide +kernel
theorem dX0_struckBy_6 : decode cX0_struckBy 6 = .ok (.getfield 9, 3) := by decide +kernel
theorem dX0_struckBy_9 : decode cX0_struckBy 9 = .ok (.iload_n 1, 1) := by decide +kernel
theorem dX0_struckBy_10 : decode cX0_struckBy 10 = .ok (.iaload, 1) := by decide +kernel
theorem dX0_struckBy_11 : decode cX0_struckBy 11 = .ok (.if_icmp .ge 24, 3) := by decide +kernel
theorem dX0_struckBy_14 : decode cX0_struckBy 14 = .ok (.iload_n 2, 1) := by decide +kernel
theorem dX0_struckBy_15 : decode cX0_struckBy 15 = .ok (.iconst 1, 1) := by decide +kernel
theorem dX0_struckBy_16 : decode cX0_struckBy 16 = .ok (.aload_n 0, 1) := by decide +kernel
theorem dX0_struckBy_17 : decode cX0_struckBy 17 = .ok (.getfield 15, 3) := by decide +kernel
theorem dX0_struckBy_20 : decode cX0_struckBy 20 = .ok (.iload_n 1, 1) := by decide +kernel
theorem dX0_struckBy_21 : decode cX0_struckBy 21 = .ok (.laload, 1) := by decide +kernel
theorem dX0_struckBy_22 : decode cX0_struckBy 22 = .ok (.iload_n 3, 1) := by decide +kernel
theorem dX0_struckBy_23 : decode cX0_struckBy 23 = .ok (.invokestatic 35, 3) := by decide +kernel
theorem dX0_struckBy_26 : decode cX0_struckBy 26 = .ok (.ishl, 1) := by decide +kernel
theorem dX0_struckBy_27 : decode cX0_struckBy 27 = .ok (.ior, 1) := by decide +kernel
theorem dX0_struckBy_28 : decode cX0_struckBy 28 = .ok (.istore_n 2, 1) := by decide +kernel
theorem dX0_struckBy_29 : decode cX0_struckBy 29 = .ok (.iinc 3 1, 3) := by decide +kernel
theorem dX0_struckBy_32 : decode cX0_struckBy 32 = .ok (.goto (-28), 3) := by decide +kernel
theorem dX0_struckBy_35 : decode cX0_struckBy 35 = .ok (.iload_n 2, 1) := by decide +kernel
theorem dX0_struckBy_36 : decode cX0_struckBy 36 = .ok (.ireturn, 1) := by decide +kernel
theorem dX0_firstUnlawful_0 : decode cX0_firstUnlawful 0 = .ok (.iconst 0, 1) := by decide +kernel
theorem dX0_firstUnlawful_1 : decode cX0_firstUnlawful 1 = .ok (.istore_n 2, 1) := by decide +kernel
theorem dX0_firstUnlawful_2 : decode cX0_firstUnlawful 2 = .ok (.iconst 0, 1) := by decide +kernel
theorem dX0_firstUnlawful_3 : decode cX0_firstUnlawful 3 = .ok (.istore_n 3, 1) := by decide +kernel
theorem dX0_firstUnlawful_4 : decode cX0_firstUnlawful 4 = .ok (.iload_n 3, 1) := by decide +kernel
theorem dX0_firstUnlawful_5 : decode cX0_firstUnlawful 5 = .ok (.aload_n 0, 1) := by decide +kernel
theorem dX0_firstUnlawful_6 : decode cX0_firstUnlawful 6 = .ok (.getfield 9, 3) := by decide +kernel
theorem dX0_firstUnlawful_9 : decode cX0_firstUnlawful 9 = .ok (.iload_n 1, 1) := by decide +kernel
theorem dX0_firstUnlawful_10 : decode cX0_firstUnlawful 10 = .ok (.iaload, 1) := by decide +kernel
theorem dX0_firstUnlawful_11 : decode cX0_firstUnlawful 11 = .ok (.if_icmp .ge 40, 3) := by decide +kernel
theorem dX0_firstUnlawful_14 : decode cX0_firstUnlawful 14 = .ok (.aload_n 0, 1) := by decide +kernel
theorem dX0_firstUnlawful_15 : decode cX0_firstUnlawful 15 = .ok (.getfield 15, 3) := by decide +kernel
theorem dX0_firstUnlawful_18 : decode cX0_firstUnlawful 18 = .ok (.iload_n 1, 1) := by decide +kernel
theorem dX0_firstUnlawful_19 : decode cX0_firstUnlawful 19 = .ok (.laload, 1) := by decide +kernel
theorem dX0_firstUnlawful_20 : decode cX0_firstUnlawful 20 = .ok (.iload_n 3, 1) := by decide +kernel
theorem dX0_firstUnlawful_21 : decode cX0_firstUnlawful 21 = .ok (.invokestatic 35, 3) := by decide +kernel
theorem dX0_firstUnlawful_24 : decode cX0_firstUnlawful 24 = .ok (.istore 4, 2) := by decide +kernel
theorem dX0_firstUnlawful_26 : decode cX0_firstUnlawful 26 = .ok (.iload_n 2, 1) := by decide +kernel
theorem dX0_firstUnlawful_27 : decode cX0_firstUnlawful 27 = .ok (.iload 4, 2) := by decide +kernel
theorem dX0_firstUnlawful_29 : decode cX0_firstUnlawful 29 = .ok (.ishr, 1) := by decide +kernel
theorem dX0_firstUnlawful_30 : decode cX0_firstUnlawful 30 = .ok (.iconst 1, 1) := by decide +kernel
theorem dX0_firstUnlawful_31 : decode cX0_firstUnlawful 31 = .ok (.iand, 1) := by decide +kernel
theorem dX0_firstUnlawful_32 : decode cX0_firstUnlawful 32 = .ok (.iconst 1, 1) := by decide +kernel
theorem dX0_firstUnlawful_33 : decode cX0_firstUnlawful 33 = .ok (.if_icmp .ne 5, 3) := by decide +kernel
theorem dX0_firstUnlawful_36 : decode cX0_firstUnlawful 36 = .ok (.iload_n 3, 1) := by decide +kernel
theorem dX0_firstUnlawful_37 : decode cX0_firstUnlawful 37 = .ok (.ireturn, 1) := by decide +kernel
theorem dX0_firstUnlawful_38 : decode cX0_firstUnlawful 38 = .ok (.iload_n 2, 1) := by decide +kernel
theorem dX0_firstUnlawful_39 : decode cX0_firstUnlawful 39 = .ok (.iconst 1, 1) := by decide +kernel
theorem dX0_firstUnlawful_40 : decode cX0_firstUnlawful 40 = .ok (.iload 4, 2) := by decide +kernel
theorem dX0_firstUnlawful_42 : decode cX0_firstUnlawful 42 = .ok (.ishl, 1) := by decide +kernel
theorem dX0_firstUnlawful_43 : decode cX0_firstUnlawful 43 = .ok (.ior, 1) := by decide +kernel
theorem dX0_firstUnlawful_44 : decode cX0_firstUnlawful 44 = .ok (.istore_n 2, 1) := by decide +kernel
theorem dX0_firstUnlawful_45 : decode cX0_firstUnlawful 45 = .ok (.iinc 3 1, 3) := by decide +kernel
theorem dX0_firstUnlawful_48 : decode cX0_firstUnlawful 48 = .ok (.goto (-44), 3) := by decide +kernel
theorem dX0_firstUnlawful_51 : decode cX0_firstUnlawful 51 = .ok (.iconst (-1), 1) := by decide +kernel
theorem dX0_firstUnlawful_52 : decode cX0_firstUnlawful 52 = .ok (.ireturn, 1) := by decide +kernel
theorem dX0_firstNotPlain_0 : decode cX0_firstNotPlain 0 = .ok (.aload_n 2, 1) := by decide +kernel
theorem dX0_firstNotPlain_1 : decode cX0_firstNotPlain 1 = .ok (.invokevirtual 39, 3) := by decide +kernel
theorem dX0_firstNotPlain_4 : decode cX0_firstNotPlain 4 = .ok (.istore_n 3, 1) := by decide +kernel
theorem dX0_firstNotPlain_5 : decode cX0_firstNotPlain 5 = .ok (.iconst 0, 1) := by decide +kernel
theorem dX0_firstNotPlain_6 : decode cX0_firstNotPlain 6 = .ok (.istore 4, 2) := by decide +kernel
theorem dX0_firstNotPlain_8 : decode cX0_firstNotPlain 8 = .ok (.iload 4, 2) := by decide +kernel
theorem dX0_firstNotPlain_10 : decode cX0_firstNotPlain 10 = .ok (.aload_n 0, 1) := by decide +kernel
theorem dX0_firstNotPlain_11 : decode cX0_firstNotPlain 11 = .ok (.getfield 9, 3) := by decide +kernel
theorem dX0_firstNotPlain_14 : decode cX0_firstNotPlain 14 = .ok (.iload_n 1, 1) := by decide +kernel
theorem dX0_firstNotPlain_15 : decode cX0_firstNotPlain 15 = .ok (.iaload, 1) := by decide +kernel
theorem dX0_firstNotPlain_16 : decode cX0_firstNotPlain 16 = .ok (.if_icmp .ge 60, 3) := by decide +kernel
theorem dX0_firstNotPlain_19 : decode cX0_firstNotPlain 19 = .ok (.iload 4, 2) := by decide +kernel
theorem dX0_firstNotPlain_21 : decode cX0_firstNotPlain 21 = .ok (.aload_n 2, 1) := by decide +kernel
theorem dX0_firstNotPlain_22 : decode cX0_firstNotPlain 22 = .ok (.getfield 45, 3) := by decide +kernel
theorem dX0_firstNotPlain_25 : decode cX0_firstNotPlain 25 = .ok (.if_icmp .ge 51, 3) := by decide +kernel
theorem dX0_firstNotPlain_28 : decode cX0_firstNotPlain 28 = .ok (.aload_n 0, 1) := by decide +kernel
theorem dX0_firstNotPlain_29 : decode cX0_firstNotPlain 29 = .ok (.getfield 15, 3) := by decide +kernel
theorem dX0_firstNotPlain_32 : decode cX0_firstNotPlain 32 = .ok (.iload_n 1, 1) := by decide +kernel
theorem dX0_firstNotPlain_33 : decode cX0_firstNotPlain 33 = .ok (.laload, 1) := by decide +kernel
theorem dX0_firstNotPlain_34 : decode cX0_firstNotPlain 34 = .ok (.iload 4, 2) := by decide +kernel
theorem dX0_firstNotPlain_36 : decode cX0_firstNotPlain 36 = .ok (.invokestatic 35, 3) := by decide +kernel
theorem dX0_firstNotPlain_39 : decode cX0_firstNotPlain 39 = .ok (.istore 5, 2) := by decide +kernel
theorem dX0_firstNotPlain_41 : decode cX0_firstNotPlain 41 = .ok (.iload 5, 2) := by decide +kernel
theorem dX0_firstNotPlain_43 : decode cX0_firstNotPlain 43 = .ok (.aload_n 2, 1) := by decide +kernel
theorem dX0_firstNotPlain_44 : decode cX0_firstNotPlain 44 = .ok (.aload_n 2, 1) := by decide +kernel
theorem dX0_firstNotPlain_45 : decode cX0_firstNotPlain 45 = .ok (.getfield 48, 3) := by decide +kernel
theorem dX0_firstNotPlain_48 : decode cX0_firstNotPlain 48 = .ok (.iload 4, 2) := by decide +kernel
theorem dX0_firstNotPlain_50 : decode cX0_firstNotPlain 50 = .ok (.iaload, 1) := by decide +kernel
theorem dX0_firstNotPlain_51 : decode cX0_firstNotPlain 51 = .ok (.iload_n 3, 1) := by decide +kernel
theorem dX0_firstNotPlain_52 : decode cX0_firstNotPlain 52 = .ok (.invokevirtual 51, 3) := by decide +kernel
theorem dX0_firstNotPlain_55 : decode cX0_firstNotPlain 55 = .ok (.if_icmp .eq 6, 3) := by decide +kernel
theorem dX0_firstNotPlain_58 : decode cX0_firstNotPlain 58 = .ok (.iload 4, 2) := by decide +kernel
theorem dX0_firstNotPlain_60 : decode cX0_firstNotPlain 60 = .ok (.ireturn, 1) := by decide +kernel
theorem dX0_firstNotPlain_61 : decode cX0_firstNotPlain 61 = .ok (.iload_n 3, 1) := by decide +kernel
theorem dX0_firstNotPlain_62 : decode cX0_firstNotPlain 62 = .ok (.iconst 1, 1) := by decide +kernel
theorem dX0_firstNotPlain_63 : decode cX0_firstNotPlain 63 = .ok (.iload 5, 2) := by decide +kernel
theorem dX0_firstNotPlain_65 : decode cX0_firstNotPlain 65 = .ok (.ishl, 1) := by decide +kernel
theorem dX0_firstNotPlain_66 : decode cX0_firstNotPlain 66 = .ok (.iconst (-1), 1) := by decide +kernel
theorem dX0_firstNotPlain_67 : decode cX0_firstNotPlain 67 = .ok (.ixor, 1) := by decide +kernel
theorem dX0_firstNotPlain_68 : decode cX0_firstNotPlain 68 = .ok (.iand, 1) := by decide +kernel
theorem dX0_firstNotPlain_69 : decode cX0_firstNotPlain 69 = .ok (.istore_n 3, 1) := by decide +kernel
theorem dX0_firstNotPlain_70 : decode cX0_firstNotPlain 70 = .ok (.iinc 4 1, 3) := by decide +kernel
theorem dX0_firstNotPlain_73 : decode cX0_firstNotPlain 73 = .ok (.goto (-65), 3) := by decide +kernel
theorem dX0_firstNotPlain_76 : decode cX0_firstNotPlain 76 = .ok (.iconst (-1), 1) := by decide +kernel
theorem dX0_firstNotPlain_77 : decode cX0_firstNotPlain 77 = .ok (.ireturn, 1) := by decide +kernel
theorem dX0_whyNot_0 : decode cX0_whyNot 0 = .ok (.aload_n 0, 1) := by decide +kernel
theorem dX0_whyNot_1 : decode cX0_whyNot 1 = .ok (.getfield 23, 3) := by decide +kernel
theorem dX0_whyNot_4 : decode cX0_whyNot 4 = .ok (.iload_n 1, 1) := by decide +kernel
theorem dX0_whyNot_5 : decode cX0_whyNot 5 = .ok (.iaload, 1) := by decide +kernel
theorem dX0_whyNot_6 : decode cX0_whyNot 6 = .ok (.iconst 2, 1) := by decide +kernel
theorem dX0_whyNot_7 : decode cX0_whyNot 7 = .ok (.if_icmp .ne 5, 3) := by decide +kernel
theorem dX0_whyNot_10 : decode cX0_whyNot 10 = .ok (.iconst 1, 1) := by decide +kernel
theorem dX0_whyNot_11 : decode cX0_whyNot 11 = .ok (.ireturn, 1) := by decide +kernel
theorem dX0_whyNot_12 : decode cX0_whyNot 12 = .ok (.aload_n 0, 1) := by decide +kernel
theorem dX0_whyNot_13 : decode cX0_whyNot 13 = .ok (.getfield 23, 3) := by decide +kernel
theorem dX0_whyNot_16 : decode cX0_whyNot 16 = .ok (.iload_n 1, 1) := by decide +kernel
theorem dX0_whyNot_17 : decode cX0_whyNot 17 = .ok (.iaload, 1) := by decide +kernel
theorem dX0_whyNot_18 : decode cX0_whyNot 18 = .ok (.iload_n 2, 1) := by decide +kernel
theorem dX0_whyNot_19 : decode cX0_whyNot 19 = .ok (.if_icmp .ne 7, 3) := by decide +kernel
theorem dX0_whyNot_22 : decode cX0_whyNot 22 = .ok (.iconst 0, 1) := by decide +kernel
theorem dX0_whyNot_23 : decode cX0_whyNot 23 = .ok (.goto 4, 3) := by decide +kernel
theorem dX0_whyNot_26 : decode cX0_whyNot 26 = .ok (.iconst 2, 1) := by decide +kernel
theorem dX0_whyNot_27 : decode cX0_whyNot 27 = .ok (.ireturn, 1) := by decide +kernel
theorem dX1_init_0 : decode cX1_init 0 = .ok (.aload_n 0, 1) := by decide +kernel
theorem dX1_init_1 : decode cX1_init 1 = .ok (.invokespecial 3, 3) := by decide +kernel
theorem dX1_init_4 : decode cX1_init 4 = .ok (.aload_n 0, 1) := by decide +kernel
theorem dX1_init_5 : decode cX1_init 5 = .ok (.iconst 2, 1) := by decide +kernel
theorem dX1_init_6 : decode cX1_init 6 = .ok (.putfield 9, 3) := by decide +kernel
theorem dX1_init_9 : decode cX1_init 9 = .ok (.aload_n 0, 1) := by decide +kernel
theorem dX1_init_10 : decode cX1_init 10 = .ok (.iconst 0, 1) := by decide +kernel
theorem dX1_init_11 : decode cX1_init 11 = .ok (.putfield 15, 3) := by decide +kernel
theorem dX1_init_14 : decode cX1_init 14 = .ok (.aload_n 0, 1) := by decide +kernel
theorem dX1_init_15 : decode cX1_init 15 = .ok (.iconst 0, 1) := by decide +kernel
theorem dX1_init_16 : decode cX1_init 16 = .ok (.putfield 18, 3) := by decide +kernel
theorem dX1_init_19 : decode cX1_init 19 = .ok (.aload_n 0, 1) := by decide +kernel
theorem dX1_init_20 : decode cX1_init 20 = .ok (.iconst 0, 1) := by decide +kernel
theorem dX1_init_21 : decode cX1_init 21 = .ok (.putfield 21, 3) := by decide +kernel
theorem dX1_init_24 : decode cX1_init 24 = .ok (.aload_n 0, 1) := by decide +kernel
theorem dX1_init_25 : decode cX1_init 25 = .ok (.iconst 1, 1) := by decide +kernel
theorem dX1_init_26 : decode cX1_init 26 = .ok (.putfield 24, 3) := by decide +kernel
theorem dX1_init_29 : decode cX1_init 29 = .ok (.aload_n 0, 1) := by decide +kernel
theorem dX1_init_30 : decode cX1_init 30 = .ok (.iconst 0, 1) := by decide +kernel
theorem dX1_init_31 : decode cX1_init 31 = .ok (.putfield 27, 3) := by decide +kernel
theorem dX1_init_34 : decode cX1_init 34 = .ok (.aload_n 0, 1) := by decide +kernel
theorem dX1_init_35 : decode cX1_init 35 = .ok (.iconst 0, 1) := by decide +kernel
theorem dX1_init_36 : decode cX1_init 36 = .ok (.putfield 30, 3) := by decide +kernel
theorem dX1_init_39 : decode cX1_init 39 = .ok (.aload_n 0, 1) := by decide +kernel
theorem dX1_init_40 : decode cX1_init 40 = .ok (.iconst 0, 1) := by decide +kernel
theorem dX1_init_41 : decode cX1_init 41 = .ok (.putfield 33, 3) := by decide +kernel
theorem dX1_init_44 : decode cX1_init 44 = .ok (.aload_n 0, 1) := by decide +kernel
theorem dX1_init_45 : decode cX1_init 45 = .ok (.bipush 8, 2) := by decide +kernel
theorem dX1_init_47 : decode cX1_init 47 = .ok (.newarray .int, 2) := by decide +kernel
theorem dX1_init_49 : decode cX1_init 49 = .ok (.putfield 36, 3) := by decide +kernel
theorem dX1_init_52 : decode cX1_init 52 = .ok (.aload_n 0, 1) := by decide +kernel
theorem dX1_init_53 : decode cX1_init 53 = .ok (.bipush 72, 2) := by decide +kernel
theorem dX1_init_55 : decode cX1_init 55 = .ok (.newarray .int, 2) := by decide +kernel
theorem dX1_init_57 : decode cX1_init 57 = .ok (.putfield 40, 3) := by decide +kernel
theorem dX1_init_60 : decode cX1_init 60 = .ok (.aload_n 0, 1) := by decide +kernel
theorem dX1_init_61 : decode cX1_init 61 = .ok (.bipush 8, 2) := by decide +kernel
theorem dX1_init_63 : decode cX1_init 63 = .ok (.newarray .int, 2) := by decide +kernel
theorem dX1_init_65 : decode cX1_init 65 = .ok (.putfield 43, 3) := by decide +kernel
theorem dX1_init_68 : decode cX1_init 68 = .ok (.aload_n 0, 1) := by decide +kernel
theorem dX1_init_69 : decode cX1_init 69 = .ok (.bipush 8, 2) := by decide +kernel
theorem dX1_init_71 : decode cX1_init 71 = .ok (.newarray .int, 2) := by decide +kernel
theorem dX1_init_73 : decode cX1_init 73 = .ok (.putfield 46, 3) := by decide +kernel
theorem dX1_init_76 : decode cX1_init 76 = .ok (.return_, 1) := by decide +kernel
theorem dX1_reset_0 : decode cX1_reset 0 = .ok (.aload_n 0, 1) := by decide +kernel
theorem dX1_reset_1 : decode cX1_reset 1 = .ok (.iconst 2, 1) := by decide +kernel
theorem dX1_reset_2 : decode cX1_reset 2 = .ok (.putfield 9, 3) := by decide +kernel
theorem dX1_reset_5 : decode cX1_reset 5 = .ok (.aload_n 0, 1) := by decide +kernel
theorem dX1_reset_6 : decode cX1_reset 6 = .ok (.iconst 0, 1) := by decide +kernel
theorem dX1_reset_7 : decode cX1_reset 7 = .ok (.putfield 15, 3) := by decide +kernel
theorem dX1_reset_10 : decode cX1_reset 10 = .ok (.aload_n 0, 1) := by decide +kernel
theorem dX1_reset_11 : decode cX1_reset 11 = .ok (.iconst 0, 1) := by decide +kernel
theorem dX1_reset_12 : decode cX1_reset 12 = .ok (.putfield 18, 3) := by decide +kernel
theorem dX1_reset_15 : decode cX1_reset 15 = .ok (.aload_n 0, 1) := by decide +kernel
theorem dX1_reset_16 : decode cX1_reset 16 = .ok (.iconst 0, 1) := by decide +kernel
theorem dX1_reset_17 : decode cX1_reset 17 = .ok (.putfield 21, 3) := by decide +kernel
theorem dX1_reset_20 : decode cX1_reset 20 = .ok (.aload_n 0, 1) := by decide +kernel
theorem dX1_reset_21 : decode cX1_reset 21 = .ok (.iconst 1, 1) := by decide +kernel
theorem dX1_reset_22 : decode cX1_reset 22 = .ok (.putfield 24, 3) := by decide +kernel
theorem dX1_reset_25 : decode cX1_reset 25 = .ok (.aload_n 0, 1) := by decide +kernel
theorem dX1_reset_26 : decode cX1_reset 26 = .ok (.iconst 0, 1) := by decide +kernel
theorem dX1_reset_27 : decode cX1_reset 27 = .ok (.putfield 27, 3) := by decide +kernel
theorem dX1_reset_30 : decode cX1_reset 30 = .ok (.aload_n 0, 1) := by decide +kernel
theorem dX1_reset_31 : decode cX1_reset 31 = .ok (.iconst 0, 1) := by decide +kernel
theorem dX1_reset_32 : decode cX1_reset 32 = .ok (.putfield 30, 3) := by decide +kernel
theorem dX1_reset_35 : decode cX1_reset 35 = .ok (.aload_n 0, 1) := by decide +kernel
theorem dX1_reset_36 : decode cX1_reset 36 = .ok (.iconst 0, 1) := by decide +kernel
theorem dX1_reset_37 : decode cX1_reset 37 = .ok (.putfield 33, 3) := by decide +kernel
theorem dX1_reset_40 : decode cX1_reset 40 = .ok (.return_, 1) := by decide +kernel
theorem dX1_takeFrom_0 : decode cX1_takeFrom 0 = .ok (.aload_n 0, 1) := by decide +kernel
theorem dX1_takeFrom_1 : decode cX1_takeFrom 1 = .ok (.aload_n 1, 1) := by decide +kernel
theorem dX1_takeFrom_2 : decode cX1_takeFrom 2 = .ok (.getfield 9, 3) := by decide +kernel
theorem dX1_takeFrom_5 : decode cX1_takeFrom 5 = .ok (.putfield 9, 3) := by decide +kernel
theorem dX1_takeFrom_8 : decode cX1_takeFrom 8 = .ok (.aload_n 0, 1) := by decide +kernel
theorem dX1_takeFrom_9 : decode cX1_takeFrom 9 = .ok (.aload_n 1, 1) := by decide +kernel
theorem dX1_takeFrom_10 : decode cX1_takeFrom 10 = .ok (.getfield 15, 3) := by decide +kernel
theorem dX1_takeFrom_13 : decode cX1_takeFrom 13 = .ok (.putfield 15, 3) := by decide +kernel
theorem dX1_takeFrom_16 : decode cX1_takeFrom 16 = .ok (.aload_n 0, 1) := by decide +kernel
theorem dX1_takeFrom_17 : decode cX1_takeFrom 17 = .ok (.aload_n 1, 1) := by decide +kernel
theorem dX1_takeFrom_18 : decode cX1_takeFrom 18 = .ok (.getfield 18, 3) := by decide +kernel
theorem dX1_takeFrom_21 : decode cX1_takeFrom 21 = .ok (.putfield 18, 3) := by decide +kernel
theorem dX1_takeFrom_24 : decode cX1_takeFrom 24 = .ok (.aload_n 0, 1) := by decide +kernel
theorem dX1_takeFrom_25 : decode cX1_takeFrom 25 = .ok (.aload_n 1, 1) := by decide +kernel
theorem dX1_takeFrom_26 : decode cX1_takeFrom 26 = .ok (.getfield 21, 3) := by decide +kernel
theorem dX1_takeFrom_29 : decode cX1_takeFrom 29 = .ok (.putfield 21, 3) := by decide +kernel
theorem dX1_takeFrom_32 : decode cX1_takeFrom 32 = .ok (.aload_n 0, 1) := by decide +kernel
theorem dX1_takeFrom_33 : decode cX1_takeFrom 33 = .ok (.aload_n 1, 1) := by decide +kernel
theorem dX1_takeFrom_34 : decode cX1_takeFrom 34 = .ok (.getfield 24, 3) := by decide +kernel
theorem dX1_takeFrom_37 : decode cX1_takeFrom 37 = .ok (.putfield 24, 3) := by decide +kernel
theorem dX1_takeFrom_40 : decode cX1_takeFrom 40 = .ok (.aload_n 0, 1) := by decide +kernel
theorem dX1_takeFrom_41 : decode cX1_takeFrom 41 = .ok (.aload_n 1, 1) := by decide +kernel
theorem dX1_takeFrom_42 : decode cX1_takeFrom 42 = .ok (.getfield 27, 3) := by decide +kernel
theorem dX1_takeFrom_45 : decode cX1_takeFrom 45 = .ok (.putfield 27, 3) := by decide +kernel
theorem dX1_takeFrom_48 : decode cX1_takeFrom 48 = .ok (.aload_n 0, 1) := by decide +kernel
theorem dX1_takeFrom_49 : decode cX1_takeFrom 49 = .ok (.aload_n 1, 1) := by decide +kernel
theorem dX1_takeFrom_50 : decode cX1_takeFrom 50 = .ok (.getfield 30, 3) := by decide +kernel
theorem dX1_takeFrom_53 : decode cX1_takeFrom 53 = .ok (.putfield 30, 3) := by decide +kernel
theorem dX1_takeFrom_56 : decode cX1_takeFrom 56 = .ok (.aload_n 0, 1) := by decide +kernel
theorem dX1_takeFrom_57 : decode cX1_takeFrom 57 = .ok (.aload_n 1, 1) := by decide +kernel
theorem dX1_takeFrom_58 : decode cX1_takeFrom 58 = .ok (.getfield 33, 3) := by decide +kernel
theorem dX1_takeFrom_61 : decode cX1_takeFrom 61 = .ok (.putfield 33, 3) := by decide +kernel
theorem dX1_takeFrom_64 : decode cX1_takeFrom 64 = .ok (.aload_n 1, 1) := by decide +kernel
theorem dX1_takeFrom_65 : decode cX1_takeFrom 65 = .ok (.getfield 36, 3) := by decide +kernel
theorem dX1_takeFrom_68 : decode cX1_takeFrom 68 = .ok (.iconst 0, 1) := by decide +kernel
theorem dX1_takeFrom_69 : decode cX1_takeFrom 69 = .ok (.aload_n 0, 1) := by decide +kernel
theorem dX1_takeFrom_70 : decode cX1_takeFrom 70 = .ok (.getfield 36, 3) := by decide +kernel
theorem dX1_takeFrom_73 : decode cX1_takeFrom 73 = .ok (.iconst 0, 1) := by decide +kernel
theorem dX1_takeFrom_74 : decode cX1_takeFrom 74 = .ok (.bipush 8, 2) := by decide +kernel
theorem dX1_takeFrom_76 : decode cX1_takeFrom 76 = .ok (.invokestatic 49, 3) := by decide +kernel
theorem dX1_takeFrom_79 : decode cX1_takeFrom 79 = .ok (.aload_n 1, 1) := by decide +kernel
theorem dX1_takeFrom_80 : decode cX1_takeFrom 80 = .ok (.getfield 40, 3) := by decide +kernel
theorem dX1_takeFrom_83 : decode cX1_takeFrom 83 = .ok (.iconst 0, 1) := by decide +kernel
theorem dX1_takeFrom_84 : decode cX1_takeFrom 84 = .ok (.aload_n 0, 1) := by decide +kernel
theorem dX1_takeFrom_85 : decode cX1_takeFrom 85 = .ok (.getfield 40, 3) := by decide +kernel
theorem dX1_takeFrom_88 : decode cX1_takeFrom 88 = .ok (.iconst 0, 1) := by decide +kernel
theorem dX1_takeFrom_89 : decode cX1_takeFrom 89 = .ok (.bipush 72, 2) := by decide +kernel
theorem dX1_takeFrom_91 : decode cX1_takeFrom 91 = .ok (.invokestatic 49, 3) := by decide +kernel
theorem dX1_takeFrom_94 : decode cX1_takeFrom 94 = .ok (.aload_n 1, 1) := by decide +kernel
theorem dX1_takeFrom_95 : decode cX1_takeFrom 95 = .ok (.getfield 43, 3) := by decide +kernel
theorem dX1_takeFrom_98 : decode cX1_takeFrom 98 = .ok (.iconst 0, 1) := by decide +kernel
theorem dX1_takeFrom_99 : decode cX1_takeFrom 99 = .ok (.aload_n 0, 1) := by decide +kernel
theorem dX1_takeFrom_100 : decode cX1_takeFrom 100 = .ok (.getfield 43, 3) := by decide +kernel
theorem dX1_takeFrom_103 : decode cX1_takeFrom 103 = .ok (.iconst 0, 1) := by decide +kernel
theorem dX1_takeFrom_104 : decode cX1_takeFrom 104 = .ok (.bipush 8, 2) := by decide +kernel
theorem dX1_takeFrom_106 : decode cX1_takeFrom 106 = .ok (.invokestatic 49, 3) := by decide +kernel
theorem dX1_takeFrom_109 : decode cX1_takeFrom 109 = .ok (.aload_n 1, 1) := by decide +kernel
theorem dX1_takeFrom_110 : decode cX1_takeFrom 110 = .ok (.getfield 46, 3) := by decide +kernel
theorem dX1_takeFrom_113 : decode cX1_takeFrom 113 = .ok (.iconst 0, 1) := by decide +kernel
theorem dX1_takeFrom_114 : decode cX1_takeFrom 114 = .ok (.aload_n 0, 1) := by decide +kernel
theorem dX1_takeFrom_115 : decode cX1_takeFrom 115 = .ok (.getfield 46, 3) := by decide +kernel
theorem dX1_takeFrom_118 : decode cX1_takeFrom 118 = .ok (.iconst 0, 1) := by decide +kernel
theorem dX1_takeFrom_119 : decode cX1_takeFrom 119 = .ok (.bipush 8, 2) := by decide +kernel
theorem dX1_takeFrom_121 : decode cX1_takeFrom 121 = .ok (.invokestatic 49, 3) := by decide +kernel
theorem dX1_takeFrom_124 : decode cX1_takeFrom 124 = .ok (.return_, 1) := by decide +kernel
theorem dX1_allThings_0 : decode cX1_allThings 0 = .ok (.iconst 1, 1) := by decide +kernel
theorem dX1_allThings_1 : decode cX1_allThings 1 = .ok (.aload_n 0, 1) := by decide +kernel
theorem dX1_allThings_2 : decode cX1_allThings 2 = .ok (.getfield 9, 3) := by decide +kernel
theorem dX1_allThings_5 : decode cX1_allThings 5 = .ok (.ishl, 1) := by decide +kernel
theorem dX1_allThings_6 : decode cX1_allThings 6 = .ok (.iconst 1, 1) := by decide +kernel
theorem dX1_allThings_7 : decode cX1_allThings 7 = .ok (.isub, 1) := by decide +kernel
theorem dX1_allThings_8 : decode cX1_allThings 8 = .ok (.ireturn, 1) := by decide +kernel
theorem dX1_allPeople_0 : decode cX1_allPeople 0 = .ok (.iconst 1, 1) := by decide +kernel
theorem dX1_allPeople_1 : decode cX1_allPeople 1 = .ok (.aload_n 0, 1) := by decide +kernel
theorem dX1_allPeople_2 : decode cX1_allPeople 2 = .ok (.getfield 15, 3) := by decide +kernel
theorem dX1_allPeople_5 : decode cX1_allPeople 5 = .ok (.ishl, 1) := by decide +kernel
theorem dX1_allPeople_6 : decode cX1_allPeople 6 = .ok (.iconst 1, 1) := by decide +kernel
theorem dX1_allPeople_7 : decode cX1_allPeople 7 = .ok (.isub, 1) := by decide +kernel
theorem dX1_allPeople_8 : decode cX1_allPeople 8 = .ok (.ireturn, 1) := by decide +kernel
theorem dX1_placeOf_0 : decode cX1_placeOf 0 = .ok (.aload_n 0, 1) := by decide +kernel
theorem dX1_placeOf_1 : decode cX1_placeOf 1 = .ok (.getfield 40, 3) := by decide +kernel
theorem dX1_placeOf_4 : decode cX1_placeOf 4 = .ok (.iload_n 1, 1) := by decide +kernel
theorem dX1_placeOf_5 : decode cX1_placeOf 5 = .ok (.bipush 9, 2) := by decide +kernel
theorem dX1_placeOf_7 : decode cX1_placeOf 7 = .ok (.imul, 1) := by decide +kernel
theorem dX1_placeOf_8 : decode cX1_placeOf 8 = .ok (.iload_n 2, 1) := by decide +kernel
theorem dX1_placeOf_9 : decode cX1_placeOf 9 = .ok (.iadd, 1) := by decide +kernel
theorem dX1_placeOf_10 : decode cX1_placeOf 10 = .ok (.iaload, 1) := by decide +kernel
theorem dX1_placeOf_11 : decode cX1_placeOf 11 = .ok (.ireturn, 1) := by decide +kernel
theorem dX1_putPlace_0 : decode cX1_putPlace 0 = .ok (.aload_n 0, 1) := by decide +kernel
theorem dX1_putPlace_1 : decode cX1_putPlace 1 = .ok (.getfield 40, 3) := by decide +kernel
theorem dX1_putPlace_4 : decode cX1_putPlace 4 = .ok (.iload_n 1, 1) := by decide +kernel
theorem dX1_putPlace_5 : decode cX1_putPlace 5 = .ok (.bipush 9, 2) := by decide +kernel
theorem dX1_putPlace_7 : decode cX1_putPlace 7 = .ok (.imul, 1) := by decide +kernel
theorem dX1_putPlace_8 : decode cX1_putPlace 8 = .ok (.iload_n 2, 1) := by decide +kernel
theorem dX1_putPlace_9 : decode cX1_putPlace 9 = .ok (.iadd, 1) := by decide +kernel
theorem dX1_putPlace_10 : decode cX1_putPlace 10 = .ok (.iload_n 3, 1) := by decide +kernel
theorem dX1_putPlace_11 : decode cX1_putPlace 11 = .ok (.iastore, 1) := by decide +kernel
theorem dX1_putPlace_12 : decode cX1_putPlace 12 = .ok (.return_, 1) := by decide +kernel
theorem dX1_groupSize_0 : decode cX1_groupSize 0 = .ok (.iconst 0, 1) := by decide +kernel
theorem dX1_groupSize_1 : decode cX1_groupSize 1 = .ok (.istore_n 3, 1) := by decide +kernel
theorem dX1_groupSize_2 : decode cX1_groupSize 2 = .ok (.iconst 0, 1) := by decide +kernel
theorem dX1_groupSize_3 : decode cX1_groupSize 3 = .ok (.istore 4, 2) := by decide +kernel
theorem dX1_groupSize_5 : decode cX1_groupSize 5 = .ok (.iload 4, 2) := by decide +kernel
theorem dX1_groupSize_7 : decode cX1_groupSize 7 = .ok (.aload_n 0, 1) := by decide +kernel
theorem dX1_groupSize_8 : decode cX1_groupSize 8 = .ok (.getfield 9, 3) := by decide +kernel
theorem dX1_groupSize_11 : decode cX1_groupSize 11 = .ok (.if_icmp .ge 23, 3) := by decide +kernel
theorem dX1_groupSize_14 : decode cX1_groupSize 14 = .ok (.aload_n 0, 1) := by decide +kernel
theorem dX1_groupSize_15 : decode cX1_groupSize 15 = .ok (.iload_n 1, 1) := by decide +kernel
theorem dX1_groupSize_16 : decode cX1_groupSize 16 = .ok (.iload 4, 2) := by decide +kernel
theorem dX1_groupSize_18 : decode cX1_groupSize 18 = .ok (.invokevirtual 55, 3) := by decide +kernel
theorem dX1_groupSize_21 : decode cX1_groupSize 21 = .ok (.iload_n 2, 1) := by decide +kernel
theorem dX1_groupSize_22 : decode cX1_groupSize 22 = .ok (.if_icmp .ne 6, 3) := by decide +kernel
theorem dX1_groupSize_25 : decode cX1_groupSize 25 = .ok (.iinc 3 1, 3) := by decide +kernel
theorem dX1_groupSize_28 : decode cX1_groupSize 28 = .ok (.iinc 4 1, 3) := by decide +kernel
theorem dX1_groupSize_31 : decode cX1_groupSize 31 = .ok (.goto (-26), 3) := by decide +kernel
theorem dX1_groupSize_34 : decode cX1_groupSize 34 = .ok (.iload_n 3, 1) := by decide +kernel
theorem dX1_groupSize_35 : decode cX1_groupSize 35 = .ok (.ireturn, 1) := by decide +kernel
theorem dX1_weightOf_0 : decode cX1_weightOf 0 = .ok (.iconst 0, 1) := by decide +kernel
theorem dX1_weightOf_1 : decode cX1_weightOf 1 = .ok (.istore_n 2, 1) := by decide +kernel
theorem dX1_weightOf_2 : decode cX1_weightOf 2 = .ok (.iconst 0, 1) := by decide +kernel
theorem dX1_weightOf_3 : decode cX1_weightOf 3 = .ok (.istore_n 3, 1) := by decide +kernel
theorem dX1_weightOf_4 : decode cX1_weightOf 4 = .ok (.iload_n 3, 1) := by decide +kernel
theorem dX1_weightOf_5 : decode cX1_weightOf 5 = .ok (.aload_n 0, 1) := by decide +kernel
theorem dX1_weightOf_6 : decode cX1_weightOf 6 = .ok (.getfield 15, 3) := by decide +kernel
theorem dX1_weightOf_9 : decode cX1_weightOf 9 = .ok (.if_icmp .ge 27, 3) := by decide +kernel
theorem dX1_weightOf_12 : decode cX1_weightOf 12 = .ok (.iload_n 1, 1) := by decide +kernel
theorem dX1_weightOf_13 : decode cX1_weightOf 13 = .ok (.iload_n 3, 1) := by decide +kernel
theorem dX1_weightOf_14 : decode cX1_weightOf 14 = .ok (.ishr, 1) := by decide +kernel
theorem dX1_weightOf_15 : decode cX1_weightOf 15 = .ok (.iconst 1, 1) := by decide +kernel
theorem dX1_weightOf_16 : decode cX1_weightOf 16 = .ok (.iand, 1) := by decide +kernel
theorem dX1_weightOf_17 : decode cX1_weightOf 17 = .ok (.iconst 1, 1) := by decide +kernel
theorem dX1_weightOf_18 : decode cX1_weightOf 18 = .ok (.if_icmp .ne 12, 3) := by decide +kernel
theorem dX1_weightOf_21 : decode cX1_weightOf 21 = .ok (.iload_n 2, 1) := by decide +kernel
theorem dX1_weightOf_22 : decode cX1_weightOf 22 = .ok (.aload_n 0, 1) := by decide +kernel
theorem dX1_weightOf_23 : decode cX1_weightOf 23 = .ok (.getfield 36, 3) := by decide +kernel
theorem dX1_weightOf_26 : decode cX1_weightOf 26 = .ok (.iload_n 3, 1) := by decide +kernel
theorem dX1_weightOf_27 : decode cX1_weightOf 27 = .ok (.iaload, 1) := by decide +kernel
theorem dX1_weightOf_28 : decode cX1_weightOf 28 = .ok (.iadd, 1) := by decide +kernel
theorem dX1_weightOf_29 : decode cX1_weightOf 29 = .ok (.istore_n 2, 1) := by decide +kernel
theorem dX1_weightOf_30 : decode cX1_weightOf 30 = .ok (.iinc 3 1, 3) := by decide +kernel
theorem dX1_weightOf_33 : decode cX1_weightOf 33 = .ok (.goto (-29), 3) := by decide +kernel
theorem dX1_weightOf_36 : decode cX1_weightOf 36 = .ok (.iload_n 2, 1) := by decide +kernel
theorem dX1_weightOf_37 : decode cX1_weightOf 37 = .ok (.ireturn, 1) := by decide +kernel
theorem dX1_mayStrike_0 : decode cX1_mayStrike 0 = .ok (.iload_n 1, 1) := by decide +kernel
theorem dX1_mayStrike_1 : decode cX1_mayStrike 1 = .ok (.aload_n 0, 1) := by decide +kernel
theorem dX1_mayStrike_2 : decode cX1_mayStrike 2 = .ok (.invokevirtual 59, 3) := by decide +kernel
theorem dX1_mayStrike_5 : decode cX1_mayStrike 5 = .ok (.iand, 1) := by decide +kernel
theorem dX1_mayStrike_6 : decode cX1_mayStrike 6 = .ok (.istore_n 2, 1) := by decide +kernel
theorem dX1_mayStrike_7 : decode cX1_mayStrike 7 = .ok (.iload_n 2, 1) := by decide +kernel
theorem dX1_mayStrike_8 : decode cX1_mayStrike 8 = .ok (.ifCond .ne 5, 3) := by decide +kernel
theorem dX1_mayStrike_11 : decode cX1_mayStrike 11 = .ok (.iconst 0, 1) := by decide +kernel
theorem dX1_mayStrike_12 : decode cX1_mayStrike 12 = .ok (.ireturn, 1) := by decide +kernel
theorem dX1_mayStrike_13 : decode cX1_mayStrike 13 = .ok (.aload_n 0, 1) := by decide +kernel
theorem dX1_mayStrike_14 : decode cX1_mayStrike 14 = .ok (.getfield 9, 3) := by decide +kernel
theorem dX1_mayStrike_17 : decode cX1_mayStrike 17 = .ok (.iconst 1, 1) := by decide +kernel
theorem dX1_mayStrike_18 : decode cX1_mayStrike 18 = .ok (.isub, 1) := by decide +kernel
theorem dX1_mayStrike_19 : decode cX1_mayStrike 19 = .ok (.aload_n 0, 1) := by decide +kernel
theorem dX1_mayStrike_20 : decode cX1_mayStrike 20 = .ok (.iload_n 2, 1) := by decide +kernel
theorem dX1_mayStrike_21 : decode cX1_mayStrike 21 = .ok (.invokevirtual 63, 3) := by decide +kernel
theorem dX1_mayStrike_24 : decode cX1_mayStrike 24 = .ok (.invokestatic 67, 3) := by decide +kernel
theorem dX1_mayStrike_27 : decode cX1_mayStrike 27 = .ok (.ireturn, 1) := by decide +kernel
theorem dX1_lawGives_0 : decode cX1_lawGives 0 = .ok (.aload_n 0, 1) := by decide +kernel
theorem dX1_lawGives_1 : decode cX1_lawGives 1 = .ok (.getfield 21, 3) := by decide +kernel
theorem dX1_lawGives_4 : decode cX1_lawGives 4 = .ok (.lookupswitch 80 #[(1, 28), (2, 50)], 28) := by decide +kernel
theorem dX1_lawGives_32 : decode cX1_lawGives 32 = .ok (.aload_n 0, 1) := by decide +kernel
theorem dX1_lawGives_33 : decode cX1_lawGives 33 = .ok (.getfield 24, 3) := by decide +kernel
theorem dX1_lawGives_36 : decode cX1_lawGives 36 = .ok (.ifCond .le 16, 3) := by decide +kernel
theorem dX1_lawGives_39 : decode cX1_lawGives 39 = .ok (.aload_n 0, 1) := by decide +kernel
theorem dX1_lawGives_40 : decode cX1_lawGives 40 = .ok (.iload_n 1, 1) := by decide +kernel
theorem dX1_lawGives_41 : decode cX1_lawGives 41 = .ok (.invokevirtual 72, 3) := by decide +kernel
theorem dX1_lawGives_44 : decode cX1_lawGives 44 = .ok (.aload_n 0, 1) := by decide +kernel
theorem dX1_lawGives_45 : decode cX1_lawGives 45 = .ok (.getfield 24, 3) := by decide +kernel
theorem dX1_lawGives_48 : decode cX1_lawGives 48 = .ok (.idiv, 1) := by decide +kernel
theorem dX1_lawGives_49 : decode cX1_lawGives 49 = .ok (.goto 4, 3) := by decide +kernel
theorem dX1_lawGives_52 : decode cX1_lawGives 52 = .ok (.iconst 0, 1) := by decide +kernel
theorem dX1_lawGives_53 : decode cX1_lawGives 53 = .ok (.ireturn, 1) := by decide +kernel
theorem dX1_lawGives_54 : decode cX1_lawGives 54 = .ok (.aload_n 0, 1) := by decide +kernel
theorem dX1_lawGives_55 : decode cX1_lawGives 55 = .ok (.getfield 27, 3) := by decide +kernel
theorem dX1_lawGives_58 : decode cX1_lawGives 58 = .ok (.ifCond .le 24, 3) := by decide +kernel
theorem dX1_lawGives_61 : decode cX1_lawGives 61 = .ok (.aload_n 0, 1) := by decide +kernel
theorem dX1_lawGives_62 : decode cX1_lawGives 62 = .ok (.getfield 43, 3) := by decide +kernel
theorem dX1_lawGives_65 : decode cX1_lawGives 65 = .ok (.iload_n 1, 1) := by decide +kernel
theorem dX1_lawGives_66 : decode cX1_lawGives 66 = .ok (.invokestatic 75, 3) := by decide +kernel
theorem dX1_lawGives_69 : decode cX1_lawGives 69 = .ok (.aload_n 0, 1) := by decide +kernel
theorem dX1_lawGives_70 : decode cX1_lawGives 70 = .ok (.getfield 27, 3) := by decide +kernel
theorem dX1_lawGives_73 : decode cX1_lawGives 73 = .ok (.invokestatic 67, 3) := by decide +kernel
theorem dX1_lawGives_76 : decode cX1_lawGives 76 = .ok (.iconst 1, 1) := by decide +kernel
theorem dX1_lawGives_77 : decode cX1_lawGives 77 = .ok (.isub, 1) := by decide +kernel
theorem dX1_lawGives_78 : decode cX1_lawGives 78 = .ok (.iaload, 1) := by decide +kernel
theorem dX1_lawGives_79 : decode cX1_lawGives 79 = .ok (.goto 4, 3) := by decide +kernel
theorem dX1_lawGives_82 : decode cX1_lawGives 82 = .ok (.iconst 0, 1) := by decide +kernel
theorem dX1_lawGives_83 : decode cX1_lawGives 83 = .ok (.ireturn, 1) := by decide +kernel
theorem dX1_lawGives_84 : decode cX1_lawGives 84 = .ok (.aload_n 0, 1) := by decide +kernel
theorem dX1_lawGives_85 : decode cX1_lawGives 85 = .ok (.getfield 18, 3) := by decide +kernel
theorem dX1_lawGives_88 : decode cX1_lawGives 88 = .ok (.ifCond .le 30, 3) := by decide +kernel
theorem dX1_lawGives_91 : decode cX1_lawGives 91 = .ok (.aload_n 0, 1) := by decide +kernel
theorem dX1_lawGives_92 : decode cX1_lawGives 92 = .ok (.getfield 9, 3) := by decide +kernel
theorem dX1_lawGives_95 : decode cX1_lawGives 95 = .ok (.aload_n 0, 1) := by decide +kernel
theorem dX1_lawGives_96 : decode cX1_lawGives 96 = .ok (.iload_n 1, 1) := by decide +kernel
theorem dX1_lawGives_97 : decode cX1_lawGives 97 = .ok (.invokevirtual 72, 3) := by decide +kernel
theorem dX1_lawGives_100 : decode cX1_lawGives 100 = .ok (.imul, 1) := by decide +kernel
theorem dX1_lawGives_101 : decode cX1_lawGives 101 = .ok (.aload_n 0, 1) := by decide +kernel
theorem dX1_lawGives_102 : decode cX1_lawGives 102 = .ok (.getfield 18, 3) := by decide +kernel
theorem dX1_lawGives_105 : decode cX1_lawGives 105 = .ok (.iadd, 1) := by decide +kernel
theorem dX1_lawGives_106 : decode cX1_lawGives 106 = .ok (.iconst 1, 1) := by decide +kernel
theorem dX1_lawGives_107 : decode cX1_lawGives 107 = .ok (.isub, 1) := by decide +kernel
theorem dX1_lawGives_108 : decode cX1_lawGives 108 = .ok (.aload_n 0, 1) := by decide +kernel
theorem dX1_lawGives_109 : decode cX1_lawGives 109 = .ok (.getfield 18, 3) := by decide +kernel
theorem dX1_lawGives_112 : decode cX1_lawGives 112 = .ok (.idiv, 1) := by decide +kernel
theorem dX1_lawGives_113 : decode cX1_lawGives 113 = .ok (.iconst 1, 1) := by decide +kernel
theorem dX1_lawGives_114 : decode cX1_lawGives 114 = .ok (.isub, 1) := by decide +kernel
theorem dX1_lawGives_115 : decode cX1_lawGives 115 = .ok (.goto 4, 3) := by decide +kernel
theorem dX1_lawGives_118 : decode cX1_lawGives 118 = .ok (.iconst 0, 1) := by decide +kernel
theorem dX1_lawGives_119 : decode cX1_lawGives 119 = .ok (.ireturn, 1) := by decide +kernel
theorem dX1_dearerThan_0 : decode cX1_dearerThan 0 = .ok (.aload_n 0, 1) := by decide +kernel
theorem dX1_dearerThan_1 : decode cX1_dearerThan 1 = .ok (.iload_n 1, 1) := by decide +kernel
theorem dX1_dearerThan_2 : decode cX1_dearerThan 2 = .ok (.iload_n 2, 1) := by decide +kernel
theorem dX1_dearerThan_3 : decode cX1_dearerThan 3 = .ok (.invokevirtual 55, 3) := by decide +kernel
theorem dX1_dearerThan_6 : decode cX1_dearerThan 6 = .ok (.istore_n 3, 1) := by decide +kernel
theorem dX1_dearerThan_7 : decode cX1_dearerThan 7 = .ok (.iconst 0, 1) := by decide +kernel
theorem dX1_dearerThan_8 : decode cX1_dearerThan 8 = .ok (.istore 4, 2) := by decide +kernel
theorem dX1_dearerThan_10 : decode cX1_dearerThan 10 = .ok (.iconst 0, 1) := by decide +kernel
theorem dX1_dearerThan_11 : decode cX1_dearerThan 11 = .ok (.istore 5, 2) := by decide +kernel
theorem dX1_dearerThan_13 : decode cX1_dearerThan 13 = .ok (.iload 5, 2) := by decide +kernel
theorem dX1_dearerThan_15 : decode cX1_dearerThan 15 = .ok (.aload_n 0, 1) := by decide +kernel
theorem dX1_dearerThan_16 : decode cX1_dearerThan 16 = .ok (.getfield 9, 3) := by decide +kernel
theorem dX1_dearerThan_19 : decode cX1_dearerThan 19 = .ok (.if_icmp .ge 29, 3) := by decide +kernel
theorem dX1_dearerThan_22 : decode cX1_dearerThan 22 = .ok (.aload_n 0, 1) := by decide +kernel
theorem dX1_dearerThan_23 : decode cX1_dearerThan 23 = .ok (.iload_n 1, 1) := by decide +kernel
theorem dX1_dearerThan_24 : decode cX1_dearerThan 24 = .ok (.iload 5, 2) := by decide +kernel
theorem dX1_dearerThan_26 : decode cX1_dearerThan 26 = .ok (.invokevirtual 55, 3) := by decide +kernel
theorem dX1_dearerThan_29 : decode cX1_dearerThan 29 = .ok (.iload_n 3, 1) := by decide +kernel
theorem dX1_dearerThan_30 : decode cX1_dearerThan 30 = .ok (.if_icmp .ge 12, 3) := by decide +kernel
theorem dX1_dearerThan_33 : decode cX1_dearerThan 33 = .ok (.iload 4, 2) := by decide +kernel
theorem dX1_dearerThan_35 : decode cX1_dearerThan 35 = .ok (.iconst 1, 1) := by decide +kernel
theorem dX1_dearerThan_36 : decode cX1_dearerThan 36 = .ok (.iload 5, 2) := by decide +kernel
theorem dX1_dearerThan_38 : decode cX1_dearerThan 38 = .ok (.ishl, 1) := by decide +kernel
theorem dX1_dearerThan_39 : decode cX1_dearerThan 39 = .ok (.ior, 1) := by decide +kernel
theorem dX1_dearerThan_40 : decode cX1_dearerThan 40 = .ok (.istore 4, 2) := by decide +kernel
theorem dX1_dearerThan_42 : decode cX1_dearerThan 42 = .ok (.iinc 5 1, 3) := by decide +kernel
theorem dX1_dearerThan_45 : decode cX1_dearerThan 45 = .ok (.goto (-32), 3) := by decide +kernel
theorem dX1_dearerThan_48 : decode cX1_dearerThan 48 = .ok (.iload 4, 2) := by decide +kernel
theorem dX1_dearerThan_50 : decode cX1_dearerThan 50 = .ok (.ireturn, 1) := by decide +kernel
theorem dX1_keptBy_0 : decode cX1_keptBy 0 = .ok (.aload_n 0, 1) := by decide +kernel
theorem dX1_keptBy_1 : decode cX1_keptBy 1 = .ok (.invokevirtual 80, 3) := by decide +kernel
theorem dX1_keptBy_4 : decode cX1_keptBy 4 = .ok (.istore_n 3, 1) := by decide +kernel
theorem dX1_keptBy_5 : decode cX1_keptBy 5 = .ok (.iconst 0, 1) := by decide +kernel
theorem dX1_keptBy_6 : decode cX1_keptBy 6 = .ok (.istore 4, 2) := by decide +kernel
theorem dX1_keptBy_8 : decode cX1_keptBy 8 = .ok (.iload 4, 2) := by decide +kernel
theorem dX1_keptBy_10 : decode cX1_keptBy 10 = .ok (.aload_n 0, 1) := by decide +kernel
theorem dX1_keptBy_11 : decode cX1_keptBy 11 = .ok (.getfield 15, 3) := by decide +kernel
theorem dX1_keptBy_14 : decode cX1_keptBy 14 = .ok (.if_icmp .ge 29, 3) := by decide +kernel
theorem dX1_keptBy_17 : decode cX1_keptBy 17 = .ok (.iload_n 1, 1) := by decide +kernel
theorem dX1_keptBy_18 : decode cX1_keptBy 18 = .ok (.iload 4, 2) := by decide +kernel
theorem dX1_keptBy_20 : decode cX1_keptBy 20 = .ok (.ishr, 1) := by decide +kernel
theorem dX1_keptBy_21 : decode cX1_keptBy 21 = .ok (.iconst 1, 1) := by decide +kernel
theorem dX1_keptBy_22 : decode cX1_keptBy 22 = .ok (.iand, 1) := by decide +kernel
theorem dX1_keptBy_23 : decode cX1_keptBy 23 = .ok (.iconst 1, 1) := by decide +kernel
theorem dX1_keptBy_24 : decode cX1_keptBy 24 = .ok (.if_icmp .ne 13, 3) := by decide +kernel
theorem dX1_keptBy_27 : decode cX1_keptBy 27 = .ok (.iload_n 3, 1) := by decide +kernel
theorem dX1_keptBy_28 : decode cX1_keptBy 28 = .ok (.aload_n 0, 1) := by decide +kernel
theorem dX1_keptBy_29 : decode cX1_keptBy 29 = .ok (.iload 4, 2) := by decide +kernel
theorem dX1_keptBy_31 : decode cX1_keptBy 31 = .ok (.iload_n 2, 1) := by decide +kernel
theorem dX1_keptBy_32 : decode cX1_keptBy 32 = .ok (.invokevirtual 83, 3) := by decide +kernel
theorem dX1_keptBy_35 : decode cX1_keptBy 35 = .ok (.iand, 1) := by decide +kernel
theorem dX1_keptBy_36 : decode cX1_keptBy 36 = .ok (.istore_n 3, 1) := by decide +kernel
theorem dX1_keptBy_37 : decode cX1_keptBy 37 = .ok (.iinc 4 1, 3) := by decide +kernel
theorem dX1_keptBy_40 : decode cX1_keptBy 40 = .ok (.goto (-32), 3) := by decide +kernel
theorem dX1_keptBy_43 : decode cX1_keptBy 43 = .ok (.iload_n 3, 1) := by decide +kernel
theorem dX1_keptBy_44 : decode cX1_keptBy 44 = .ok (.ireturn, 1) := by decide +kernel
theorem dX1_plainStrike_0 : decode cX1_plainStrike 0 = .ok (.iconst (-1), 1) := by decide +kernel
theorem dX1_plainStrike_1 : decode cX1_plainStrike 1 = .ok (.istore_n 3, 1) := by decide +kernel
theorem dX1_plainStrike_2 : decode cX1_plainStrike 2 = .ok (.iconst 0, 1) := by decide +kernel
theorem dX1_plainStrike_3 : decode cX1_plainStrike 3 = .ok (.istore 4, 2) := by decide +kernel
theorem dX1_plainStrike_5 : decode cX1_plainStrike 5 = .ok (.iload 4, 2) := by decide +kernel
theorem dX1_plainStrike_7 : decode cX1_plainStrike 7 = .ok (.aload_n 0, 1) := by decide +kernel
theorem dX1_plainStrike_8 : decode cX1_plainStrike 8 = .ok (.getfield 9, 3) := by decide +kernel
theorem dX1_plainStrike_11 : decode cX1_plainStrike 11 = .ok (.if_icmp .ge 43, 3) := by decide +kernel
theorem dX1_plainStrike_14 : decode cX1_plainStrike 14 = .ok (.iload_n 2, 1) := by decide +kernel
theorem dX1_plainStrike_15 : decode cX1_plainStrike 15 = .ok (.iload 4, 2) := by decide +kernel
theorem dX1_plainStrike_17 : decode cX1_plainStrike 17 = .ok (.ishr, 1) := by decide +kernel
theorem dX1_plainStrike_18 : decode cX1_plainStrike 18 = .ok (.iconst 1, 1) := by decide +kernel
theorem dX1_plainStrike_19 : decode cX1_plainStrike 19 = .ok (.iand, 1) := by decide +kernel
theorem dX1_plainStrike_20 : decode cX1_plainStrike 20 = .ok (.iconst 1, 1) := by decide +kernel
theorem dX1_plainStrike_21 : decode cX1_plainStrike 21 = .ok (.if_icmp .ne 27, 3) := by decide +kernel
theorem dX1_plainStrike_24 : decode cX1_plainStrike 24 = .ok (.iload_n 3, 1) := by decide +kernel
theorem dX1_plainStrike_25 : decode cX1_plainStrike 25 = .ok (.iconst (-1), 1) := by decide +kernel
theorem dX1_plainStrike_26 : decode cX1_plainStrike 26 = .ok (.if_icmp .eq 19, 3) := by decide +kernel
theorem dX1_plainStrike_29 : decode cX1_plainStrike 29 = .ok (.aload_n 0, 1) := by decide +kernel
theorem dX1_plainStrike_30 : decode cX1_plainStrike 30 = .ok (.iload_n 1, 1) := by decide +kernel
theorem dX1_plainStrike_31 : decode cX1_plainStrike 31 = .ok (.iload 4, 2) := by decide +kernel
theorem dX1_plainStrike_33 : decode cX1_plainStrike 33 = .ok (.invokevirtual 55, 3) := by decide +kernel
theorem dX1_plainStrike_36 : decode cX1_plainStrike 36 = .ok (.aload_n 0, 1) := by decide +kernel
theorem dX1_plainStrike_37 : decode cX1_plainStrike 37 = .ok (.iload_n 1, 1) := by decide +kernel
theorem dX1_plainStrike_38 : decode cX1_plainStrike 38 = .ok (.iload_n 3, 1) := by decide +kernel
theorem dX1_plainStrike_39 : decode cX1_plainStrike 39 = .ok (.invokevirtual 55, 3) := by decide +kernel
theorem dX1_plainStrike_42 : decode cX1_plainStrike 42 = .ok (.if_icmp .lt 6, 3) := by decide +kernel
theorem dX1_plainStrike_45 : decode cX1_plainStrike 45 = .ok (.iload 4, 2) := by decide +kernel
theorem dX1_plainStrike_47 : decode cX1_plainStrike 47 = .ok (.istore_n 3, 1) := by decide +kernel
theorem dX1_plainStrike_48 : decode cX1_plainStrike 48 = .ok (.iinc 4 1, 3) := by decide +kernel
theorem dX1_plainStrike_51 : decode cX1_plainStrike 51 = .ok (.goto (-46), 3) := by decide +kernel
theorem dX1_plainStrike_54 : decode cX1_plainStrike 54 = .ok (.iload_n 3, 1) := by decide +kernel
theorem dX1_plainStrike_55 : decode cX1_plainStrike 55 = .ok (.ireturn, 1) := by decide +kernel
theorem dX1_strikePlainly_0 : decode cX1_strikePlainly 0 = .ok (.iload_n 2, 1) := by decide +kernel
theorem dX1_strikePlainly_1 : decode cX1_strikePlainly 1 = .ok (.invokestatic 75, 3) := by decide +kernel
theorem dX1_strikePlainly_4 : decode cX1_strikePlainly 4 = .ok (.iconst 2, 1) := by decide +kernel
theorem dX1_strikePlainly_5 : decode cX1_strikePlainly 5 = .ok (.if_icmp .ge 5, 3) := by decide +kernel
theorem dX1_strikePlainly_8 : decode cX1_strikePlainly 8 = .ok (.iload_n 2, 1) := by decide +kernel
theorem dX1_strikePlainly_9 : decode cX1_strikePlainly 9 = .ok (.ireturn, 1) := by decide +kernel
theorem dX1_strikePlainly_10 : decode cX1_strikePlainly 10 = .ok (.iload_n 2, 1) := by decide +kernel
theorem dX1_strikePlainly_11 : decode cX1_strikePlainly 11 = .ok (.iconst 1, 1) := by decide +kernel
theorem dX1_strikePlainly_12 : decode cX1_strikePlainly 12 = .ok (.aload_n 0, 1) := by decide +kernel
theorem dX1_strikePlainly_13 : decode cX1_strikePlainly 13 = .ok (.iload_n 1, 1) := by decide +kernel
theorem dX1_strikePlainly_14 : decode cX1_strikePlainly 14 = .ok (.iload_n 2, 1) := by decide +kernel
theorem dX1_strikePlainly_15 : decode cX1_strikePlainly 15 = .ok (.invokevirtual 86, 3) := by decide +kernel
theorem dX1_strikePlainly_18 : decode cX1_strikePlainly 18 = .ok (.ishl, 1) := by decide +kernel
theorem dX1_strikePlainly_19 : decode cX1_strikePlainly 19 = .ok (.iconst (-1), 1) := by decide +kernel
theorem dX1_strikePlainly_20 : decode cX1_strikePlainly 20 = .ok (.ixor, 1) := by decide +kernel
theorem dX1_strikePlainly_21 : decode cX1_strikePlainly 21 = .ok (.iand, 1) := by decide +kernel
theorem dX1_strikePlainly_22 : decode cX1_strikePlainly 22 = .ok (.ireturn, 1) := by decide +kernel
theorem dX1_strikeOften_0 : decode cX1_strikeOften 0 = .ok (.iload_n 2, 1) := by decide +kernel
theorem dX1_strikeOften_1 : decode cX1_strikeOften 1 = .ok (.istore 4, 2) := by decide +kernel
theorem dX1_strikeOften_3 : decode cX1_strikeOften 3 = .ok (.iconst 0, 1) := by decide +kernel
theorem dX1_strikeOften_4 : decode cX1_strikeOften 4 = .ok (.istore 5, 2) := by decide +kernel
theorem dX1_strikeOften_6 : decode cX1_strikeOften 6 = .ok (.iload 5, 2) := by decide +kernel
theorem dX1_strikeOften_8 : decode cX1_strikeOften 8 = .ok (.iload_n 3, 1) := by decide +kernel
theorem dX1_strikeOften_9 : decode cX1_strikeOften 9 = .ok (.if_icmp .ge 18, 3) := by decide +kernel
theorem dX1_strikeOften_12 : decode cX1_strikeOften 12 = .ok (.aload_n 0, 1) := by decide +kernel
theorem dX1_strikeOften_13 : decode cX1_strikeOften 13 = .ok (.iload_n 1, 1) := by decide +kernel
theorem dX1_strikeOften_14 : decode cX1_strikeOften 14 = .ok (.iload 4, 2) := by decide +kernel
theorem dX1_strikeOften_16 : decode cX1_strikeOften 16 = .ok (.invokevirtual 89, 3) := by decide +kernel
theorem dX1_strikeOften_19 : decode cX1_strikeOften 19 = .ok (.istore 4, 2) := by decide +kernel
theorem dX1_strikeOften_21 : decode cX1_strikeOften 21 = .ok (.iinc 5 1, 3) := by decide +kernel
theorem dX1_strikeOften_24 : decode cX1_strikeOften 24 = .ok (.goto (-18), 3) := by decide +kernel
theorem dX1_strikeOften_27 : decode cX1_strikeOften 27 = .ok (.iload 4, 2) := by decide +kernel
theorem dX1_strikeOften_29 : decode cX1_strikeOften 29 = .ok (.ireturn, 1) := by decide +kernel
theorem dX1_plainEnd_0 : decode cX1_plainEnd 0 = .ok (.aload_n 0, 1) := by decide +kernel
theorem dX1_plainEnd_1 : decode cX1_plainEnd 1 = .ok (.invokevirtual 80, 3) := by decide +kernel
theorem dX1_plainEnd_4 : decode cX1_plainEnd 4 = .ok (.istore_n 1, 1) := by decide +kernel
theorem dX1_plainEnd_5 : decode cX1_plainEnd 5 = .ok (.iconst 0, 1) := by decide +kernel
theorem dX1_plainEnd_6 : decode cX1_plainEnd 6 = .ok (.istore_n 2, 1) := by decide +kernel
theorem dX1_plainEnd_7 : decode cX1_plainEnd 7 = .ok (.iload_n 2, 1) := by decide +kernel
theorem dX1_plainEnd_8 : decode cX1_plainEnd 8 = .ok (.aload_n 0, 1) := by decide +kernel
theorem dX1_plainEnd_9 : decode cX1_plainEnd 9 = .ok (.getfield 30, 3) := by decide +kernel
theorem dX1_plainEnd_12 : decode cX1_plainEnd 12 = .ok (.if_icmp .ge 21, 3) := by decide +kernel
theorem dX1_plainEnd_15 : decode cX1_plainEnd 15 = .ok (.aload_n 0, 1) := by decide +kernel
theorem dX1_plainEnd_16 : decode cX1_plainEnd 16 = .ok (.aload_n 0, 1) := by decide +kernel
theorem dX1_plainEnd_17 : decode cX1_plainEnd 17 = .ok (.getfield 46, 3) := by decide +kernel
theorem dX1_plainEnd_20 : decode cX1_plainEnd 20 = .ok (.iload_n 2, 1) := by decide +kernel
theorem dX1_plainEnd_21 : decode cX1_plainEnd 21 = .ok (.iaload, 1) := by decide +kernel
theorem dX1_plainEnd_22 : decode cX1_plainEnd 22 = .ok (.iload_n 1, 1) := by decide +kernel
theorem dX1_plainEnd_23 : decode cX1_plainEnd 23 = .ok (.invokevirtual 89, 3) := by decide +kernel
theorem dX1_plainEnd_26 : decode cX1_plainEnd 26 = .ok (.istore_n 1, 1) := by decide +kernel
theorem dX1_plainEnd_27 : decode cX1_plainEnd 27 = .ok (.iinc 2 1, 3) := by decide +kernel
theorem dX1_plainEnd_30 : decode cX1_plainEnd 30 = .ok (.goto (-23), 3) := by decide +kernel
theorem dX1_plainEnd_33 : decode cX1_plainEnd 33 = .ok (.iload_n 1, 1) := by decide +kernel
theorem dX1_plainEnd_34 : decode cX1_plainEnd 34 = .ok (.ireturn, 1) := by decide +kernel
theorem dX1_backEnd_0 : decode cX1_backEnd 0 = .ok (.aload_n 0, 1) := by decide +kernel
theorem dX1_backEnd_1 : decode cX1_backEnd 1 = .ok (.invokevirtual 80, 3) := by decide +kernel
theorem dX1_backEnd_4 : decode cX1_backEnd 4 = .ok (.istore_n 1, 1) := by decide +kernel
theorem dX1_backEnd_5 : decode cX1_backEnd 5 = .ok (.aload_n 0, 1) := by decide +kernel
theorem dX1_backEnd_6 : decode cX1_backEnd 6 = .ok (.getfield 30, 3) := by decide +kernel
theorem dX1_backEnd_9 : decode cX1_backEnd 9 = .ok (.iconst 1, 1) := by decide +kernel
theorem dX1_backEnd_10 : decode cX1_backEnd 10 = .ok (.isub, 1) := by decide +kernel
theorem dX1_backEnd_11 : decode cX1_backEnd 11 = .ok (.istore_n 2, 1) := by decide +kernel
theorem dX1_backEnd_12 : decode cX1_backEnd 12 = .ok (.iload_n 2, 1) := by decide +kernel
theorem dX1_backEnd_13 : decode cX1_backEnd 13 = .ok (.ifCond .lt 21, 3) := by decide +kernel
theorem dX1_backEnd_16 : decode cX1_backEnd 16 = .ok (.aload_n 0, 1) := by decide +kernel
theorem dX1_backEnd_17 : decode cX1_backEnd 17 = .ok (.aload_n 0, 1) := by decide +kernel
theorem dX1_backEnd_18 : decode cX1_backEnd 18 = .ok (.getfield 46, 3) := by decide +kernel
theorem dX1_backEnd_21 : decode cX1_backEnd 21 = .ok (.iload_n 2, 1) := by decide +kernel
theorem dX1_backEnd_22 : decode cX1_backEnd 22 = .ok (.iaload, 1) := by decide +kernel
theorem dX1_backEnd_23 : decode cX1_backEnd 23 = .ok (.iload_n 1, 1) := by decide +kernel
theorem dX1_backEnd_24 : decode cX1_backEnd 24 = .ok (.invokevirtual 89, 3) := by decide +kernel
theorem dX1_backEnd_27 : decode cX1_backEnd 27 = .ok (.istore_n 1, 1) := by decide +kernel
theorem dX1_backEnd_28 : decode cX1_backEnd 28 = .ok (.iinc 2 (-1), 3) := by decide +kernel
theorem dX1_backEnd_31 : decode cX1_backEnd 31 = .ok (.goto (-19), 3) := by decide +kernel
theorem dX1_backEnd_34 : decode cX1_backEnd 34 = .ok (.iload_n 1, 1) := by decide +kernel
theorem dX1_backEnd_35 : decode cX1_backEnd 35 = .ok (.ireturn, 1) := by decide +kernel
theorem dX1_greatestPlace_0 : decode cX1_greatestPlace 0 = .ok (.iconst 0, 1) := by decide +kernel
theorem dX1_greatestPlace_1 : decode cX1_greatestPlace 1 = .ok (.istore_n 3, 1) := by decide +kernel
theorem dX1_greatestPlace_2 : decode cX1_greatestPlace 2 = .ok (.iconst 0, 1) := by decide +kernel
theorem dX1_greatestPlace_3 : decode cX1_greatestPlace 3 = .ok (.istore 4, 2) := by decide +kernel
theorem dX1_greatestPlace_5 : decode cX1_greatestPlace 5 = .ok (.iload 4, 2) := by decide +kernel
theorem dX1_greatestPlace_7 : decode cX1_greatestPlace 7 = .ok (.aload_n 0, 1) := by decide +kernel
theorem dX1_greatestPlace_8 : decode cX1_greatestPlace 8 = .ok (.getfield 9, 3) := by decide +kernel
theorem dX1_greatestPlace_11 : decode cX1_greatestPlace 11 = .ok (.if_icmp .ge 31, 3) := by decide +kernel
theorem dX1_greatestPlace_14 : decode cX1_greatestPlace 14 = .ok (.iload_n 2, 1) := by decide +kernel
theorem dX1_greatestPlace_15 : decode cX1_greatestPlace 15 = .ok (.iload 4, 2) := by decide +kernel
theorem dX1_greatestPlace_17 : decode cX1_greatestPlace 17 = .ok (.ishr, 1) := by decide +kernel
theorem dX1_greatestPlace_18 : decode cX1_greatestPlace 18 = .ok (.iconst 1, 1) := by decide +kernel
theorem dX1_greatestPlace_19 : decode cX1_greatestPlace 19 = .ok (.iand, 1) := by decide +kernel
theorem dX1_greatestPlace_20 : decode cX1_greatestPlace 20 = .ok (.iconst 1, 1) := by decide +kernel
theorem dX1_greatestPlace_21 : decode cX1_greatestPlace 21 = .ok (.if_icmp .ne 15, 3) := by decide +kernel
theorem dX1_greatestPlace_24 : decode cX1_greatestPlace 24 = .ok (.iload_n 3, 1) := by decide +kernel
theorem dX1_greatestPlace_25 : decode cX1_greatestPlace 25 = .ok (.aload_n 0, 1) := by decide +kernel
theorem dX1_greatestPlace_26 : decode cX1_greatestPlace 26 = .ok (.iload_n 1, 1) := by decide +kernel
theorem dX1_greatestPlace_27 : decode cX1_greatestPlace 27 = .ok (.iload 4, 2) := by decide +kernel
theorem dX1_greatestPlace_29 : decode cX1_greatestPlace 29 = .ok (.invokevirtual 55, 3) := by decide +kernel
theorem dX1_greatestPlace_32 : decode cX1_greatestPlace 32 = .ok (.invokestatic 92, 3) := by decide +kernel
theorem dX1_greatestPlace_35 : decode cX1_greatestPlace 35 = .ok (.istore_n 3, 1) := by decide +kernel
theorem dX1_greatestPlace_36 : decode cX1_greatestPlace 36 = .ok (.iinc 4 1, 3) := by decide +kernel
theorem dX1_greatestPlace_39 : decode cX1_greatestPlace 39 = .ok (.goto (-34), 3) := by decide +kernel
theorem dX1_greatestPlace_42 : decode cX1_greatestPlace 42 = .ok (.iload_n 3, 1) := by decide +kernel
theorem dX1_greatestPlace_43 : decode cX1_greatestPlace 43 = .ok (.ireturn, 1) := by decide +kernel
theorem dX1_sumOfPlaces_0 : decode cX1_sumOfPlaces 0 = .ok (.iconst 0, 1) := by decide +kernel
theorem dX1_sumOfPlaces_1 : decode cX1_sumOfPlaces 1 = .ok (.istore_n 3, 1) := by decide +kernel
theorem dX1_sumOfPlaces_2 : decode cX1_sumOfPlaces 2 = .ok (.iconst 0, 1) := by decide +kernel
theorem dX1_sumOfPlaces_3 : decode cX1_sumOfPlaces 3 = .ok (.istore 4, 2) := by decide +kernel
theorem dX1_sumOfPlaces_5 : decode cX1_sumOfPlaces 5 = .ok (.iload 4, 2) := by decide +kernel
theorem dX1_sumOfPlaces_7 : decode cX1_sumOfPlaces 7 = .ok (.aload_n 0, 1) := by decide +kernel
theorem dX1_sumOfPlaces_8 : decode cX1_sumOfPlaces 8 = .ok (.getfield 9, 3) := by decide +kernel
theorem dX1_sumOfPlaces_11 : decode cX1_sumOfPlaces 11 = .ok (.if_icmp .ge 29, 3) := by decide +kernel
theorem dX1_sumOfPlaces_14 : decode cX1_sumOfPlaces 14 = .ok (.iload_n 2, 1) := by decide +kernel
theorem dX1_sumOfPlaces_15 : decode cX1_sumOfPlaces 15 = .ok (.iload 4, 2) := by decide +kernel
theorem dX1_sumOfPlaces_17 : decode cX1_sumOfPlaces 17 = .ok (.ishr, 1) := by decide +kernel
theorem dX1_sumOfPlaces_18 : decode cX1_sumOfPlaces 18 = .ok (.iconst 1, 1) := by decide +kernel
theorem dX1_sumOfPlaces_19 : decode cX1_sumOfPlaces 19 = .ok (.iand, 1) := by decide +kernel
theorem dX1_sumOfPlaces_20 : decode cX1_sumOfPlaces 20 = .ok (.iconst 1, 1) := by decide +kernel
theorem dX1_sumOfPlaces_21 : decode cX1_sumOfPlaces 21 = .ok (.if_icmp .ne 13, 3) := by decide +kernel
theorem dX1_sumOfPlaces_24 : decode cX1_sumOfPlaces 24 = .ok (.iload_n 3, 1) := by decide +kernel
theorem dX1_sumOfPlaces_25 : decode cX1_sumOfPlaces 25 = .ok (.aload_n 0, 1) := by decide +kernel
theorem dX1_sumOfPlaces_26 : decode cX1_sumOfPlaces 26 = .ok (.iload_n 1, 1) := by decide +kernel
theorem dX1_sumOfPlaces_27 : decode cX1_sumOfPlaces 27 = .ok (.iload 4, 2) := by decide +kernel
theorem dX1_sumOfPlaces_29 : decode cX1_sumOfPlaces 29 = .ok (.invokevirtual 55, 3) := by decide +kernel
theorem dX1_sumOfPlaces_32 : decode cX1_sumOfPlaces 32 = .ok (.iadd, 1) := by decide +kernel
theorem dX1_sumOfPlaces_33 : decode cX1_sumOfPlaces 33 = .ok (.istore_n 3, 1) := by decide +kernel
theorem dX1_sumOfPlaces_34 : decode cX1_sumOfPlaces 34 = .ok (.iinc 4 1, 3) := by decide +kernel
theorem dX1_sumOfPlaces_37 : decode cX1_sumOfPlaces 37 = .ok (.goto (-32), 3) := by decide +kernel
theorem dX1_sumOfPlaces_40 : decode cX1_sumOfPlaces 40 = .ok (.iload_n 3, 1) := by decide +kernel
theorem dX1_sumOfPlaces_41 : decode cX1_sumOfPlaces 41 = .ok (.ireturn, 1) := by decide +kernel
theorem dX1_greatestGrumble_0 : decode cX1_greatestGrumble 0 = .ok (.iconst 0, 1) := by decide +kernel
theorem dX1_greatestGrumble_1 : decode cX1_greatestGrumble 1 = .ok (.istore_n 2, 1) := by decide +kernel
theorem dX1_greatestGrumble_2 : decode cX1_greatestGrumble 2 = .ok (.iconst 0, 1) := by decide +kernel
theorem dX1_greatestGrumble_3 : decode cX1_greatestGrumble 3 = .ok (.istore_n 3, 1) := by decide +kernel
theorem dX1_greatestGrumble_4 : decode cX1_greatestGrumble 4 = .ok (.iload_n 3, 1) := by decide +kernel
theorem dX1_greatestGrumble_5 : decode cX1_greatestGrumble 5 = .ok (.aload_n 0, 1) := by decide +kernel
theorem dX1_greatestGrumble_6 : decode cX1_greatestGrumble 6 = .ok (.getfield 15, 3) := by decide +kernel
theorem dX1_greatestGrumble_9 : decode cX1_greatestGrumble 9 = .ok (.if_icmp .ge 20, 3) := by decide +kernel
theorem dX1_greatestGrumble_12 : decode cX1_greatestGrumble 12 = .ok (.iload_n 2, 1) := by decide +kernel
theorem dX1_greatestGrumble_13 : decode cX1_greatestGrumble 13 = .ok (.aload_n 0, 1) := by decide +kernel
theorem dX1_greatestGrumble_14 : decode cX1_greatestGrumble 14 = .ok (.iload_n 3, 1) := by decide +kernel
theorem dX1_greatestGrumble_15 : decode cX1_greatestGrumble 15 = .ok (.iload_n 1, 1) := by decide +kernel
theorem dX1_greatestGrumble_16 : decode cX1_greatestGrumble 16 = .ok (.invokevirtual 55, 3) := by decide +kernel
theorem dX1_greatestGrumble_19 : decode cX1_greatestGrumble 19 = .ok (.invokestatic 92, 3) := by decide +kernel
theorem dX1_greatestGrumble_22 : decode cX1_greatestGrumble 22 = .ok (.istore_n 2, 1) := by decide +kernel
theorem dX1_greatestGrumble_23 : decode cX1_greatestGrumble 23 = .ok (.iinc 3 1, 3) := by decide +kernel
theorem dX1_greatestGrumble_26 : decode cX1_greatestGrumble 26 = .ok (.goto (-22), 3) := by decide +kernel
theorem dX1_greatestGrumble_29 : decode cX1_greatestGrumble 29 = .ok (.iload_n 2, 1) := by decide +kernel
theorem dX1_greatestGrumble_30 : decode cX1_greatestGrumble 30 = .ok (.ireturn, 1) := by decide +kernel
theorem dX1_wholeGrumble_0 : decode cX1_wholeGrumble 0 = .ok (.iconst 0, 1) := by decide +kernel
theorem dX1_wholeGrumble_1 : decode cX1_wholeGrumble 1 = .ok (.istore_n 2, 1) := by decide +kernel
theorem dX1_wholeGrumble_2 : decode cX1_wholeGrumble 2 = .ok (.iconst 0, 1) := by decide +kernel
theorem dX1_wholeGrumble_3 : decode cX1_wholeGrumble 3 = .ok (.istore_n 3, 1) := by decide +kernel
theorem dX1_wholeGrumble_4 : decode cX1_wholeGrumble 4 = .ok (.iload_n 3, 1) := by decide +kernel
theorem dX1_wholeGrumble_5 : decode cX1_wholeGrumble 5 = .ok (.aload_n 0, 1) := by decide +kernel
theorem dX1_wholeGrumble_6 : decode cX1_wholeGrumble 6 = .ok (.getfield 15, 3) := by decide +kernel
theorem dX1_wholeGrumble_9 : decode cX1_wholeGrumble 9 = .ok (.if_icmp .ge 25, 3) := by decide +kernel
theorem dX1_wholeGrumble_12 : decode cX1_wholeGrumble 12 = .ok (.iload_n 2, 1) := by decide +kernel
theorem dX1_wholeGrumble_13 : decode cX1_wholeGrumble 13 = .ok (.aload_n 0, 1) := by decide +kernel
theorem dX1_wholeGrumble_14 : decode cX1_wholeGrumble 14 = .ok (.iload_n 3, 1) := by decide +kernel
theorem dX1_wholeGrumble_15 : decode cX1_wholeGrumble 15 = .ok (.iload_n 1, 1) := by decide +kernel
theorem dX1_wholeGrumble_16 : decode cX1_wholeGrumble 16 = .ok (.invokevirtual 55, 3) := by decide +kernel
theorem dX1_wholeGrumble_19 : decode cX1_wholeGrumble 19 = .ok (.aload_n 0, 1) := by decide +kernel
theorem dX1_wholeGrumble_20 : decode cX1_wholeGrumble 20 = .ok (.getfield 36, 3) := by decide +kernel
theorem dX1_wholeGrumble_23 : decode cX1_wholeGrumble 23 = .ok (.iload_n 3, 1) := by decide +kernel
theorem dX1_wholeGrumble_24 : decode cX1_wholeGrumble 24 = .ok (.iaload, 1) := by decide +kernel
theorem dX1_wholeGrumble_25 : decode cX1_wholeGrumble 25 = .ok (.imul, 1) := by decide +kernel
theorem dX1_wholeGrumble_26 : decode cX1_wholeGrumble 26 = .ok (.iadd, 1) := by decide +kernel
theorem dX1_wholeGrumble_27 : decode cX1_wholeGrumble 27 = .ok (.istore_n 2, 1) := by decide +kernel
theorem dX1_wholeGrumble_28 : decode cX1_wholeGrumble 28 = .ok (.iinc 3 1, 3) := by decide +kernel
theorem dX1_wholeGrumble_31 : decode cX1_wholeGrumble 31 = .ok (.goto (-27), 3) := by decide +kernel
theorem dX1_wholeGrumble_34 : decode cX1_wholeGrumble 34 = .ok (.iload_n 2, 1) := by decide +kernel
theorem dX1_wholeGrumble_35 : decode cX1_wholeGrumble 35 = .ok (.ireturn, 1) := by decide +kernel
theorem dX1_headWeight_0 : decode cX1_headWeight 0 = .ok (.iconst 0, 1) := by decide +kernel
theorem dX1_headWeight_1 : decode cX1_headWeight 1 = .ok (.istore_n 2, 1) := by decide +kernel
theorem dX1_headWeight_2 : decode cX1_headWeight 2 = .ok (.iconst 0, 1) := by decide +kernel
theorem dX1_headWeight_3 : decode cX1_headWeight 3 = .ok (.istore_n 3, 1) := by decide +kernel
theorem dX1_headWeight_4 : decode cX1_headWeight 4 = .ok (.iload_n 3, 1) := by decide +kernel
theorem dX1_headWeight_5 : decode cX1_headWeight 5 = .ok (.aload_n 0, 1) := by decide +kernel
theorem dX1_headWeight_6 : decode cX1_headWeight 6 = .ok (.getfield 15, 3) := by decide +kernel
theorem dX1_headWeight_9 : decode cX1_headWeight 9 = .ok (.if_icmp .ge 39, 3) := by decide +kernel
theorem dX1_headWeight_12 : decode cX1_headWeight 12 = .ok (.aload_n 0, 1) := by decide +kernel
theorem dX1_headWeight_13 : decode cX1_headWeight 13 = .ok (.getfield 33, 3) := by decide +kernel
theorem dX1_headWeight_16 : decode cX1_headWeight 16 = .ok (.iload_n 3, 1) := by decide +kernel
theorem dX1_headWeight_17 : decode cX1_headWeight 17 = .ok (.ishr, 1) := by decide +kernel
theorem dX1_headWeight_18 : decode cX1_headWeight 18 = .ok (.iconst 1, 1) := by decide +kernel
theorem dX1_headWeight_19 : decode cX1_headWeight 19 = .ok (.iand, 1) := by decide +kernel
theorem dX1_headWeight_20 : decode cX1_headWeight 20 = .ok (.iconst 1, 1) := by decide +kernel
theorem dX1_headWeight_21 : decode cX1_headWeight 21 = .ok (.if_icmp .ne 21, 3) := by decide +kernel
theorem dX1_headWeight_24 : decode cX1_headWeight 24 = .ok (.aload_n 0, 1) := by decide +kernel
theorem dX1_headWeight_25 : decode cX1_headWeight 25 = .ok (.iload_n 3, 1) := by decide +kernel
theorem dX1_headWeight_26 : decode cX1_headWeight 26 = .ok (.iload_n 1, 1) := by decide +kernel
theorem dX1_headWeight_27 : decode cX1_headWeight 27 = .ok (.invokevirtual 55, 3) := by decide +kernel
theorem dX1_headWeight_30 : decode cX1_headWeight 30 = .ok (.ifCond .ne 12, 3) := by decide +kernel
theorem dX1_headWeight_33 : decode cX1_headWeight 33 = .ok (.iload_n 2, 1) := by decide +kernel
theorem dX1_headWeight_34 : decode cX1_headWeight 34 = .ok (.aload_n 0, 1) := by decide +kernel
theorem dX1_headWeight_35 : decode cX1_headWeight 35 = .ok (.getfield 36, 3) := by decide +kernel
theorem dX1_headWeight_38 : decode cX1_headWeight 38 = .ok (.iload_n 3, 1) := by decide +kernel
theorem dX1_headWeight_39 : decode cX1_headWeight 39 = .ok (.iaload, 1) := by decide +kernel
theorem dX1_headWeight_40 : decode cX1_headWeight 40 = .ok (.iadd, 1) := by decide +kernel
theorem dX1_headWeight_41 : decode cX1_headWeight 41 = .ok (.istore_n 2, 1) := by decide +kernel
theorem dX1_headWeight_42 : decode cX1_headWeight 42 = .ok (.iinc 3 1, 3) := by decide +kernel
theorem dX1_headWeight_45 : decode cX1_headWeight 45 = .ok (.goto (-41), 3) := by decide +kernel
theorem dX1_headWeight_48 : decode cX1_headWeight 48 = .ok (.iload_n 2, 1) := by decide +kernel
theorem dX1_headWeight_49 : decode cX1_headWeight 49 = .ok (.ireturn, 1) := by decide +kernel
theorem dX1_thingOfMostHeads_0 : decode cX1_thingOfMostHeads 0 = .ok (.iconst 0, 1) := by decide +kernel
theorem dX1_thingOfMostHeads_1 : decode cX1_thingOfMostHeads 1 = .ok (.istore_n 1, 1) := by decide +kernel
theorem dX1_thingOfMostHeads_2 : decode cX1_thingOfMostHeads 2 = .ok (.iconst 1, 1) := by decide +kernel
theorem dX1_thingOfMostHeads_3 : decode cX1_thingOfMostHeads 3 = .ok (.istore_n 2, 1) := by decide +kernel
theorem dX1_thingOfMostHeads_4 : decode cX1_thingOfMostHeads 4 = .ok (.iload_n 2, 1) := by decide +kernel
theorem dX1_thingOfMostHeads_5 : decode cX1_thingOfMostHeads 5 = .ok (.aload_n 0, 1) := by decide +kernel
theorem dX1_thingOfMostHeads_6 : decode cX1_thingOfMostHeads 6 = .ok (.getfield 9, 3) := by decide +kernel
theorem dX1_thingOfMostHeads_9 : decode cX1_thingOfMostHeads 9 = .ok (.if_icmp .ge 24, 3) := by decide +kernel
theorem dX1_thingOfMostHeads_12 : decode cX1_thingOfMostHeads 12 = .ok (.aload_n 0, 1) := by decide +kernel
theorem dX1_thingOfMostHeads_13 : decode cX1_thingOfMostHeads 13 = .ok (.iload_n 2, 1) := by decide +kernel
theorem dX1_thingOfMostHeads_14 : decode cX1_thingOfMostHeads 14 = .ok (.invokevirtual 95, 3) := by decide +kernel
theorem dX1_thingOfMostHeads_17 : decode cX1_thingOfMostHeads 17 = .ok (.aload_n 0, 1) := by decide +kernel
theorem dX1_thingOfMostHeads_18 : decode cX1_thingOfMostHeads 18 = .ok (.iload_n 1, 1) := by decide +kernel
theorem dX1_thingOfMostHeads_19 : decode cX1_thingOfMostHeads 19 = .ok (.invokevirtual 95, 3) := by decide +kernel
theorem dX1_thingOfMostHeads_22 : decode cX1_thingOfMostHeads 22 = .ok (.if_icmp .le 5, 3) := by decide +kernel
theorem dX1_thingOfMostHeads_25 : decode cX1_thingOfMostHeads 25 = .ok (.iload_n 2, 1) := by decide +kernel
theorem dX1_thingOfMostHeads_26 : decode cX1_thingOfMostHeads 26 = .ok (.istore_n 1, 1) := by decide +kernel
theorem dX1_thingOfMostHeads_27 : decode cX1_thingOfMostHeads 27 = .ok (.iinc 2 1, 3) := by decide +kernel
theorem dX1_thingOfMostHeads_30 : decode cX1_thingOfMostHeads 30 = .ok (.goto (-26), 3) := by decide +kernel
theorem dX1_thingOfMostHeads_33 : decode cX1_thingOfMostHeads 33 = .ok (.iload_n 1, 1) := by decide +kernel
theorem dX1_thingOfMostHeads_34 : decode cX1_thingOfMostHeads 34 = .ok (.ireturn, 1) := by decide +kernel
theorem dX1_putStrictOrder_0 : decode cX1_putStrictOrder 0 = .ok (.iconst 0, 1) := by decide +kernel
theorem dX1_putStrictOrder_1 : decode cX1_putStrictOrder 1 = .ok (.istore_n 3, 1) := by decide +kernel
theorem dX1_putStrictOrder_2 : decode cX1_putStrictOrder 2 = .ok (.iload_n 3, 1) := by decide +kernel
theorem dX1_putStrictOrder_3 : decode cX1_putStrictOrder 3 = .ok (.aload_n 0, 1) := by decide +kernel
theorem dX1_putStrictOrder_4 : decode cX1_putStrictOrder 4 = .ok (.getfield 9, 3) := by decide +kernel
theorem dX1_putStrictOrder_7 : decode cX1_putStrictOrder 7 = .ok (.if_icmp .ge 24, 3) := by decide +kernel
theorem dX1_putStrictOrder_10 : decode cX1_putStrictOrder 10 = .ok (.iload_n 3, 1) := by decide +kernel
theorem dX1_putStrictOrder_11 : decode cX1_putStrictOrder 11 = .ok (.aload_n 2, 1) := by decide +kernel
theorem dX1_putStrictOrder_12 : decode cX1_putStrictOrder 12 = .ok (.arraylength, 1) := by decide +kernel
theorem dX1_putStrictOrder_13 : decode cX1_putStrictOrder 13 = .ok (.if_icmp .ge 18, 3) := by decide +kernel
theorem dX1_putStrictOrder_16 : decode cX1_putStrictOrder 16 = .ok (.aload_n 0, 1) := by decide +kernel
theorem dX1_putStrictOrder_17 : decode cX1_putStrictOrder 17 = .ok (.iload_n 1, 1) := by decide +kernel
theorem dX1_putStrictOrder_18 : decode cX1_putStrictOrder 18 = .ok (.aload_n 2, 1) := by decide +kernel
theorem dX1_putStrictOrder_19 : decode cX1_putStrictOrder 19 = .ok (.iload_n 3, 1) := by decide +kernel
theorem dX1_putStrictOrder_20 : decode cX1_putStrictOrder 20 = .ok (.iaload, 1) := by decide +kernel
theorem dX1_putStrictOrder_21 : decode cX1_putStrictOrder 21 = .ok (.iload_n 3, 1) := by decide +kernel
theorem dX1_putStrictOrder_22 : decode cX1_putStrictOrder 22 = .ok (.invokevirtual 98, 3) := by decide +kernel
theorem dX1_putStrictOrder_25 : decode cX1_putStrictOrder 25 = .ok (.iinc 3 1, 3) := by decide +kernel
theorem dX1_putStrictOrder_28 : decode cX1_putStrictOrder 28 = .ok (.goto (-26), 3) := by decide +kernel
theorem dX1_putStrictOrder_31 : decode cX1_putStrictOrder 31 = .ok (.return_, 1) := by decide +kernel
theorem dX1_putCopy_0 : decode cX1_putCopy 0 = .ok (.iconst 0, 1) := by decide +kernel
theorem dX1_putCopy_1 : decode cX1_putCopy 1 = .ok (.istore_n 2, 1) := by decide +kernel
theorem dX1_putCopy_2 : decode cX1_putCopy 2 = .ok (.iload_n 2, 1) := by decide +kernel
theorem dX1_putCopy_3 : decode cX1_putCopy 3 = .ok (.aload_n 0, 1) := by decide +kernel
theorem dX1_putCopy_4 : decode cX1_putCopy 4 = .ok (.getfield 15, 3) := by decide +kernel
theorem dX1_putCopy_7 : decode cX1_putCopy 7 = .ok (.if_icmp .ge 82, 3) := by decide +kernel
theorem dX1_putCopy_10 : decode cX1_putCopy 10 = .ok (.aload_n 0, 1) := by decide +kernel
theorem dX1_putCopy_11 : decode cX1_putCopy 11 = .ok (.iload_n 2, 1) := by decide +kernel
theorem dX1_putCopy_12 : decode cX1_putCopy 12 = .ok (.iload_n 1, 1) := by decide +kernel
theorem dX1_putCopy_13 : decode cX1_putCopy 13 = .ok (.invokevirtual 55, 3) := by decide +kernel
theorem dX1_putCopy_16 : decode cX1_putCopy 16 = .ok (.istore_n 3, 1) := by decide +kernel
theorem dX1_putCopy_17 : decode cX1_putCopy 17 = .ok (.iload_n 3, 1) := by decide +kernel
theorem dX1_putCopy_18 : decode cX1_putCopy 18 = .ok (.aload_n 0, 1) := by decide +kernel
theorem dX1_putCopy_19 : decode cX1_putCopy 19 = .ok (.iload_n 2, 1) := by decide +kernel
theorem dX1_putCopy_20 : decode cX1_putCopy 20 = .ok (.iload_n 3, 1) := by decide +kernel
theorem dX1_putCopy_21 : decode cX1_putCopy 21 = .ok (.invokevirtual 102, 3) := by decide +kernel
theorem dX1_putCopy_24 : decode cX1_putCopy 24 = .ok (.iadd, 1) := by decide +kernel
theorem dX1_putCopy_25 : decode cX1_putCopy 25 = .ok (.istore 4, 2) := by decide +kernel
theorem dX1_putCopy_27 : decode cX1_putCopy 27 = .ok (.iconst 0, 1) := by decide +kernel
theorem dX1_putCopy_28 : decode cX1_putCopy 28 = .ok (.istore 5, 2) := by decide +kernel
theorem dX1_putCopy_30 : decode cX1_putCopy 30 = .ok (.iload 5, 2) := by decide +kernel
theorem dX1_putCopy_32 : decode cX1_putCopy 32 = .ok (.aload_n 0, 1) := by decide +kernel
theorem dX1_putCopy_33 : decode cX1_putCopy 33 = .ok (.getfield 9, 3) := by decide +kernel
theorem dX1_putCopy_36 : decode cX1_putCopy 36 = .ok (.if_icmp .ge 36, 3) := by decide +kernel
theorem dX1_putCopy_39 : decode cX1_putCopy 39 = .ok (.aload_n 0, 1) := by decide +kernel
theorem dX1_putCopy_40 : decode cX1_putCopy 40 = .ok (.iload_n 2, 1) := by decide +kernel
theorem dX1_putCopy_41 : decode cX1_putCopy 41 = .ok (.iload 5, 2) := by decide +kernel
theorem dX1_putCopy_43 : decode cX1_putCopy 43 = .ok (.invokevirtual 55, 3) := by decide +kernel
theorem dX1_putCopy_46 : decode cX1_putCopy 46 = .ok (.iload_n 3, 1) := by decide +kernel
theorem dX1_putCopy_47 : decode cX1_putCopy 47 = .ok (.if_icmp .le 19, 3) := by decide +kernel
theorem dX1_putCopy_50 : decode cX1_putCopy 50 = .ok (.aload_n 0, 1) := by decide +kernel
theorem dX1_putCopy_51 : decode cX1_putCopy 51 = .ok (.iload_n 2, 1) := by decide +kernel
theorem dX1_putCopy_52 : decode cX1_putCopy 52 = .ok (.iload 5, 2) := by decide +kernel
theorem dX1_putCopy_54 : decode cX1_putCopy 54 = .ok (.aload_n 0, 1) := by decide +kernel
theorem dX1_putCopy_55 : decode cX1_putCopy 55 = .ok (.iload_n 2, 1) := by decide +kernel
theorem dX1_putCopy_56 : decode cX1_putCopy 56 = .ok (.iload 5, 2) := by decide +kernel
theorem dX1_putCopy_58 : decode cX1_putCopy 58 = .ok (.invokevirtual 55, 3) := by decide +kernel
theorem dX1_putCopy_61 : decode cX1_putCopy 61 = .ok (.iconst 1, 1) := by decide +kernel
theorem dX1_putCopy_62 : decode cX1_putCopy 62 = .ok (.iadd, 1) := by decide +kernel
theorem dX1_putCopy_63 : decode cX1_putCopy 63 = .ok (.invokevirtual 98, 3) := by decide +kernel
theorem dX1_putCopy_66 : decode cX1_putCopy 66 = .ok (.iinc 5 1, 3) := by decide +kernel
theorem dX1_putCopy_69 : decode cX1_putCopy 69 = .ok (.goto (-39), 3) := by decide +kernel
theorem dX1_putCopy_72 : decode cX1_putCopy 72 = .ok (.aload_n 0, 1) := by decide +kernel
theorem dX1_putCopy_73 : decode cX1_putCopy 73 = .ok (.iload_n 2, 1) := by decide +kernel
theorem dX1_putCopy_74 : decode cX1_putCopy 74 = .ok (.aload_n 0, 1) := by decide +kernel
theorem dX1_putCopy_75 : decode cX1_putCopy 75 = .ok (.getfield 9, 3) := by decide +kernel
theorem dX1_putCopy_78 : decode cX1_putCopy 78 = .ok (.iload 4, 2) := by decide +kernel
theorem dX1_putCopy_80 : decode cX1_putCopy 80 = .ok (.invokevirtual 98, 3) := by decide +kernel
theorem dX1_putCopy_83 : decode cX1_putCopy 83 = .ok (.iinc 2 1, 3) := by decide +kernel
theorem dX1_putCopy_86 : decode cX1_putCopy 86 = .ok (.goto (-84), 3) := by decide +kernel
theorem dX1_putCopy_89 : decode cX1_putCopy 89 = .ok (.aload_n 0, 1) := by decide +kernel
theorem dX1_putCopy_90 : decode cX1_putCopy 90 = .ok (.dup, 1) := by decide +kernel
theorem dX1_putCopy_91 : decode cX1_putCopy 91 = .ok (.getfield 9, 3) := by decide +kernel
theorem dX1_putCopy_94 : decode cX1_putCopy 94 = .ok (.iconst 1, 1) := by decide +kernel
theorem dX1_putCopy_95 : decode cX1_putCopy 95 = .ok (.iadd, 1) := by decide +kernel
theorem dX1_putCopy_96 : decode cX1_putCopy 96 = .ok (.putfield 9, 3) := by decide +kernel
theorem dX1_putCopy_99 : decode cX1_putCopy 99 = .ok (.return_, 1) := by decide +kernel
theorem dX1_dropPerson_0 : decode cX1_dropPerson 0 = .ok (.aload_n 0, 1) := by decide +kernel
theorem dX1_dropPerson_1 : decode cX1_dropPerson 1 = .ok (.dup, 1) := by decide +kernel
theorem dX1_dropPerson_2 : decode cX1_dropPerson 2 = .ok (.getfield 18, 3) := by decide +kernel
theorem dX1_dropPerson_5 : decode cX1_dropPerson 5 = .ok (.aload_n 0, 1) := by decide +kernel
theorem dX1_dropPerson_6 : decode cX1_dropPerson 6 = .ok (.getfield 36, 3) := by decide +kernel
theorem dX1_dropPerson_9 : decode cX1_dropPerson 9 = .ok (.iload_n 1, 1) := by decide +kernel
theorem dX1_dropPerson_10 : decode cX1_dropPerson 10 = .ok (.iaload, 1) := by decide +kernel
theorem dX1_dropPerson_11 : decode cX1_dropPerson 11 = .ok (.isub, 1) := by decide +kernel
theorem dX1_dropPerson_12 : decode cX1_dropPerson 12 = .ok (.putfield 18, 3) := by decide +kernel
theorem dX1_dropPerson_15 : decode cX1_dropPerson 15 = .ok (.aload_n 0, 1) := by decide +kernel
theorem dX1_dropPerson_16 : decode cX1_dropPerson 16 = .ok (.dup, 1) := by decide +kernel
theorem dX1_dropPerson_17 : decode cX1_dropPerson 17 = .ok (.getfield 15, 3) := by decide +kernel
theorem dX1_dropPerson_20 : decode cX1_dropPerson 20 = .ok (.iconst 1, 1) := by decide +kernel
theorem dX1_dropPerson_21 : decode cX1_dropPerson 21 = .ok (.isub, 1) := by decide +kernel
theorem dX1_dropPerson_22 : decode cX1_dropPerson 22 = .ok (.putfield 15, 3) := by decide +kernel
theorem dX1_dropPerson_25 : decode cX1_dropPerson 25 = .ok (.iload_n 1, 1) := by decide +kernel
theorem dX1_dropPerson_26 : decode cX1_dropPerson 26 = .ok (.istore_n 2, 1) := by decide +kernel
theorem dX1_dropPerson_27 : decode cX1_dropPerson 27 = .ok (.iload_n 2, 1) := by decide +kernel
theorem dX1_dropPerson_28 : decode cX1_dropPerson 28 = .ok (.aload_n 0, 1) := by decide +kernel
theorem dX1_dropPerson_29 : decode cX1_dropPerson 29 = .ok (.getfield 15, 3) := by decide +kernel
theorem dX1_dropPerson_32 : decode cX1_dropPerson 32 = .ok (.if_icmp .ge 53, 3) := by decide +kernel
theorem dX1_dropPerson_35 : decode cX1_dropPerson 35 = .ok (.aload_n 0, 1) := by decide +kernel
theorem dX1_dropPerson_36 : decode cX1_dropPerson 36 = .ok (.getfield 36, 3) := by decide +kernel
theorem dX1_dropPerson_39 : decode cX1_dropPerson 39 = .ok (.iload_n 2, 1) := by decide +kernel
theorem dX1_dropPerson_40 : decode cX1_dropPerson 40 = .ok (.aload_n 0, 1) := by decide +kernel
theorem dX1_dropPerson_41 : decode cX1_dropPerson 41 = .ok (.getfield 36, 3) := by decide +kernel
theorem dX1_dropPerson_44 : decode cX1_dropPerson 44 = .ok (.iload_n 2, 1) := by decide +kernel
theorem dX1_dropPerson_45 : decode cX1_dropPerson 45 = .ok (.iconst 1, 1) := by decide +kernel
theorem dX1_dropPerson_46 : decode cX1_dropPerson 46 = .ok (.iadd, 1) := by decide +kernel
theorem dX1_dropPerson_47 : decode cX1_dropPerson 47 = .ok (.iaload, 1) := by decide +kernel
theorem dX1_dropPerson_48 : decode cX1_dropPerson 48 = .ok (.iastore, 1) := by decide +kernel
theorem dX1_dropPerson_49 : decode cX1_dropPerson 49 = .ok (.iconst 0, 1) := by decide +kernel
theorem dX1_dropPerson_50 : decode cX1_dropPerson 50 = .ok (.istore_n 3, 1) := by decide +kernel
theorem dX1_dropPerson_51 : decode cX1_dropPerson 51 = .ok (.iload_n 3, 1) := by decide +kernel
theorem dX1_dropPerson_52 : decode cX1_dropPerson 52 = .ok (.aload_n 0, 1) := by decide +kernel
theorem dX1_dropPerson_53 : decode cX1_dropPerson 53 = .ok (.getfield 9, 3) := by decide +kernel
theorem dX1_dropPerson_56 : decode cX1_dropPerson 56 = .ok (.if_icmp .ge 23, 3) := by decide +kernel
theorem dX1_dropPerson_59 : decode cX1_dropPerson 59 = .ok (.aload_n 0, 1) := by decide +kernel
theorem dX1_dropPerson_60 : decode cX1_dropPerson 60 = .ok (.iload_n 2, 1) := by decide +kernel
theorem dX1_dropPerson_61 : decode cX1_dropPerson 61 = .ok (.iload_n 3, 1) := by decide +kernel
theorem dX1_dropPerson_62 : decode cX1_dropPerson 62 = .ok (.aload_n 0, 1) := by decide +kernel
theorem dX1_dropPerson_63 : decode cX1_dropPerson 63 = .ok (.iload_n 2, 1) := by decide +kernel
theorem dX1_dropPerson_64 : decode cX1_dropPerson 64 = .ok (.iconst 1, 1) := by decide +kernel
theorem dX1_dropPerson_65 : decode cX1_dropPerson 65 = .ok (.iadd, 1) := by decide +kernel
theorem dX1_dropPerson_66 : decode cX1_dropPerson 66 = .ok (.iload_n 3, 1) := by decide +kernel
theorem dX1_dropPerson_67 : decode cX1_dropPerson 67 = .ok (.invokevirtual 55, 3) := by decide +kernel
theorem dX1_dropPerson_70 : decode cX1_dropPerson 70 = .ok (.invokevirtual 98, 3) := by decide +kernel
theorem dX1_dropPerson_73 : decode cX1_dropPerson 73 = .ok (.iinc 3 1, 3) := by decide +kernel
theorem dX1_dropPerson_76 : decode cX1_dropPerson 76 = .ok (.goto (-25), 3) := by decide +kernel
theorem dX1_dropPerson_79 : decode cX1_dropPerson 79 = .ok (.iinc 2 1, 3) := by decide +kernel
theorem dX1_dropPerson_82 : decode cX1_dropPerson 82 = .ok (.goto (-55), 3) := by decide +kernel
theorem dX1_dropPerson_85 : decode cX1_dropPerson 85 = .ok (.return_, 1) := by decide +kernel
theorem dX2_init_0 : decode cX2_init 0 = .ok (.aload_n 0, 1) := by decide +kernel
theorem dX2_init_1 : decode cX2_init 1 = .ok (.invokespecial 3, 3) := by decide +kernel
theorem dX2_init_4 : decode cX2_init 4 = .ok (.aload_n 0, 1) := by decide +kernel
theorem dX2_init_5 : decode cX2_init 5 = .ok (.sipush 240, 3) := by decide +kernel
theorem dX2_init_8 : decode cX2_init 8 = .ok (.newarray .int, 2) := by decide +kernel
theorem dX2_init_10 : decode cX2_init 10 = .ok (.putfield 9, 3) := by decide +kernel
theorem dX2_init_13 : decode cX2_init 13 = .ok (.aload_n 0, 1) := by decide +kernel
theorem dX2_init_14 : decode cX2_init 14 = .ok (.bipush 8, 2) := by decide +kernel
theorem dX2_init_16 : decode cX2_init 16 = .ok (.newarray .int, 2) := by decide +kernel
theorem dX2_init_18 : decode cX2_init 18 = .ok (.putfield 15, 3) := by decide +kernel
theorem dX2_init_21 : decode cX2_init 21 = .ok (.aload_n 0, 1) := by decide +kernel
theorem dX2_init_22 : decode cX2_init 22 = .ok (.bipush 8, 2) := by decide +kernel
theorem dX2_init_24 : decode cX2_init 24 = .ok (.newarray .int, 2) := by decide +kernel
theorem dX2_init_26 : decode cX2_init 26 = .ok (.putfield 18, 3) := by decide +kernel
theorem dX2_init_29 : decode cX2_init 29 = .ok (.aload_n 0, 1) := by decide +kernel
theorem dX2_init_30 : decode cX2_init 30 = .ok (.bipush 9, 2) := by decide +kernel
theorem dX2_init_32 : decode cX2_init 32 = .ok (.newarray .int, 2) := by decide +kernel
theorem dX2_init_34 : decode cX2_init 34 = .ok (.putfield 21, 3) := by decide +kernel
theorem dX2_init_37 : decode cX2_init 37 = .ok (.aload_n 0, 1) := by decide +kernel
theorem dX2_init_38 : decode cX2_init 38 = .ok (.iconst 0, 1) := by decide +kernel
theorem dX2_init_39 : decode cX2_init 39 = .ok (.putfield 24, 3) := by decide +kernel
theorem dX2_init_42 : decode cX2_init 42 = .ok (.aload_n 0, 1) := by decide +kernel
theorem dX2_init_43 : decode cX2_init 43 = .ok (.iconst 0, 1) := by decide +kernel
theorem dX2_init_44 : decode cX2_init 44 = .ok (.putfield 28, 3) := by decide +kernel
theorem dX2_init_47 : decode cX2_init 47 = .ok (.aload_n 0, 1) := by decide +kernel
theorem dX2_init_48 : decode cX2_init 48 = .ok (.iconst 0, 1) := by decide +kernel
theorem dX2_init_49 : decode cX2_init 49 = .ok (.putfield 32, 3) := by decide +kernel
theorem dX2_init_52 : decode cX2_init 52 = .ok (.aload_n 0, 1) := by decide +kernel
theorem dX2_init_53 : decode cX2_init 53 = .ok (.iconst 0, 1) := by decide +kernel
theorem dX2_init_54 : decode cX2_init 54 = .ok (.putfield 35, 3) := by decide +kernel
theorem dX2_init_57 : decode cX2_init 57 = .ok (.return_, 1) := by decide +kernel
theorem dX2_forget_0 : decode cX2_forget 0 = .ok (.aload_n 0, 1) := by decide +kernel
theorem dX2_forget_1 : decode cX2_forget 1 = .ok (.iconst 0, 1) := by decide +kernel
theorem dX2_forget_2 : decode cX2_forget 2 = .ok (.putfield 24, 3) := by decide +kernel
theorem dX2_forget_5 : decode cX2_forget 5 = .ok (.return_, 1) := by decide +kernel
theorem dX2_spent_0 : decode cX2_spent 0 = .ok (.aload_n 0, 1) := by decide +kernel
theorem dX2_spent_1 : decode cX2_spent 1 = .ok (.getfield 28, 3) := by decide +kernel
theorem dX2_spent_4 : decode cX2_spent 4 = .ok (.sipush 240, 3) := by decide +kernel
theorem dX2_spent_7 : decode cX2_spent 7 = .ok (.if_icmp .le 7, 3) := by decide +kernel
theorem dX2_spent_10 : decode cX2_spent 10 = .ok (.iconst 1, 1) := by decide +kernel
theorem dX2_spent_11 : decode cX2_spent 11 = .ok (.goto 4, 3) := by decide +kernel
theorem dX2_spent_14 : decode cX2_spent 14 = .ok (.iconst 0, 1) := by decide +kernel
theorem dX2_spent_15 : decode cX2_spent 15 = .ok (.ireturn, 1) := by decide +kernel
theorem dX2_learn_0 : decode cX2_learn 0 = .ok (.aload_n 0, 1) := by decide +kernel
theorem dX2_learn_1 : decode cX2_learn 1 = .ok (.getfield 24, 3) := by decide +kernel
theorem dX2_learn_4 : decode cX2_learn 4 = .ok (.ifCond .eq 4, 3) := by decide +kernel
theorem dX2_learn_7 : decode cX2_learn 7 = .ok (.return_, 1) := by decide +kernel
theorem dX2_learn_8 : decode cX2_learn 8 = .ok (.aload_n 0, 1) := by decide +kernel
theorem dX2_learn_9 : decode cX2_learn 9 = .ok (.iconst 1, 1) := by decide +kernel
theorem dX2_learn_10 : decode cX2_learn 10 = .ok (.putfield 24, 3) := by decide +kernel
theorem dX2_learn_13 : decode cX2_learn 13 = .ok (.aload_n 0, 1) := by decide +kernel
theorem dX2_learn_14 : decode cX2_learn 14 = .ok (.aload_n 1, 1) := by decide +kernel
theorem dX2_learn_15 : decode cX2_learn 15 = .ok (.invokevirtual 38, 3) := by decide +kernel
theorem dX2_learn_18 : decode cX2_learn 18 = .ok (.aload_n 0, 1) := by decide +kernel
theorem dX2_learn_19 : decode cX2_learn 19 = .ok (.invokevirtual 42, 3) := by decide +kernel
theorem dX2_learn_22 : decode cX2_learn 22 = .ok (.ifCond .eq 4, 3) := by decide +kernel
theorem dX2_learn_25 : decode cX2_learn 25 = .ok (.return_, 1) := by decide +kernel
theorem dX2_learn_26 : decode cX2_learn 26 = .ok (.aload_n 2, 1) := by decide +kernel
theorem dX2_learn_27 : decode cX2_learn 27 = .ok (.aload_n 1, 1) := by decide +kernel
theorem dX2_learn_28 : decode cX2_learn 28 = .ok (.invokevirtual 46, 3) := by decide +kernel
theorem dX2_learn_31 : decode cX2_learn 31 = .ok (.aload_n 3, 1) := by decide +kernel
theorem dX2_learn_32 : decode cX2_learn 32 = .ok (.aload_n 1, 1) := by decide +kernel
theorem dX2_learn_33 : decode cX2_learn 33 = .ok (.invokevirtual 51, 3) := by decide +kernel
theorem dX2_learn_36 : decode cX2_learn 36 = .ok (.aload_n 0, 1) := by decide +kernel
theorem dX2_learn_37 : decode cX2_learn 37 = .ok (.aload_n 1, 1) := by decide +kernel
theorem dX2_learn_38 : decode cX2_learn 38 = .ok (.invokevirtual 56, 3) := by decide +kernel
theorem dX2_learn_41 : decode cX2_learn 41 = .ok (.putfield 32, 3) := by decide +kernel
theorem dX2_learn_44 : decode cX2_learn 44 = .ok (.aload_n 0, 1) := by decide +kernel
theorem dX2_learn_45 : decode cX2_learn 45 = .ok (.iconst 0, 1) := by decide +kernel
theorem dX2_learn_46 : decode cX2_learn 46 = .ok (.putfield 35, 3) := by decide +kernel
theorem dX2_learn_49 : decode cX2_learn 49 = .ok (.iconst 0, 1) := by decide +kernel
theorem dX2_learn_50 : decode cX2_learn 50 = .ok (.istore 4, 2) := by decide +kernel
theorem dX2_learn_52 : decode cX2_learn 52 = .ok (.iload 4, 2) := by decide +kernel
theorem dX2_learn_54 : decode cX2_learn 54 = .ok (.aload_n 0, 1) := by decide +kernel
theorem dX2_learn_55 : decode cX2_learn 55 = .ok (.getfield 28, 3) := by decide +kernel
theorem dX2_learn_58 : decode cX2_learn 58 = .ok (.if_icmp .ge 95, 3) := by decide +kernel
theorem dX2_learn_61 : decode cX2_learn 61 = .ok (.iload 4, 2) := by decide +kernel
theorem dX2_learn_63 : decode cX2_learn 63 = .ok (.sipush 240, 3) := by decide +kernel
theorem dX2_learn_66 : decode cX2_learn 66 = .ok (.if_icmp .ge 87, 3) := by decide +kernel
theorem dX2_learn_69 : decode cX2_learn 69 = .ok (.iconst 0, 1) := by decide +kernel
theorem dX2_learn_70 : decode cX2_learn 70 = .ok (.istore 5, 2) := by decide +kernel
theorem dX2_learn_72 : decode cX2_learn 72 = .ok (.iload 5, 2) := by decide +kernel
theorem dX2_learn_74 : decode cX2_learn 74 = .ok (.aload_n 1, 1) := by decide +kernel
theorem dX2_learn_75 : decode cX2_learn 75 = .ok (.getfield 60, 3) := by decide +kernel
theorem dX2_learn_78 : decode cX2_learn 78 = .ok (.if_icmp .ge 25, 3) := by decide +kernel
theorem dX2_learn_81 : decode cX2_learn 81 = .ok (.aload_n 0, 1) := by decide +kernel
theorem dX2_learn_82 : decode cX2_learn 82 = .ok (.aload_n 1, 1) := by decide +kernel
theorem dX2_learn_83 : decode cX2_learn 83 = .ok (.aload_n 2, 1) := by decide +kernel
theorem dX2_learn_84 : decode cX2_learn 84 = .ok (.iload 5, 2) := by decide +kernel
theorem dX2_learn_86 : decode cX2_learn 86 = .ok (.aload_n 0, 1) := by decide +kernel
theorem dX2_learn_87 : decode cX2_learn 87 = .ok (.iload 4, 2) := by decide +kernel
theorem dX2_learn_89 : decode cX2_learn 89 = .ok (.iload 5, 2) := by decide +kernel
theorem dX2_learn_91 : decode cX2_learn 91 = .ok (.invokevirtual 63, 3) := by decide +kernel
theorem dX2_learn_94 : decode cX2_learn 94 = .ok (.invokevirtual 67, 3) := by decide +kernel
theorem dX2_learn_97 : decode cX2_learn 97 = .ok (.iinc 5 1, 3) := by decide +kernel
theorem dX2_learn_100 : decode cX2_learn 100 = .ok (.goto (-28), 3) := by decide +kernel
theorem dX2_learn_103 : decode cX2_learn 103 = .ok (.aload_n 0, 1) := by decide +kernel
theorem dX2_learn_104 : decode cX2_learn 104 = .ok (.getfield 9, 3) := by decide +kernel
theorem dX2_learn_107 : decode cX2_learn 107 = .ok (.iload 4, 2) := by decide +kernel
theorem dX2_learn_109 : decode cX2_learn 109 = .ok (.aload_n 3, 1) := by decide +kernel
theorem dX2_learn_110 : decode cX2_learn 110 = .ok (.aload_n 2, 1) := by decide +kernel
theorem dX2_learn_111 : decode cX2_learn 111 = .ok (.invokevirtual 71, 3) := by decide +kernel
theorem dX2_learn_114 : decode cX2_learn 114 = .ok (.iastore, 1) := by decide +kernel
theorem dX2_learn_115 : decode cX2_learn 115 = .ok (.aload_n 0, 1) := by decide +kernel
theorem dX2_learn_116 : decode cX2_learn 116 = .ok (.dup, 1) := by decide +kernel
theorem dX2_learn_117 : decode cX2_learn 117 = .ok (.getfield 32, 3) := by decide +kernel
theorem dX2_learn_120 : decode cX2_learn 120 = .ok (.aload_n 0, 1) := by decide +kernel
theorem dX2_learn_121 : decode cX2_learn 121 = .ok (.getfield 9, 3) := by decide +kernel
theorem dX2_learn_124 : decode cX2_learn 124 = .ok (.iload 4, 2) := by decide +kernel
theorem dX2_learn_126 : decode cX2_learn 126 = .ok (.iaload, 1) := by decide +kernel
theorem dX2_learn_127 : decode cX2_learn 127 = .ok (.iand, 1) := by decide +kernel
theorem dX2_learn_128 : decode cX2_learn 128 = .ok (.putfield 32, 3) := by decide +kernel
theorem dX2_learn_131 : decode cX2_learn 131 = .ok (.aload_n 0, 1) := by decide +kernel
theorem dX2_learn_132 : decode cX2_learn 132 = .ok (.dup, 1) := by decide +kernel
theorem dX2_learn_133 : decode cX2_learn 133 = .ok (.getfield 35, 3) := by decide +kernel
theorem dX2_learn_136 : decode cX2_learn 136 = .ok (.aload_n 0, 1) := by decide +kernel
theorem dX2_learn_137 : decode cX2_learn 137 = .ok (.getfield 9, 3) := by decide +kernel
theorem dX2_learn_140 : decode cX2_learn 140 = .ok (.iload 4, 2) := by decide +kernel
theorem dX2_learn_142 : decode cX2_learn 142 = .ok (.iaload, 1) := by decide +kernel
theorem dX2_learn_143 : decode cX2_learn 143 = .ok (.ior, 1) := by decide +kernel
theorem dX2_learn_144 : decode cX2_learn 144 = .ok (.putfield 35, 3) := by decide +kernel
theorem dX2_learn_147 : decode cX2_learn 147 = .ok (.iinc 4 1, 3) := by decide +kernel
theorem dX2_learn_150 : decode cX2_learn 150 = .ok (.goto (-98), 3) := by decide +kernel
theorem dX2_learn_153 : decode cX2_learn 153 = .ok (.return_, 1) := by decide +kernel
theorem dX2_countWays_0 : decode cX2_countWays 0 = .ok (.aload_n 0, 1) := by decide +kernel
theorem dX2_countWays_1 : decode cX2_countWays 1 = .ok (.iconst 1, 1) := by decide +kernel
theorem dX2_countWays_2 : decode cX2_countWays 2 = .ok (.putfield 28, 3) := by decide +kernel
theorem dX2_countWays_5 : decode cX2_countWays 5 = .ok (.iconst 0, 1) := by decide +kernel
theorem dX2_countWays_6 : decode cX2_countWays 6 = .ok (.istore_n 2, 1) := by decide +kernel
theorem dX2_countWays_7 : decode cX2_countWays 7 = .ok (.iload_n 2, 1) := by decide +kernel
theorem dX2_countWays_8 : decode cX2_countWays 8 = .ok (.aload_n 1, 1) := by decide +kernel
theorem dX2_countWays_9 : decode cX2_countWays 9 = .ok (.getfield 60, 3) := by decide +kernel
theorem dX2_countWays_12 : decode cX2_countWays 12 = .ok (.if_icmp .ge 51, 3) := by decide +kernel
theorem dX2_countWays_15 : decode cX2_countWays 15 = .ok (.aload_n 0, 1) := by decide +kernel
theorem dX2_countWays_16 : decode cX2_countWays 16 = .ok (.getfield 18, 3) := by decide +kernel
theorem dX2_countWays_19 : decode cX2_countWays 19 = .ok (.iload_n 2, 1) := by decide +kernel
theorem dX2_countWays_20 : decode cX2_countWays 20 = .ok (.aload_n 0, 1) := by decide +kernel
theorem dX2_countWays_21 : decode cX2_countWays 21 = .ok (.getfield 28, 3) := by decide +kernel
theorem dX2_countWays_24 : decode cX2_countWays 24 = .ok (.iastore, 1) := by decide +kernel
theorem dX2_countWays_25 : decode cX2_countWays 25 = .ok (.aload_n 0, 1) := by decide +kernel
theorem dX2_countWays_26 : decode cX2_countWays 26 = .ok (.getfield 15, 3) := by decide +kernel
theorem dX2_countWays_29 : decode cX2_countWays 29 = .ok (.iload_n 2, 1) := by decide +kernel
theorem dX2_countWays_30 : decode cX2_countWays 30 = .ok (.aload_n 1, 1) := by decide +kernel
theorem dX2_countWays_31 : decode cX2_countWays 31 = .ok (.iload_n 2, 1) := by decide +kernel
theorem dX2_countWays_32 : decode cX2_countWays 32 = .ok (.invokestatic 75, 3) := by decide +kernel
theorem dX2_countWays_35 : decode cX2_countWays 35 = .ok (.iastore, 1) := by decide +kernel
theorem dX2_countWays_36 : decode cX2_countWays 36 = .ok (.aload_n 0, 1) := by decide +kernel
theorem dX2_countWays_37 : decode cX2_countWays 37 = .ok (.aload_n 0, 1) := by decide +kernel
theorem dX2_countWays_38 : decode cX2_countWays 38 = .ok (.getfield 28, 3) := by decide +kernel
theorem dX2_countWays_41 : decode cX2_countWays 41 = .ok (.aload_n 0, 1) := by decide +kernel
theorem dX2_countWays_42 : decode cX2_countWays 42 = .ok (.getfield 15, 3) := by decide +kernel
theorem dX2_countWays_45 : decode cX2_countWays 45 = .ok (.iload_n 2, 1) := by decide +kernel
theorem dX2_countWays_46 : decode cX2_countWays 46 = .ok (.iaload, 1) := by decide +kernel
theorem dX2_countWays_47 : decode cX2_countWays 47 = .ok (.imul, 1) := by decide +kernel
theorem dX2_countWays_48 : decode cX2_countWays 48 = .ok (.sipush 241, 3) := by decide +kernel
theorem dX2_countWays_51 : decode cX2_countWays 51 = .ok (.invokestatic 79, 3) := by decide +kernel
theorem dX2_countWays_54 : decode cX2_countWays 54 = .ok (.putfield 28, 3) := by decide +kernel
theorem dX2_countWays_57 : decode cX2_countWays 57 = .ok (.iinc 2 1, 3) := by decide +kernel
theorem dX2_countWays_60 : decode cX2_countWays 60 = .ok (.goto (-53), 3) := by decide +kernel
theorem dX2_countWays_63 : decode cX2_countWays 63 = .ok (.return_, 1) := by decide +kernel
theorem dX2_ordersOf_0 : decode cX2_ordersOf 0 = .ok (.iconst 1, 1) := by decide +kernel
theorem dX2_ordersOf_1 : decode cX2_ordersOf 1 = .ok (.istore_n 2, 1) := by decide +kernel
theorem dX2_ordersOf_2 : decode cX2_ordersOf 2 = .ok (.iconst 0, 1) := by decide +kernel
theorem dX2_ordersOf_3 : decode cX2_ordersOf 3 = .ok (.istore_n 3, 1) := by decide +kernel
theorem dX2_ordersOf_4 : decode cX2_ordersOf 4 = .ok (.iload_n 3, 1) := by decide +kernel
theorem dX2_ordersOf_5 : decode cX2_ordersOf 5 = .ok (.aload_n 0, 1) := by decide +kernel
theorem dX2_ordersOf_6 : decode cX2_ordersOf 6 = .ok (.getfield 84, 3) := by decide +kernel
theorem dX2_ordersOf_9 : decode cX2_ordersOf 9 = .ok (.if_icmp .ge 27, 3) := by decide +kernel
theorem dX2_ordersOf_12 : decode cX2_ordersOf 12 = .ok (.iload_n 2, 1) := by decide +kernel
theorem dX2_ordersOf_13 : decode cX2_ordersOf 13 = .ok (.aload_n 0, 1) := by decide +kernel
theorem dX2_ordersOf_14 : decode cX2_ordersOf 14 = .ok (.iload_n 1, 1) := by decide +kernel
theorem dX2_ordersOf_15 : decode cX2_ordersOf 15 = .ok (.iload_n 3, 1) := by decide +kernel
theorem dX2_ordersOf_16 : decode cX2_ordersOf 16 = .ok (.invokevirtual 87, 3) := by decide +kernel
theorem dX2_ordersOf_19 : decode cX2_ordersOf 19 = .ok (.invokestatic 90, 3) := by decide +kernel
theorem dX2_ordersOf_22 : decode cX2_ordersOf 22 = .ok (.imul, 1) := by decide +kernel
theorem dX2_ordersOf_23 : decode cX2_ordersOf 23 = .ok (.sipush 241, 3) := by decide +kernel
theorem dX2_ordersOf_26 : decode cX2_ordersOf 26 = .ok (.invokestatic 79, 3) := by decide +kernel
theorem dX2_ordersOf_29 : decode cX2_ordersOf 29 = .ok (.istore_n 2, 1) := by decide +kernel
theorem dX2_ordersOf_30 : decode cX2_ordersOf 30 = .ok (.iinc 3 1, 3) := by decide +kernel
theorem dX2_ordersOf_33 : decode cX2_ordersOf 33 = .ok (.goto (-29), 3) := by decide +kernel
theorem dX2_ordersOf_36 : decode cX2_ordersOf 36 = .ok (.iload_n 2, 1) := by decide +kernel
theorem dX2_ordersOf_37 : decode cX2_ordersOf 37 = .ok (.ireturn, 1) := by decide +kernel
theorem dX2_orderIn_0 : decode cX2_orderIn 0 = .ok (.iload_n 1, 1) := by decide +kernel
theorem dX2_orderIn_1 : decode cX2_orderIn 1 = .ok (.iconst 1, 1) := by decide +kernel
theorem dX2_orderIn_2 : decode cX2_orderIn 2 = .ok (.aload_n 0, 1) := by decide +kernel
theorem dX2_orderIn_3 : decode cX2_orderIn 3 = .ok (.getfield 18, 3) := by decide +kernel
theorem dX2_orderIn_6 : decode cX2_orderIn 6 = .ok (.iload_n 2, 1) := by decide +kernel
theorem dX2_orderIn_7 : decode cX2_orderIn 7 = .ok (.iaload, 1) := by decide +kernel
theorem dX2_orderIn_8 : decode cX2_orderIn 8 = .ok (.invokestatic 94, 3) := by decide +kernel
theorem dX2_orderIn_11 : decode cX2_orderIn 11 = .ok (.idiv, 1) := by decide +kernel
theorem dX2_orderIn_12 : decode cX2_orderIn 12 = .ok (.iconst 1, 1) := by decide +kernel
theorem dX2_orderIn_13 : decode cX2_orderIn 13 = .ok (.aload_n 0, 1) := by decide +kernel
theorem dX2_orderIn_14 : decode cX2_orderIn 14 = .ok (.getfield 15, 3) := by decide +kernel
theorem dX2_orderIn_17 : decode cX2_orderIn 17 = .ok (.iload_n 2, 1) := by decide +kernel
theorem dX2_orderIn_18 : decode cX2_orderIn 18 = .ok (.iaload, 1) := by decide +kernel
theorem dX2_orderIn_19 : decode cX2_orderIn 19 = .ok (.invokestatic 94, 3) := by decide +kernel
theorem dX2_orderIn_22 : decode cX2_orderIn 22 = .ok (.irem, 1) := by decide +kernel
theorem dX2_orderIn_23 : decode cX2_orderIn 23 = .ok (.ireturn, 1) := by decide +kernel
theorem dX2_putOrder_0 : decode cX2_putOrder 0 = .ok (.iload 4, 2) := by decide +kernel
theorem dX2_putOrder_2 : decode cX2_putOrder 2 = .ok (.istore 5, 2) := by decide +kernel
theorem dX2_putOrder_4 : decode cX2_putOrder 4 = .ok (.iconst 0, 1) := by decide +kernel
theorem dX2_putOrder_5 : decode cX2_putOrder 5 = .ok (.istore 6, 2) := by decide +kernel
theorem dX2_putOrder_7 : decode cX2_putOrder 7 = .ok (.iload 6, 2) := by decide +kernel
theorem dX2_putOrder_9 : decode cX2_putOrder 9 = .ok (.aload_n 1, 1) := by decide +kernel
theorem dX2_putOrder_10 : decode cX2_putOrder 10 = .ok (.getfield 84, 3) := by decide +kernel
theorem dX2_putOrder_13 : decode cX2_putOrder 13 = .ok (.if_icmp .ge 61, 3) := by decide +kernel
theorem dX2_putOrder_16 : decode cX2_putOrder 16 = .ok (.aload_n 1, 1) := by decide +kernel
theorem dX2_putOrder_17 : decode cX2_putOrder 17 = .ok (.iload_n 3, 1) := by decide +kernel
theorem dX2_putOrder_18 : decode cX2_putOrder 18 = .ok (.iload 6, 2) := by decide +kernel
theorem dX2_putOrder_20 : decode cX2_putOrder 20 = .ok (.invokevirtual 87, 3) := by decide +kernel
theorem dX2_putOrder_23 : decode cX2_putOrder 23 = .ok (.istore 7, 2) := by decide +kernel
theorem dX2_putOrder_25 : decode cX2_putOrder 25 = .ok (.iload 7, 2) := by decide +kernel
theorem dX2_putOrder_27 : decode cX2_putOrder 27 = .ok (.iconst 1, 1) := by decide +kernel
theorem dX2_putOrder_28 : decode cX2_putOrder 28 = .ok (.if_icmp .le 40, 3) := by decide +kernel
theorem dX2_putOrder_31 : decode cX2_putOrder 31 = .ok (.iload 7, 2) := by decide +kernel
theorem dX2_putOrder_33 : decode cX2_putOrder 33 = .ok (.invokestatic 90, 3) := by decide +kernel
theorem dX2_putOrder_36 : decode cX2_putOrder 36 = .ok (.istore 8, 2) := by decide +kernel
theorem dX2_putOrder_38 : decode cX2_putOrder 38 = .ok (.iload 5, 2) := by decide +kernel
theorem dX2_putOrder_40 : decode cX2_putOrder 40 = .ok (.iload 8, 2) := by decide +kernel
theorem dX2_putOrder_42 : decode cX2_putOrder 42 = .ok (.irem, 1) := by decide +kernel
theorem dX2_putOrder_43 : decode cX2_putOrder 43 = .ok (.iload 7, 2) := by decide +kernel
theorem dX2_putOrder_45 : decode cX2_putOrder 45 = .ok (.aload_n 0, 1) := by decide +kernel
theorem dX2_putOrder_46 : decode cX2_putOrder 46 = .ok (.getfield 21, 3) := by decide +kernel
theorem dX2_putOrder_49 : decode cX2_putOrder 49 = .ok (.invokestatic 97, 3) := by decide +kernel
theorem dX2_putOrder_52 : decode cX2_putOrder 52 = .ok (.iload 5, 2) := by decide +kernel
theorem dX2_putOrder_54 : decode cX2_putOrder 54 = .ok (.iload 8, 2) := by decide +kernel
theorem dX2_putOrder_56 : decode cX2_putOrder 56 = .ok (.idiv, 1) := by decide +kernel
theorem dX2_putOrder_57 : decode cX2_putOrder 57 = .ok (.istore 5, 2) := by decide +kernel
theorem dX2_putOrder_59 : decode cX2_putOrder 59 = .ok (.aload_n 0, 1) := by decide +kernel
theorem dX2_putOrder_60 : decode cX2_putOrder 60 = .ok (.aload_n 1, 1) := by decide +kernel
theorem dX2_putOrder_61 : decode cX2_putOrder 61 = .ok (.aload_n 2, 1) := by decide +kernel
theorem dX2_putOrder_62 : decode cX2_putOrder 62 = .ok (.iload_n 3, 1) := by decide +kernel
theorem dX2_putOrder_63 : decode cX2_putOrder 63 = .ok (.iload 6, 2) := by decide +kernel
theorem dX2_putOrder_65 : decode cX2_putOrder 65 = .ok (.invokevirtual 101, 3) := by decide +kernel
theorem dX2_putOrder_68 : decode cX2_putOrder 68 = .ok (.iinc 6 1, 3) := by decide +kernel
theorem dX2_putOrder_71 : decode cX2_putOrder 71 = .ok (.goto (-64), 3) := by decide +kernel
theorem dX2_putOrder_74 : decode cX2_putOrder 74 = .ok (.return_, 1) := by decide +kernel
theorem dX2_putRanks_0 : decode cX2_putRanks 0 = .ok (.iconst 0, 1) := by decide +kernel
theorem dX2_putRanks_1 : decode cX2_putRanks 1 = .ok (.istore 5, 2) := by decide +kernel
theorem dX2_putRanks_3 : decode cX2_putRanks 3 = .ok (.iconst 0, 1) := by decide +kernel
theorem dX2_putRanks_4 : decode cX2_putRanks 4 = .ok (.istore 6, 2) := by decide +kernel
theorem dX2_putRanks_6 : decode cX2_putRanks 6 = .ok (.iload 6, 2) := by decide +kernel
theorem dX2_putRanks_8 : decode cX2_putRanks 8 = .ok (.aload_n 1, 1) := by decide +kernel
theorem dX2_putRanks_9 : decode cX2_putRanks 9 = .ok (.getfield 84, 3) := by decide +kernel
theorem dX2_putRanks_12 : decode cX2_putRanks 12 = .ok (.if_icmp .ge 51, 3) := by decide +kernel
theorem dX2_putRanks_15 : decode cX2_putRanks 15 = .ok (.iload 5, 2) := by decide +kernel
theorem dX2_putRanks_17 : decode cX2_putRanks 17 = .ok (.aload_n 0, 1) := by decide +kernel
theorem dX2_putRanks_18 : decode cX2_putRanks 18 = .ok (.getfield 21, 3) := by decide +kernel
theorem dX2_putRanks_21 : decode cX2_putRanks 21 = .ok (.arraylength, 1) := by decide +kernel
theorem dX2_putRanks_22 : decode cX2_putRanks 22 = .ok (.if_icmp .ge 41, 3) := by decide +kernel
theorem dX2_putRanks_25 : decode cX2_putRanks 25 = .ok (.aload_n 1, 1) := by decide +kernel
theorem dX2_putRanks_26 : decode cX2_putRanks 26 = .ok (.iload_n 3, 1) := by decide +kernel
theorem dX2_putRanks_27 : decode cX2_putRanks 27 = .ok (.iload 6, 2) := by decide +kernel
theorem dX2_putRanks_29 : decode cX2_putRanks 29 = .ok (.invokevirtual 104, 3) := by decide +kernel
theorem dX2_putRanks_32 : decode cX2_putRanks 32 = .ok (.iload 4, 2) := by decide +kernel
theorem dX2_putRanks_34 : decode cX2_putRanks 34 = .ok (.if_icmp .ne 23, 3) := by decide +kernel
theorem dX2_putRanks_37 : decode cX2_putRanks 37 = .ok (.aload_n 2, 1) := by decide +kernel
theorem dX2_putRanks_38 : decode cX2_putRanks 38 = .ok (.iload_n 3, 1) := by decide +kernel
theorem dX2_putRanks_39 : decode cX2_putRanks 39 = .ok (.iload 6, 2) := by decide +kernel
theorem dX2_putRanks_41 : decode cX2_putRanks 41 = .ok (.iload 4, 2) := by decide +kernel
theorem dX2_putRanks_43 : decode cX2_putRanks 43 = .ok (.aload_n 0, 1) := by decide +kernel
theorem dX2_putRanks_44 : decode cX2_putRanks 44 = .ok (.getfield 21, 3) := by decide +kernel
theorem dX2_putRanks_47 : decode cX2_putRanks 47 = .ok (.iload 5, 2) := by decide +kernel
theorem dX2_putRanks_49 : decode cX2_putRanks 49 = .ok (.iaload, 1) := by decide +kernel
theorem dX2_putRanks_50 : decode cX2_putRanks 50 = .ok (.iadd, 1) := by decide +kernel
theorem dX2_putRanks_51 : decode cX2_putRanks 51 = .ok (.invokevirtual 107, 3) := by decide +kernel
theorem dX2_putRanks_54 : decode cX2_putRanks 54 = .ok (.iinc 5 1, 3) := by decide +kernel
theorem dX2_putRanks_57 : decode cX2_putRanks 57 = .ok (.iinc 6 1, 3) := by decide +kernel
theorem dX2_putRanks_60 : decode cX2_putRanks 60 = .ok (.goto (-54), 3) := by decide +kernel
theorem dX2_putRanks_63 : decode cX2_putRanks 63 = .ok (.return_, 1) := by decide +kernel
theorem dX2_bestToAsk_0 : decode cX2_bestToAsk 0 = .ok (.iconst (-1), 1) := by decide +kernel
theorem dX2_bestToAsk_1 : decode cX2_bestToAsk 1 = .ok (.istore_n 2, 1) := by decide +kernel
theorem dX2_bestToAsk_2 : decode cX2_bestToAsk 2 = .ok (.ldc 111, 2) := by decide +kernel
theorem dX2_bestToAsk_4 : decode cX2_bestToAsk 4 = .ok (.istore_n 3, 1) := by decide +kernel
theorem dX2_bestToAsk_5 : decode cX2_bestToAsk 5 = .ok (.iconst 0, 1) := by decide +kernel
theorem dX2_bestToAsk_6 : decode cX2_bestToAsk 6 = .ok (.istore 4, 2) := by decide +kernel
theorem dX2_bestToAsk_8 : decode cX2_bestToAsk 8 = .ok (.iload 4, 2) := by decide +kernel
theorem dX2_bestToAsk_10 : decode cX2_bestToAsk 10 = .ok (.iload_n 1, 1) := by decide +kernel
theorem dX2_bestToAsk_11 : decode cX2_bestToAsk 11 = .ok (.if_icmp .ge 40, 3) := by decide +kernel
theorem dX2_bestToAsk_14 : decode cX2_bestToAsk 14 = .ok (.aload_n 0, 1) := by decide +kernel
theorem dX2_bestToAsk_15 : decode cX2_bestToAsk 15 = .ok (.getfield 15, 3) := by decide +kernel
theorem dX2_bestToAsk_18 : decode cX2_bestToAsk 18 = .ok (.iload 4, 2) := by decide +kernel
theorem dX2_bestToAsk_20 : decode cX2_bestToAsk 20 = .ok (.iaload, 1) := by decide +kernel
theorem dX2_bestToAsk_21 : decode cX2_bestToAsk 21 = .ok (.iconst 1, 1) := by decide +kernel
theorem dX2_bestToAsk_22 : decode cX2_bestToAsk 22 = .ok (.if_icmp .le 23, 3) := by decide +kernel
theorem dX2_bestToAsk_25 : decode cX2_bestToAsk 25 = .ok (.aload_n 0, 1) := by decide +kernel
theorem dX2_bestToAsk_26 : decode cX2_bestToAsk 26 = .ok (.iload 4, 2) := by decide +kernel
theorem dX2_bestToAsk_28 : decode cX2_bestToAsk 28 = .ok (.invokevirtual 112, 3) := by decide +kernel
theorem dX2_bestToAsk_31 : decode cX2_bestToAsk 31 = .ok (.istore 5, 2) := by decide +kernel
theorem dX2_bestToAsk_33 : decode cX2_bestToAsk 33 = .ok (.iload 5, 2) := by decide +kernel
theorem dX2_bestToAsk_35 : decode cX2_bestToAsk 35 = .ok (.iload_n 3, 1) := by decide +kernel
theorem dX2_bestToAsk_36 : decode cX2_bestToAsk 36 = .ok (.if_icmp .ge 9, 3) := by decide +kernel
theorem dX2_bestToAsk_39 : decode cX2_bestToAsk 39 = .ok (.iload 5, 2) := by decide +kernel
theorem dX2_bestToAsk_41 : decode cX2_bestToAsk 41 = .ok (.istore_n 3, 1) := by decide +kernel
theorem dX2_bestToAsk_42 : decode cX2_bestToAsk 42 = .ok (.iload 4, 2) := by decide +kernel
theorem dX2_bestToAsk_44 : decode cX2_bestToAsk 44 = .ok (.istore_n 2, 1) := by decide +kernel
theorem dX2_bestToAsk_45 : decode cX2_bestToAsk 45 = .ok (.iinc 4 1, 3) := by decide +kernel
theorem dX2_bestToAsk_48 : decode cX2_bestToAsk 48 = .ok (.goto (-40), 3) := by decide +kernel
theorem dX2_bestToAsk_51 : decode cX2_bestToAsk 51 = .ok (.iload_n 2, 1) := by decide +kernel
theorem dX2_bestToAsk_52 : decode cX2_bestToAsk 52 = .ok (.ireturn, 1) := by decide +kernel
theorem dX2_mostOpenOnceTold_0 : decode cX2_mostOpenOnceTold 0 = .ok (.iconst 0, 1) := by decide +kernel
theorem dX2_mostOpenOnceTold_1 : decode cX2_mostOpenOnceTold 1 = .ok (.istore_n 2, 1) := by decide +kernel
theorem dX2_mostOpenOnceTold_2 : decode cX2_mostOpenOnceTold 2 = .ok (.iconst 0, 1) := by decide +kernel
theorem dX2_mostOpenOnceTold_3 : decode cX2_mostOpenOnceTold 3 = .ok (.istore_n 3, 1) := by decide +kernel
theorem dX2_mostOpenOnceTold_4 : decode cX2_mostOpenOnceTold 4 = .ok (.iload_n 3, 1) := by decide +kernel
theorem dX2_mostOpenOnceTold_5 : decode cX2_mostOpenOnceTold 5 = .ok (.aload_n 0, 1) := by decide +kernel
theorem dX2_mostOpenOnceTold_6 : decode cX2_mostOpenOnceTold 6 = .ok (.getfield 15, 3) := by decide +kernel
theorem dX2_mostOpenOnceTold_9 : decode cX2_mostOpenOnceTold 9 = .ok (.iload_n 1, 1) := by decide +kernel
theorem dX2_mostOpenOnceTold_10 : decode cX2_mostOpenOnceTold 10 = .ok (.iaload, 1) := by decide +kernel
theorem dX2_mostOpenOnceTold_11 : decode cX2_mostOpenOnceTold 11 = .ok (.if_icmp .ge 20, 3) := by decide +kernel
theorem dX2_mostOpenOnceTold_14 : decode cX2_mostOpenOnceTold 14 = .ok (.iload_n 2, 1) := by decide +kernel
theorem dX2_mostOpenOnceTold_15 : decode cX2_mostOpenOnceTold 15 = .ok (.aload_n 0, 1) := by decide +kernel
theorem dX2_mostOpenOnceTold_16 : decode cX2_mostOpenOnceTold 16 = .ok (.iload_n 1, 1) := by decide +kernel
theorem dX2_mostOpenOnceTold_17 : decode cX2_mostOpenOnceTold 17 = .ok (.iload_n 3, 1) := by decide +kernel
theorem dX2_mostOpenOnceTold_18 : decode cX2_mostOpenOnceTold 18 = .ok (.invokevirtual 115, 3) := by decide +kernel
theorem dX2_mostOpenOnceTold_21 : decode cX2_mostOpenOnceTold 21 = .ok (.invokestatic 94, 3) := by decide +kernel
theorem dX2_mostOpenOnceTold_24 : decode cX2_mostOpenOnceTold 24 = .ok (.istore_n 2, 1) := by decide +kernel
theorem dX2_mostOpenOnceTold_25 : decode cX2_mostOpenOnceTold 25 = .ok (.iinc 3 1, 3) := by decide +kernel
theorem dX2_mostOpenOnceTold_28 : decode cX2_mostOpenOnceTold 28 = .ok (.goto (-24), 3) := by decide +kernel
theorem dX2_mostOpenOnceTold_31 : decode cX2_mostOpenOnceTold 31 = .ok (.iload_n 2, 1) := by decide +kernel
theorem dX2_mostOpenOnceTold_32 : decode cX2_mostOpenOnceTold 32 = .ok (.ireturn, 1) := by decide +kernel
theorem dX2_openOnceTold_0 : decode cX2_openOnceTold 0 = .ok (.iconst (-1), 1) := by decide +kernel
theorem dX2_openOnceTold_1 : decode cX2_openOnceTold 1 = .ok (.istore_n 3, 1) := by decide +kernel
theorem dX2_openOnceTold_2 : decode cX2_openOnceTold 2 = .ok (.iconst 0, 1) := by decide +kernel
theorem dX2_openOnceTold_3 : decode cX2_openOnceTold 3 = .ok (.istore 4, 2) := by decide +kernel
theorem dX2_openOnceTold_5 : decode cX2_openOnceTold 5 = .ok (.iconst 0, 1) := by decide +kernel
theorem dX2_openOnceTold_6 : decode cX2_openOnceTold 6 = .ok (.istore 5, 2) := by decide +kernel
theorem dX2_openOnceTold_8 : decode cX2_openOnceTold 8 = .ok (.iload 5, 2) := by decide +kernel
theorem dX2_openOnceTold_10 : decode cX2_openOnceTold 10 = .ok (.aload_n 0, 1) := by decide +kernel
theorem dX2_openOnceTold_11 : decode cX2_openOnceTold 11 = .ok (.getfield 28, 3) := by decide +kernel
theorem dX2_openOnceTold_14 : decode cX2_openOnceTold 14 = .ok (.if_icmp .ge 50, 3) := by decide +kernel
theorem dX2_openOnceTold_17 : decode cX2_openOnceTold 17 = .ok (.iload 5, 2) := by decide +kernel
theorem dX2_openOnceTold_19 : decode cX2_openOnceTold 19 = .ok (.sipush 240, 3) := by decide +kernel
theorem dX2_openOnceTold_22 : decode cX2_openOnceTold 22 = .ok (.if_icmp .ge 42, 3) := by decide +kernel
theorem dX2_openOnceTold_25 : decode cX2_openOnceTold 25 = .ok (.aload_n 0, 1) := by decide +kernel
theorem dX2_openOnceTold_26 : decode cX2_openOnceTold 26 = .ok (.iload 5, 2) := by decide +kernel
theorem dX2_openOnceTold_28 : decode cX2_openOnceTold 28 = .ok (.iload_n 1, 1) := by decide +kernel
theorem dX2_openOnceTold_29 : decode cX2_openOnceTold 29 = .ok (.invokevirtual 63, 3) := by decide +kernel
theorem dX2_openOnceTold_32 : decode cX2_openOnceTold 32 = .ok (.iload_n 2, 1) := by decide +kernel
theorem dX2_openOnceTold_33 : decode cX2_openOnceTold 33 = .ok (.if_icmp .ne 25, 3) := by decide +kernel
theorem dX2_openOnceTold_36 : decode cX2_openOnceTold 36 = .ok (.iload_n 3, 1) := by decide +kernel
theorem dX2_openOnceTold_37 : decode cX2_openOnceTold 37 = .ok (.aload_n 0, 1) := by decide +kernel
theorem dX2_openOnceTold_38 : decode cX2_openOnceTold 38 = .ok (.getfield 9, 3) := by decide +kernel
theorem dX2_openOnceTold_41 : decode cX2_openOnceTold 41 = .ok (.iload 5, 2) := by decide +kernel
theorem dX2_openOnceTold_43 : decode cX2_openOnceTold 43 = .ok (.iaload, 1) := by decide +kernel
theorem dX2_openOnceTold_44 : decode cX2_openOnceTold 44 = .ok (.iand, 1) := by decide +kernel
theorem dX2_openOnceTold_45 : decode cX2_openOnceTold 45 = .ok (.istore_n 3, 1) := by decide +kernel
theorem dX2_openOnceTold_46 : decode cX2_openOnceTold 46 = .ok (.iload 4, 2) := by decide +kernel
theorem dX2_openOnceTold_48 : decode cX2_openOnceTold 48 = .ok (.aload_n 0, 1) := by decide +kernel
theorem dX2_openOnceTold_49 : decode cX2_openOnceTold 49 = .ok (.getfield 9, 3) := by decide +kernel
theorem dX2_openOnceTold_52 : decode cX2_openOnceTold 52 = .ok (.iload 5, 2) := by decide +kernel
theorem dX2_openOnceTold_54 : decode cX2_openOnceTold 54 = .ok (.iaload, 1) := by decide +kernel
theorem dX2_openOnceTold_55 : decode cX2_openOnceTold 55 = .ok (.ior, 1) := by decide +kernel
theorem dX2_openOnceTold_56 : decode cX2_openOnceTold 56 = .ok (.istore 4, 2) := by decide +kernel
theorem dX2_openOnceTold_58 : decode cX2_openOnceTold 58 = .ok (.iinc 5 1, 3) := by decide +kernel
theorem dX2_openOnceTold_61 : decode cX2_openOnceTold 61 = .ok (.goto (-53), 3) := by decide +kernel
theorem dX2_openOnceTold_64 : decode cX2_openOnceTold 64 = .ok (.iload 4, 2) := by decide +kernel
theorem dX2_openOnceTold_66 : decode cX2_openOnceTold 66 = .ok (.iload_n 3, 1) := by decide +kernel
theorem dX2_openOnceTold_67 : decode cX2_openOnceTold 67 = .ok (.iconst (-1), 1) := by decide +kernel
theorem dX2_openOnceTold_68 : decode cX2_openOnceTold 68 = .ok (.ixor, 1) := by decide +kernel
theorem dX2_openOnceTold_69 : decode cX2_openOnceTold 69 = .ok (.iand, 1) := by decide +kernel
theorem dX2_openOnceTold_70 : decode cX2_openOnceTold 70 = .ok (.invokestatic 118, 3) := by decide +kernel
theorem dX2_openOnceTold_73 : decode cX2_openOnceTold 73 = .ok (.ireturn, 1) := by decide +kernel
theorem dX3_init_0 : decode cX3_init 0 = .ok (.aload_n 0, 1) := by decide +kernel
theorem dX3_init_1 : decode cX3_init 1 = .ok (.invokespecial 3, 3) := by decide +kernel
theorem dX3_init_4 : decode cX3_init 4 = .ok (.aload_n 0, 1) := by decide +kernel
theorem dX3_init_5 : decode cX3_init 5 = .ok (.sipush 600, 3) := by decide +kernel
theorem dX3_init_8 : decode cX3_init 8 = .ok (.newarray .byte, 2) := by decide +kernel
theorem dX3_init_10 : decode cX3_init 10 = .ok (.putfield 9, 3) := by decide +kernel
theorem dX3_init_13 : decode cX3_init 13 = .ok (.aload_n 0, 1) := by decide +kernel
theorem dX3_init_14 : decode cX3_init 14 = .ok (.new 15, 3) := by decide +kernel
theorem dX3_init_17 : decode cX3_init 17 = .ok (.dup, 1) := by decide +kernel
theorem dX3_init_18 : decode cX3_init 18 = .ok (.invokespecial 17, 3) := by decide +kernel
theorem dX3_init_21 : decode cX3_init 21 = .ok (.putfield 18, 3) := by decide +kernel
theorem dX3_init_24 : decode cX3_init 24 = .ok (.aload_n 0, 1) := by decide +kernel
theorem dX3_init_25 : decode cX3_init 25 = .ok (.iconst 0, 1) := by decide +kernel
theorem dX3_init_26 : decode cX3_init 26 = .ok (.putfield 22, 3) := by decide +kernel
theorem dX3_init_29 : decode cX3_init 29 = .ok (.aload_n 0, 1) := by decide +kernel
theorem dX3_init_30 : decode cX3_init 30 = .ok (.iconst 0, 1) := by decide +kernel
theorem dX3_init_31 : decode cX3_init 31 = .ok (.putfield 26, 3) := by decide +kernel
theorem dX3_init_34 : decode cX3_init 34 = .ok (.aload_n 0, 1) := by decide +kernel
theorem dX3_init_35 : decode cX3_init 35 = .ok (.iconst 0, 1) := by decide +kernel
theorem dX3_init_36 : decode cX3_init 36 = .ok (.putfield 29, 3) := by decide +kernel
theorem dX3_init_39 : decode cX3_init 39 = .ok (.aload_n 0, 1) := by decide +kernel
theorem dX3_init_40 : decode cX3_init 40 = .ok (.iconst 0, 1) := by decide +kernel
theorem dX3_init_41 : decode cX3_init 41 = .ok (.putfield 32, 3) := by decide +kernel
theorem dX3_init_44 : decode cX3_init 44 = .ok (.aload_n 0, 1) := by decide +kernel
theorem dX3_init_45 : decode cX3_init 45 = .ok (.iconst 0, 1) := by decide +kernel
theorem dX3_init_46 : decode cX3_init 46 = .ok (.putfield 35, 3) := by decide +kernel
theorem dX3_init_49 : decode cX3_init 49 = .ok (.aload_n 0, 1) := by decide +kernel
theorem dX3_init_50 : decode cX3_init 50 = .ok (.iconst 0, 1) := by decide +kernel
theorem dX3_init_51 : decode cX3_init 51 = .ok (.putfield 38, 3) := by decide +kernel
theorem dX3_init_54 : decode cX3_init 54 = .ok (.aload_n 0, 1) := by decide +kernel
theorem dX3_init_55 : decode cX3_init 55 = .ok (.iconst 0, 1) := by decide +kernel
theorem dX3_init_56 : decode cX3_init 56 = .ok (.putfield 41, 3) := by decide +kernel
theorem dX3_init_59 : decode cX3_init 59 = .ok (.aload_n 0, 1) := by decide +kernel
theorem dX3_init_60 : decode cX3_init 60 = .ok (.iconst (-1), 1) := by decide +kernel
theorem dX3_init_61 : decode cX3_init 61 = .ok (.putfield 44, 3) := by decide +kernel
theorem dX3_init_64 : decode cX3_init 64 = .ok (.return_, 1) := by decide +kernel
theorem dX3_hasRoomFor_0 : decode cX3_hasRoomFor 0 = .ok (.aload_n 0, 1) := by decide +kernel
theorem dX3_hasRoomFor_1 : decode cX3_hasRoomFor 1 = .ok (.getfield 22, 3) := by decide +kernel
theorem dX3_hasRoomFor_4 : decode cX3_hasRoomFor 4 = .ok (.iload_n 1, 1) := by decide +kernel
theorem dX3_hasRoomFor_5 : decode cX3_hasRoomFor 5 = .ok (.iadd, 1) := by decide +kernel
theorem dX3_hasRoomFor_6 : decode cX3_hasRoomFor 6 = .ok (.sipush 600, 3) := by decide +kernel
theorem dX3_hasRoomFor_9 : decode cX3_hasRoomFor 9 = .ok (.if_icmp .gt 7, 3) := by decide +kernel
theorem dX3_hasRoomFor_12 : decode cX3_hasRoomFor 12 = .ok (.iconst 1, 1) := by decide +kernel
theorem dX3_hasRoomFor_13 : decode cX3_hasRoomFor 13 = .ok (.goto 4, 3) := by decide +kernel
theorem dX3_hasRoomFor_16 : decode cX3_hasRoomFor 16 = .ok (.iconst 0, 1) := by decide +kernel
theorem dX3_hasRoomFor_17 : decode cX3_hasRoomFor 17 = .ok (.ireturn, 1) := by decide +kernel
theorem dX3_put_0 : decode cX3_put 0 = .ok (.bipush 24, 2) := by decide +kernel
theorem dX3_put_2 : decode cX3_put 2 = .ok (.istore_n 2, 1) := by decide +kernel
theorem dX3_put_3 : decode cX3_put 3 = .ok (.iload_n 2, 1) := by decide +kernel
theorem dX3_put_4 : decode cX3_put 4 = .ok (.ifCond .lt 42, 3) := by decide +kernel
theorem dX3_put_7 : decode cX3_put 7 = .ok (.aload_n 0, 1) := by decide +kernel
theorem dX3_put_8 : decode cX3_put 8 = .ok (.getfield 22, 3) := by decide +kernel
theorem dX3_put_11 : decode cX3_put 11 = .ok (.sipush 600, 3) := by decide +kernel
theorem dX3_put_14 : decode cX3_put 14 = .ok (.if_icmp .ge 32, 3) := by decide +kernel
theorem dX3_put_17 : decode cX3_put 17 = .ok (.aload_n 0, 1) := by decide +kernel
theorem dX3_put_18 : decode cX3_put 18 = .ok (.getfield 9, 3) := by decide +kernel
theorem dX3_put_21 : decode cX3_put 21 = .ok (.aload_n 0, 1) := by decide +kernel
theorem dX3_put_22 : decode cX3_put 22 = .ok (.getfield 22, 3) := by decide +kernel
theorem dX3_put_25 : decode cX3_put 25 = .ok (.iload_n 1, 1) := by decide +kernel
theorem dX3_put_26 : decode cX3_put 26 = .ok (.iload_n 2, 1) := by decide +kernel
theorem dX3_put_27 : decode cX3_put 27 = .ok (.ishr, 1) := by decide +kernel
theorem dX3_put_28 : decode cX3_put 28 = .ok (.i2b, 1) := by decide +kernel
theorem dX3_put_29 : decode cX3_put 29 = .ok (.bastore, 1) := by decide +kernel
theorem dX3_put_30 : decode cX3_put 30 = .ok (.aload_n 0, 1) := by decide +kernel
theorem dX3_put_31 : decode cX3_put 31 = .ok (.dup, 1) := by decide +kernel
theorem dX3_put_32 : decode cX3_put 32 = .ok (.getfield 22, 3) := by decide +kernel
theorem dX3_put_35 : decode cX3_put 35 = .ok (.iconst 1, 1) := by decide +kernel
theorem dX3_put_36 : decode cX3_put 36 = .ok (.iadd, 1) := by decide +kernel
theorem dX3_put_37 : decode cX3_put 37 = .ok (.putfield 22, 3) := by decide +kernel
theorem dX3_put_40 : decode cX3_put 40 = .ok (.iinc 2 (-8), 3) := by decide +kernel
theorem dX3_put_43 : decode cX3_put 43 = .ok (.goto (-40), 3) := by decide +kernel
theorem dX3_put_46 : decode cX3_put 46 = .ok (.return_, 1) := by decide +kernel
theorem dX3_read_0 : decode cX3_read 0 = .ok (.aload_n 0, 1) := by decide +kernel
theorem dX3_read_1 : decode cX3_read 1 = .ok (.iload_n 1, 1) := by decide +kernel
theorem dX3_read_2 : decode cX3_read 2 = .ok (.aload_n 0, 1) := by decide +kernel
theorem dX3_read_3 : decode cX3_read 3 = .ok (.getfield 22, 3) := by decide +kernel
theorem dX3_read_6 : decode cX3_read 6 = .ok (.invokestatic 47, 3) := by decide +kernel
theorem dX3_read_9 : decode cX3_read 9 = .ok (.putfield 26, 3) := by decide +kernel
theorem dX3_read_12 : decode cX3_read 12 = .ok (.aload_n 0, 1) := by decide +kernel
theorem dX3_read_13 : decode cX3_read 13 = .ok (.iconst 0, 1) := by decide +kernel
theorem dX3_read_14 : decode cX3_read 14 = .ok (.putfield 22, 3) := by decide +kernel
theorem dX3_read_17 : decode cX3_read 17 = .ok (.aload_n 0, 1) := by decide +kernel
theorem dX3_read_18 : decode cX3_read 18 = .ok (.getfield 18, 3) := by decide +kernel
theorem dX3_read_21 : decode cX3_read 21 = .ok (.invokevirtual 53, 3) := by decide +kernel
theorem dX3_read_24 : decode cX3_read 24 = .ok (.aload_n 0, 1) := by decide +kernel
theorem dX3_read_25 : decode cX3_read 25 = .ok (.iconst 0, 1) := by decide +kernel
theorem dX3_read_26 : decode cX3_read 26 = .ok (.putfield 41, 3) := by decide +kernel
theorem dX3_read_29 : decode cX3_read 29 = .ok (.aload_n 0, 1) := by decide +kernel
theorem dX3_read_30 : decode cX3_read 30 = .ok (.iconst (-1), 1) := by decide +kernel
theorem dX3_read_31 : decode cX3_read 31 = .ok (.putfield 44, 3) := by decide +kernel
theorem dX3_read_34 : decode cX3_read 34 = .ok (.aload_n 0, 1) := by decide +kernel
theorem dX3_read_35 : decode cX3_read 35 = .ok (.iconst 0, 1) := by decide +kernel
theorem dX3_read_36 : decode cX3_read 36 = .ok (.putfield 35, 3) := by decide +kernel
theorem dX3_read_39 : decode cX3_read 39 = .ok (.aload_n 0, 1) := by decide +kernel
theorem dX3_read_40 : decode cX3_read 40 = .ok (.invokevirtual 56, 3) := by decide +kernel
theorem dX3_read_43 : decode cX3_read 43 = .ok (.aload_n 0, 1) := by decide +kernel
theorem dX3_read_44 : decode cX3_read 44 = .ok (.invokevirtual 59, 3) := by decide +kernel
theorem dX3_read_47 : decode cX3_read 47 = .ok (.istore_n 2, 1) := by decide +kernel
theorem dX3_read_48 : decode cX3_read 48 = .ok (.iconst 0, 1) := by decide +kernel
theorem dX3_read_49 : decode cX3_read 49 = .ok (.istore_n 3, 1) := by decide +kernel
theorem dX3_read_50 : decode cX3_read 50 = .ok (.iload_n 3, 1) := by decide +kernel
theorem dX3_read_51 : decode cX3_read 51 = .ok (.sipush 600, 3) := by decide +kernel
theorem dX3_read_54 : decode cX3_read 54 = .ok (.if_icmp .gt 40, 3) := by decide +kernel
theorem dX3_read_57 : decode cX3_read 57 = .ok (.iload_n 2, 1) := by decide +kernel
theorem dX3_read_58 : decode cX3_read 58 = .ok (.ifCond .eq 36, 3) := by decide +kernel
theorem dX3_read_61 : decode cX3_read 61 = .ok (.aload_n 0, 1) := by decide +kernel
theorem dX3_read_62 : decode cX3_read 62 = .ok (.getfield 29, 3) := by decide +kernel
theorem dX3_read_65 : decode cX3_read 65 = .ok (.ifCond .eq 29, 3) := by decide +kernel
theorem dX3_read_68 : decode cX3_read 68 = .ok (.aload_n 0, 1) := by decide +kernel
theorem dX3_read_69 : decode cX3_read 69 = .ok (.invokevirtual 63, 3) := by decide +kernel
theorem dX3_read_72 : decode cX3_read 72 = .ok (.ifCond .eq 14, 3) := by decide +kernel
theorem dX3_read_75 : decode cX3_read 75 = .ok (.aload_n 0, 1) := by decide +kernel
theorem dX3_read_76 : decode cX3_read 76 = .ok (.invokevirtual 66, 3) := by decide +kernel
theorem dX3_read_79 : decode cX3_read 79 = .ok (.ifCond .eq 7, 3) := by decide +kernel
theorem dX3_read_82 : decode cX3_read 82 = .ok (.iconst 1, 1) := by decide +kernel
theorem dX3_read_83 : decode cX3_read 83 = .ok (.goto 4, 3) := by decide +kernel
theorem dX3_read_86 : decode cX3_read 86 = .ok (.iconst 0, 1) := by decide +kernel
theorem dX3_read_87 : decode cX3_read 87 = .ok (.istore_n 2, 1) := by decide +kernel
theorem dX3_read_88 : decode cX3_read 88 = .ok (.iinc 3 1, 3) := by decide +kernel
theorem dX3_read_91 : decode cX3_read 91 = .ok (.goto (-41), 3) := by decide +kernel
theorem dX3_read_94 : decode cX3_read 94 = .ok (.aload_n 0, 1) := by decide +kernel
theorem dX3_read_95 : decode cX3_read 95 = .ok (.getfield 41, 3) := by decide +kernel
theorem dX3_read_98 : decode cX3_read 98 = .ok (.ireturn, 1) := by decide +kernel
theorem dX3_fail_0 : decode cX3_fail 0 = .ok (.aload_n 0, 1) := by decide +kernel
theorem dX3_fail_1 : decode cX3_fail 1 = .ok (.iload_n 1, 1) := by decide +kernel
theorem dX3_fail_2 : decode cX3_fail 2 = .ok (.putfield 41, 3) := by decide +kernel
theorem dX3_fail_5 : decode cX3_fail 5 = .ok (.aload_n 0, 1) := by decide +kernel
theorem dX3_fail_6 : decode cX3_fail 6 = .ok (.aload_n 0, 1) := by decide +kernel
theorem dX3_fail_7 : decode cX3_fail 7 = .ok (.getfield 32, 3) := by decide +kernel
theorem dX3_fail_10 : decode cX3_fail 10 = .ok (.putfield 44, 3) := by decide +kernel
theorem dX3_fail_13 : decode cX3_fail 13 = .ok (.iconst 0, 1) := by decide +kernel
theorem dX3_fail_14 : decode cX3_fail 14 = .ok (.ireturn, 1) := by decide +kernel
theorem dX3_byteAt_0 : decode cX3_byteAt 0 = .ok (.iload_n 1, 1) := by decide +kernel
theorem dX3_byteAt_1 : decode cX3_byteAt 1 = .ok (.ifCond .lt 31, 3) := by decide +kernel
theorem dX3_byteAt_4 : decode cX3_byteAt 4 = .ok (.iload_n 1, 1) := by decide +kernel
theorem dX3_byteAt_5 : decode cX3_byteAt 5 = .ok (.aload_n 0, 1) := by decide +kernel
theorem dX3_byteAt_6 : decode cX3_byteAt 6 = .ok (.getfield 26, 3) := by decide +kernel
theorem dX3_byteAt_9 : decode cX3_byteAt 9 = .ok (.if_icmp .ge 23, 3) := by decide +kernel
theorem dX3_byteAt_12 : decode cX3_byteAt 12 = .ok (.iload_n 1, 1) := by decide +kernel
theorem dX3_byteAt_13 : decode cX3_byteAt 13 = .ok (.sipush 600, 3) := by decide +kernel
theorem dX3_byteAt_16 : decode cX3_byteAt 16 = .ok (.if_icmp .ge 16, 3) := by decide +kernel
theorem dX3_byteAt_19 : decode cX3_byteAt 19 = .ok (.aload_n 0, 1) := by decide +kernel
theorem dX3_byteAt_20 : decode cX3_byteAt 20 = .ok (.getfield 9, 3) := by decide +kernel
theorem dX3_byteAt_23 : decode cX3_byteAt 23 = .ok (.iload_n 1, 1) := by decide +kernel
theorem dX3_byteAt_24 : decode cX3_byteAt 24 = .ok (.baload, 1) := by decide +kernel
theorem dX3_byteAt_25 : decode cX3_byteAt 25 = .ok (.sipush 255, 3) := by decide +kernel
theorem dX3_byteAt_28 : decode cX3_byteAt 28 = .ok (.iand, 1) := by decide +kernel
theorem dX3_byteAt_29 : decode cX3_byteAt 29 = .ok (.goto 4, 3) := by decide +kernel
theorem dX3_byteAt_32 : decode cX3_byteAt 32 = .ok (.iconst 0, 1) := by decide +kernel
theorem dX3_byteAt_33 : decode cX3_byteAt 33 = .ok (.ireturn, 1) := by decide +kernel
theorem dX3_isBlank_0 : decode cX3_isBlank 0 = .ok (.iload_n 0, 1) := by decide +kernel
theorem dX3_isBlank_1 : decode cX3_isBlank 1 = .ok (.bipush 32, 2) := by decide +kernel
theorem dX3_isBlank_3 : decode cX3_isBlank 3 = .ok (.if_icmp .eq 9, 3) := by decide +kernel
theorem dX3_isBlank_6 : decode cX3_isBlank 6 = .ok (.iload_n 0, 1) := by decide +kernel
theorem dX3_isBlank_7 : decode cX3_isBlank 7 = .ok (.bipush 10, 2) := by decide +kernel
theorem dX3_isBlank_9 : decode cX3_isBlank 9 = .ok (.if_icmp .ne 7, 3) := by decide +kernel
theorem dX3_isBlank_12 : decode cX3_isBlank 12 = .ok (.iconst 1, 1) := by decide +kernel
theorem dX3_isBlank_13 : decode cX3_isBlank 13 = .ok (.goto 4, 3) := by decide +kernel
theorem dX3_isBlank_16 : decode cX3_isBlank 16 = .ok (.iconst 0, 1) := by decide +kernel
theorem dX3_isBlank_17 : decode cX3_isBlank 17 = .ok (.ireturn, 1) := by decide +kernel
theorem dX3_isLetter_0 : decode cX3_isLetter 0 = .ok (.iload_n 0, 1) := by decide +kernel
theorem dX3_isLetter_1 : decode cX3_isLetter 1 = .ok (.bipush 97, 2) := by decide +kernel
theorem dX3_isLetter_3 : decode cX3_isLetter 3 = .ok (.if_icmp .lt 13, 3) := by decide +kernel
theorem dX3_isLetter_6 : decode cX3_isLetter 6 = .ok (.iload_n 0, 1) := by decide +kernel
theorem dX3_isLetter_7 : decode cX3_isLetter 7 = .ok (.bipush 122, 2) := by decide +kernel
theorem dX3_isLetter_9 : decode cX3_isLetter 9 = .ok (.if_icmp .gt 7, 3) := by decide +kernel
theorem dX3_isLetter_12 : decode cX3_isLetter 12 = .ok (.iconst 1, 1) := by decide +kernel
theorem dX3_isLetter_13 : decode cX3_isLetter 13 = .ok (.goto 4, 3) := by decide +kernel
theorem dX3_isLetter_16 : decode cX3_isLetter 16 = .ok (.iconst 0, 1) := by decide +kernel
theorem dX3_isLetter_17 : decode cX3_isLetter 17 = .ok (.ireturn, 1) := by decide +kernel
theorem dX3_isDigit_0 : decode cX3_isDigit 0 = .ok (.iload_n 0, 1) := by decide +kernel
theorem dX3_isDigit_1 : decode cX3_isDigit 1 = .ok (.bipush 48, 2) := by decide +kernel
theorem dX3_isDigit_3 : decode cX3_isDigit 3 = .ok (.if_icmp .lt 13, 3) := by decide +kernel
theorem dX3_isDigit_6 : decode cX3_isDigit 6 = .ok (.iload_n 0, 1) := by decide +kernel
theorem dX3_isDigit_7 : decode cX3_isDigit 7 = .ok (.bipush 57, 2) := by decide +kernel
theorem dX3_isDigit_9 : decode cX3_isDigit 9 = .ok (.if_icmp .gt 7, 3) := by decide +kernel
theorem dX3_isDigit_12 : decode cX3_isDigit 12 = .ok (.iconst 1, 1) := by decide +kernel
theorem dX3_isDigit_13 : decode cX3_isDigit 13 = .ok (.goto 4, 3) := by decide +kernel
theorem dX3_isDigit_16 : decode cX3_isDigit 16 = .ok (.iconst 0, 1) := by decide +kernel
theorem dX3_isDigit_17 : decode cX3_isDigit 17 = .ok (.ireturn, 1) := by decide +kernel
theorem dX3_next_0 : decode cX3_next 0 = .ok (.aload_n 0, 1) := by decide +kernel
theorem dX3_next_1 : decode cX3_next 1 = .ok (.aload_n 0, 1) := by decide +kernel
theorem dX3_next_2 : decode cX3_next 2 = .ok (.getfield 35, 3) := by decide +kernel
theorem dX3_next_5 : decode cX3_next 5 = .ok (.putfield 32, 3) := by decide +kernel
theorem dX3_next_8 : decode cX3_next 8 = .ok (.aload_n 0, 1) := by decide +kernel
theorem dX3_next_9 : decode cX3_next 9 = .ok (.getfield 32, 3) := by decide +kernel
theorem dX3_next_12 : decode cX3_next 12 = .ok (.aload_n 0, 1) := by decide +kernel
theorem dX3_next_13 : decode cX3_next 13 = .ok (.getfield 26, 3) := by decide +kernel
theorem dX3_next_16 : decode cX3_next 16 = .ok (.if_icmp .ge 30, 3) := by decide +kernel
theorem dX3_next_19 : decode cX3_next 19 = .ok (.aload_n 0, 1) := by decide +kernel
theorem dX3_next_20 : decode cX3_next 20 = .ok (.aload_n 0, 1) := by decide +kernel
theorem dX3_next_21 : decode cX3_next 21 = .ok (.getfield 32, 3) := by decide +kernel
theorem dX3_next_24 : decode cX3_next 24 = .ok (.invokevirtual 69, 3) := by decide +kernel
theorem dX3_next_27 : decode cX3_next 27 = .ok (.invokestatic 73, 3) := by decide +kernel
theorem dX3_next_30 : decode cX3_next 30 = .ok (.ifCond .eq 16, 3) := by decide +kernel
theorem dX3_next_33 : decode cX3_next 33 = .ok (.aload_n 0, 1) := by decide +kernel
theorem dX3_next_34 : decode cX3_next 34 = .ok (.dup, 1) := by decide +kernel
theorem dX3_next_35 : decode cX3_next 35 = .ok (.getfield 32, 3) := by decide +kernel
theorem dX3_next_38 : decode cX3_next 38 = .ok (.iconst 1, 1) := by decide +kernel
theorem dX3_next_39 : decode cX3_next 39 = .ok (.iadd, 1) := by decide +kernel
theorem dX3_next_40 : decode cX3_next 40 = .ok (.putfield 32, 3) := by decide +kernel
theorem dX3_next_43 : decode cX3_next 43 = .ok (.goto (-35), 3) := by decide +kernel
theorem dX3_next_46 : decode cX3_next 46 = .ok (.aload_n 0, 1) := by decide +kernel
theorem dX3_next_47 : decode cX3_next 47 = .ok (.aload_n 0, 1) := by decide +kernel
theorem dX3_next_48 : decode cX3_next 48 = .ok (.getfield 32, 3) := by decide +kernel
theorem dX3_next_51 : decode cX3_next 51 = .ok (.putfield 35, 3) := by decide +kernel
theorem dX3_next_54 : decode cX3_next 54 = .ok (.aload_n 0, 1) := by decide +kernel
theorem dX3_next_55 : decode cX3_next 55 = .ok (.getfield 32, 3) := by decide +kernel
theorem dX3_next_58 : decode cX3_next 58 = .ok (.aload_n 0, 1) := by decide +kernel
theorem dX3_next_59 : decode cX3_next 59 = .ok (.getfield 26, 3) := by decide +kernel
theorem dX3_next_62 : decode cX3_next 62 = .ok (.if_icmp .lt 11, 3) := by decide +kernel
theorem dX3_next_65 : decode cX3_next 65 = .ok (.aload_n 0, 1) := by decide +kernel
theorem dX3_next_66 : decode cX3_next 66 = .ok (.iconst 0, 1) := by decide +kernel
theorem dX3_next_67 : decode cX3_next 67 = .ok (.putfield 29, 3) := by decide +kernel
theorem dX3_next_70 : decode cX3_next 70 = .ok (.goto 87, 3) := by decide +kernel
theorem dX3_next_73 : decode cX3_next 73 = .ok (.aload_n 0, 1) := by decide +kernel
theorem dX3_next_74 : decode cX3_next 74 = .ok (.aload_n 0, 1) := by decide +kernel
theorem dX3_next_75 : decode cX3_next 75 = .ok (.getfield 32, 3) := by decide +kernel
theorem dX3_next_78 : decode cX3_next 78 = .ok (.invokevirtual 69, 3) := by decide +kernel
theorem dX3_next_81 : decode cX3_next 81 = .ok (.invokestatic 77, 3) := by decide +kernel
theorem dX3_next_84 : decode cX3_next 84 = .ok (.ifCond .eq 15, 3) := by decide +kernel
theorem dX3_next_87 : decode cX3_next 87 = .ok (.aload_n 0, 1) := by decide +kernel
theorem dX3_next_88 : decode cX3_next 88 = .ok (.iconst 1, 1) := by decide +kernel
theorem dX3_next_89 : decode cX3_next 89 = .ok (.putfield 29, 3) := by decide +kernel
theorem dX3_next_92 : decode cX3_next 92 = .ok (.aload_n 0, 1) := by decide +kernel
theorem dX3_next_93 : decode cX3_next 93 = .ok (.invokevirtual 80, 3) := by decide +kernel
theorem dX3_next_96 : decode cX3_next 96 = .ok (.goto 61, 3) := by decide +kernel
theorem dX3_next_99 : decode cX3_next 99 = .ok (.aload_n 0, 1) := by decide +kernel
theorem dX3_next_100 : decode cX3_next 100 = .ok (.aload_n 0, 1) := by decide +kernel
theorem dX3_next_101 : decode cX3_next 101 = .ok (.getfield 32, 3) := by decide +kernel
theorem dX3_next_104 : decode cX3_next 104 = .ok (.invokevirtual 69, 3) := by decide +kernel
theorem dX3_next_107 : decode cX3_next 107 = .ok (.invokestatic 83, 3) := by decide +kernel
theorem dX3_next_110 : decode cX3_next 110 = .ok (.ifCond .eq 15, 3) := by decide +kernel
theorem dX3_next_113 : decode cX3_next 113 = .ok (.aload_n 0, 1) := by decide +kernel
theorem dX3_next_114 : decode cX3_next 114 = .ok (.iconst 2, 1) := by decide +kernel
theorem dX3_next_115 : decode cX3_next 115 = .ok (.putfield 29, 3) := by decide +kernel
theorem dX3_next_118 : decode cX3_next 118 = .ok (.aload_n 0, 1) := by decide +kernel
theorem dX3_next_119 : decode cX3_next 119 = .ok (.invokevirtual 86, 3) := by decide +kernel
theorem dX3_next_122 : decode cX3_next 122 = .ok (.goto 35, 3) := by decide +kernel
theorem dX3_next_125 : decode cX3_next 125 = .ok (.aload_n 0, 1) := by decide +kernel
theorem dX3_next_126 : decode cX3_next 126 = .ok (.aload_n 0, 1) := by decide +kernel
theorem dX3_next_127 : decode cX3_next 127 = .ok (.aload_n 0, 1) := by decide +kernel
theorem dX3_next_128 : decode cX3_next 128 = .ok (.getfield 32, 3) := by decide +kernel
theorem dX3_next_131 : decode cX3_next 131 = .ok (.invokevirtual 69, 3) := by decide +kernel
theorem dX3_next_134 : decode cX3_next 134 = .ok (.bipush 59, 2) := by decide +kernel
theorem dX3_next_136 : decode cX3_next 136 = .ok (.if_icmp .ne 7, 3) := by decide +kernel
theorem dX3_next_139 : decode cX3_next 139 = .ok (.iconst 3, 1) := by decide +kernel
theorem dX3_next_140 : decode cX3_next 140 = .ok (.goto 4, 3) := by decide +kernel
theorem dX3_next_143 : decode cX3_next 143 = .ok (.iconst 4, 1) := by decide +kernel
theorem dX3_next_144 : decode cX3_next 144 = .ok (.putfield 29, 3) := by decide +kernel
theorem dX3_next_147 : decode cX3_next 147 = .ok (.aload_n 0, 1) := by decide +kernel
theorem dX3_next_148 : decode cX3_next 148 = .ok (.aload_n 0, 1) := by decide +kernel
theorem dX3_next_149 : decode cX3_next 149 = .ok (.getfield 32, 3) := by decide +kernel
theorem dX3_next_152 : decode cX3_next 152 = .ok (.iconst 1, 1) := by decide +kernel
theorem dX3_next_153 : decode cX3_next 153 = .ok (.iadd, 1) := by decide +kernel
theorem dX3_next_154 : decode cX3_next 154 = .ok (.putfield 35, 3) := by decide +kernel
theorem dX3_next_157 : decode cX3_next 157 = .ok (.return_, 1) := by decide +kernel
theorem dX3_passLetters_0 : decode cX3_passLetters 0 = .ok (.aload_n 0, 1) := by decide +kernel
theorem dX3_passLetters_1 : decode cX3_passLetters 1 = .ok (.getfield 35, 3) := by decide +kernel
theorem dX3_passLetters_4 : decode cX3_passLetters 4 = .ok (.aload_n 0, 1) := by decide +kernel
theorem dX3_passLetters_5 : decode cX3_passLetters 5 = .ok (.getfield 26, 3) := by decide +kernel
theorem dX3_passLetters_8 : decode cX3_passLetters 8 = .ok (.if_icmp .ge 30, 3) := by decide +kernel
theorem dX3_passLetters_11 : decode cX3_passLetters 11 = .ok (.aload_n 0, 1) := by decide +kernel
theorem dX3_passLetters_12 : decode cX3_passLetters 12 = .ok (.aload_n 0, 1) := by decide +kernel
theorem dX3_passLetters_13 : decode cX3_passLetters 13 = .ok (.getfield 35, 3) := by decide +kernel
theorem dX3_passLetters_16 : decode cX3_passLetters 16 = .ok (.invokevirtual 69, 3) := by decide +kernel
theorem dX3_passLetters_19 : decode cX3_passLetters 19 = .ok (.invokestatic 77, 3) := by decide +kernel
theorem dX3_passLetters_22 : decode cX3_passLetters 22 = .ok (.ifCond .eq 16, 3) := by decide +kernel
theorem dX3_passLetters_25 : decode cX3_passLetters 25 = .ok (.aload_n 0, 1) := by decide +kernel
theorem dX3_passLetters_26 : decode cX3_passLetters 26 = .ok (.dup, 1) := by decide +kernel
theorem dX3_passLetters_27 : decode cX3_passLetters 27 = .ok (.getfield 35, 3) := by decide +kernel
theorem dX3_passLetters_30 : decode cX3_passLetters 30 = .ok (.iconst 1, 1) := by decide +kernel
theorem dX3_passLetters_31 : decode cX3_passLetters 31 = .ok (.iadd, 1) := by decide +kernel
theorem dX3_passLetters_32 : decode cX3_passLetters 32 = .ok (.putfield 35, 3) := by decide +kernel
theorem dX3_passLetters_35 : decode cX3_passLetters 35 = .ok (.goto (-35), 3) := by decide +kernel
theorem dX3_passLetters_38 : decode cX3_passLetters 38 = .ok (.return_, 1) := by decide +kernel
theorem dX3_passDigits_0 : decode cX3_passDigits 0 = .ok (.aload_n 0, 1) := by decide +kernel
theorem dX3_passDigits_1 : decode cX3_passDigits 1 = .ok (.iconst 0, 1) := by decide +kernel
theorem dX3_passDigits_2 : decode cX3_passDigits 2 = .ok (.putfield 38, 3) := by decide +kernel
theorem dX3_passDigits_5 : decode cX3_passDigits 5 = .ok (.aload_n 0, 1) := by decide +kernel
theorem dX3_passDigits_6 : decode cX3_passDigits 6 = .ok (.getfield 35, 3) := by decide +kernel
theorem dX3_passDigits_9 : decode cX3_passDigits 9 = .ok (.aload_n 0, 1) := by decide +kernel
theorem dX3_passDigits_10 : decode cX3_passDigits 10 = .ok (.getfield 26, 3) := by decide +kernel
theorem dX3_passDigits_13 : decode cX3_passDigits 13 = .ok (.if_icmp .ge 53, 3) := by decide +kernel
theorem dX3_passDigits_16 : decode cX3_passDigits 16 = .ok (.aload_n 0, 1) := by decide +kernel
theorem dX3_passDigits_17 : decode cX3_passDigits 17 = .ok (.aload_n 0, 1) := by decide +kernel
theorem dX3_passDigits_18 : decode cX3_passDigits 18 = .ok (.getfield 35, 3) := by decide +kernel
theorem dX3_passDigits_21 : decode cX3_passDigits 21 = .ok (.invokevirtual 69, 3) := by decide +kernel
theorem dX3_passDigits_24 : decode cX3_passDigits 24 = .ok (.invokestatic 83, 3) := by decide +kernel
theorem dX3_passDigits_27 : decode cX3_passDigits 27 = .ok (.ifCond .eq 39, 3) := by decide +kernel
theorem dX3_passDigits_30 : decode cX3_passDigits 30 = .ok (.aload_n 0, 1) := by decide +kernel
theorem dX3_passDigits_31 : decode cX3_passDigits 31 = .ok (.aload_n 0, 1) := by decide +kernel
theorem dX3_passDigits_32 : decode cX3_passDigits 32 = .ok (.getfield 38, 3) := by decide +kernel
theorem dX3_passDigits_35 : decode cX3_passDigits 35 = .ok (.bipush 10, 2) := by decide +kernel
theorem dX3_passDigits_37 : decode cX3_passDigits 37 = .ok (.imul, 1) := by decide +kernel
theorem dX3_passDigits_38 : decode cX3_passDigits 38 = .ok (.aload_n 0, 1) := by decide +kernel
theorem dX3_passDigits_39 : decode cX3_passDigits 39 = .ok (.aload_n 0, 1) := by decide +kernel
theorem dX3_passDigits_40 : decode cX3_passDigits 40 = .ok (.getfield 35, 3) := by decide +kernel
theorem dX3_passDigits_43 : decode cX3_passDigits 43 = .ok (.invokevirtual 69, 3) := by decide +kernel
theorem dX3_passDigits_46 : decode cX3_passDigits 46 = .ok (.iadd, 1) := by decide +kernel
theorem dX3_passDigits_47 : decode cX3_passDigits 47 = .ok (.bipush 48, 2) := by decide +kernel
theorem dX3_passDigits_49 : decode cX3_passDigits 49 = .ok (.isub, 1) := by decide +kernel
theorem dX3_passDigits_50 : decode cX3_passDigits 50 = .ok (.putfield 38, 3) := by decide +kernel
theorem dX3_passDigits_53 : decode cX3_passDigits 53 = .ok (.aload_n 0, 1) := by decide +kernel
theorem dX3_passDigits_54 : decode cX3_passDigits 54 = .ok (.dup, 1) := by decide +kernel
theorem dX3_passDigits_55 : decode cX3_passDigits 55 = .ok (.getfield 35, 3) := by decide +kernel
theorem dX3_passDigits_58 : decode cX3_passDigits 58 = .ok (.iconst 1, 1) := by decide +kernel
theorem dX3_passDigits_59 : decode cX3_passDigits 59 = .ok (.iadd, 1) := by decide +kernel
theorem dX3_passDigits_60 : decode cX3_passDigits 60 = .ok (.putfield 35, 3) := by decide +kernel
theorem dX3_passDigits_63 : decode cX3_passDigits 63 = .ok (.goto (-58), 3) := by decide +kernel
theorem dX3_passDigits_66 : decode cX3_passDigits 66 = .ok (.return_, 1) := by decide +kernel
theorem dX3_isWord_0 : decode cX3_isWord 0 = .ok (.aload_n 0, 1) := by decide +kernel
theorem dX3_isWord_1 : decode cX3_isWord 1 = .ok (.getfield 29, 3) := by decide +kernel
theorem dX3_isWord_4 : decode cX3_isWord 4 = .ok (.iconst 1, 1) := by decide +kernel
theorem dX3_isWord_5 : decode cX3_isWord 5 = .ok (.if_icmp .ne 19, 3) := by decide +kernel
theorem dX3_isWord_8 : decode cX3_isWord 8 = .ok (.aload_n 0, 1) := by decide +kernel
theorem dX3_isWord_9 : decode cX3_isWord 9 = .ok (.getfield 35, 3) := by decide +kernel
theorem dX3_isWord_12 : decode cX3_isWord 12 = .ok (.aload_n 0, 1) := by decide +kernel
theorem dX3_isWord_13 : decode cX3_isWord 13 = .ok (.getfield 32, 3) := by decide +kernel
theorem dX3_isWord_16 : decode cX3_isWord 16 = .ok (.isub, 1) := by decide +kernel
theorem dX3_isWord_17 : decode cX3_isWord 17 = .ok (.aload_n 1, 1) := by decide +kernel
theorem dX3_isWord_18 : decode cX3_isWord 18 = .ok (.invokevirtual 89, 3) := by decide +kernel
theorem dX3_isWord_21 : decode cX3_isWord 21 = .ok (.if_icmp .eq 5, 3) := by decide +kernel
theorem dX3_isWord_24 : decode cX3_isWord 24 = .ok (.iconst 0, 1) := by decide +kernel
theorem dX3_isWord_25 : decode cX3_isWord 25 = .ok (.ireturn, 1) := by decide +kernel
theorem dX3_isWord_26 : decode cX3_isWord 26 = .ok (.iconst 0, 1) := by decide +kernel
theorem dX3_isWord_27 : decode cX3_isWord 27 = .ok (.istore_n 2, 1) := by decide +kernel
theorem dX3_isWord_28 : decode cX3_isWord 28 = .ok (.iload_n 2, 1) := by decide +kernel
theorem dX3_isWord_29 : decode cX3_isWord 29 = .ok (.aload_n 1, 1) := by decide +kernel
theorem dX3_isWord_30 : decode cX3_isWord 30 = .ok (.invokevirtual 89, 3) := by decide +kernel
theorem dX3_isWord_33 : decode cX3_isWord 33 = .ok (.if_icmp .ge 29, 3) := by decide +kernel
theorem dX3_isWord_36 : decode cX3_isWord 36 = .ok (.aload_n 0, 1) := by decide +kernel
theorem dX3_isWord_37 : decode cX3_isWord 37 = .ok (.aload_n 0, 1) := by decide +kernel
theorem dX3_isWord_38 : decode cX3_isWord 38 = .ok (.getfield 32, 3) := by decide +kernel
theorem dX3_isWord_41 : decode cX3_isWord 41 = .ok (.iload_n 2, 1) := by decide +kernel
theorem dX3_isWord_42 : decode cX3_isWord 42 = .ok (.iadd, 1) := by decide +kernel
theorem dX3_isWord_43 : decode cX3_isWord 43 = .ok (.invokevirtual 69, 3) := by decide +kernel
theorem dX3_isWord_46 : decode cX3_isWord 46 = .ok (.aload_n 1, 1) := by decide +kernel
theorem dX3_isWord_47 : decode cX3_isWord 47 = .ok (.iload_n 2, 1) := by decide +kernel
theorem dX3_isWord_48 : decode cX3_isWord 48 = .ok (.invokevirtual 94, 3) := by decide +kernel
theorem dX3_isWord_51 : decode cX3_isWord 51 = .ok (.if_icmp .eq 5, 3) := by decide +kernel
theorem dX3_isWord_54 : decode cX3_isWord 54 = .ok (.iconst 0, 1) := by decide +kernel
theorem dX3_isWord_55 : decode cX3_isWord 55 = .ok (.ireturn, 1) := by decide +kernel
theorem dX3_isWord_56 : decode cX3_isWord 56 = .ok (.iinc 2 1, 3) := by decide +kernel
theorem dX3_isWord_59 : decode cX3_isWord 59 = .ok (.goto (-31), 3) := by decide +kernel
theorem dX3_isWord_62 : decode cX3_isWord 62 = .ok (.iconst 1, 1) := by decide +kernel
theorem dX3_isWord_63 : decode cX3_isWord 63 = .ok (.ireturn, 1) := by decide +kernel
theorem dX3_passWord_0 : decode cX3_passWord 0 = .ok (.aload_n 0, 1) := by decide +kernel
theorem dX3_passWord_1 : decode cX3_passWord 1 = .ok (.aload_n 1, 1) := by decide +kernel
theorem dX3_passWord_2 : decode cX3_passWord 2 = .ok (.invokevirtual 98, 3) := by decide +kernel
theorem dX3_passWord_5 : decode cX3_passWord 5 = .ok (.ifCond .ne 9, 3) := by decide +kernel
theorem dX3_passWord_8 : decode cX3_passWord 8 = .ok (.aload_n 0, 1) := by decide +kernel
theorem dX3_passWord_9 : decode cX3_passWord 9 = .ok (.iconst 1, 1) := by decide +kernel
theorem dX3_passWord_10 : decode cX3_passWord 10 = .ok (.invokevirtual 102, 3) := by decide +kernel
theorem dX3_passWord_13 : decode cX3_passWord 13 = .ok (.ireturn, 1) := by decide +kernel
theorem dX3_passWord_14 : decode cX3_passWord 14 = .ok (.aload_n 0, 1) := by decide +kernel
theorem dX3_passWord_15 : decode cX3_passWord 15 = .ok (.invokevirtual 56, 3) := by decide +kernel
theorem dX3_passWord_18 : decode cX3_passWord 18 = .ok (.iconst 1, 1) := by decide +kernel
theorem dX3_passWord_19 : decode cX3_passWord 19 = .ok (.ireturn, 1) := by decide +kernel
theorem dX3_passSign_0 : decode cX3_passSign 0 = .ok (.aload_n 0, 1) := by decide +kernel
theorem dX3_passSign_1 : decode cX3_passSign 1 = .ok (.getfield 29, 3) := by decide +kernel
theorem dX3_passSign_4 : decode cX3_passSign 4 = .ok (.iconst 3, 1) := by decide +kernel
theorem dX3_passSign_5 : decode cX3_passSign 5 = .ok (.if_icmp .eq 9, 3) := by decide +kernel
theorem dX3_passSign_8 : decode cX3_passSign 8 = .ok (.aload_n 0, 1) := by decide +kernel
theorem dX3_passSign_9 : decode cX3_passSign 9 = .ok (.iconst 1, 1) := by decide +kernel
theorem dX3_passSign_10 : decode cX3_passSign 10 = .ok (.invokevirtual 102, 3) := by decide +kernel
theorem dX3_passSign_13 : decode cX3_passSign 13 = .ok (.ireturn, 1) := by decide +kernel
theorem dX3_passSign_14 : decode cX3_passSign 14 = .ok (.aload_n 0, 1) := by decide +kernel
theorem dX3_passSign_15 : decode cX3_passSign 15 = .ok (.invokevirtual 56, 3) := by decide +kernel
theorem dX3_passSign_18 : decode cX3_passSign 18 = .ok (.iconst 1, 1) := by decide +kernel
theorem dX3_passSign_19 : decode cX3_passSign 19 = .ok (.ireturn, 1) := by decide +kernel
theorem dX3_atNumber_0 : decode cX3_atNumber 0 = .ok (.aload_n 0, 1) := by decide +kernel
theorem dX3_atNumber_1 : decode cX3_atNumber 1 = .ok (.getfield 29, 3) := by decide +kernel
theorem dX3_atNumber_4 : decode cX3_atNumber 4 = .ok (.iconst 2, 1) := by decide +kernel
theorem dX3_atNumber_5 : decode cX3_atNumber 5 = .ok (.if_icmp .eq 9, 3) := by decide +kernel
theorem dX3_atNumber_8 : decode cX3_atNumber 8 = .ok (.aload_n 0, 1) := by decide +kernel
theorem dX3_atNumber_9 : decode cX3_atNumber 9 = .ok (.iconst 1, 1) := by decide +kernel
theorem dX3_atNumber_10 : decode cX3_atNumber 10 = .ok (.invokevirtual 102, 3) := by decide +kernel
theorem dX3_atNumber_13 : decode cX3_atNumber 13 = .ok (.ireturn, 1) := by decide +kernel
theorem dX3_atNumber_14 : decode cX3_atNumber 14 = .ok (.aload_n 0, 1) := by decide +kernel
theorem dX3_atNumber_15 : decode cX3_atNumber 15 = .ok (.getfield 35, 3) := by decide +kernel
theorem dX3_atNumber_18 : decode cX3_atNumber 18 = .ok (.aload_n 0, 1) := by decide +kernel
theorem dX3_atNumber_19 : decode cX3_atNumber 19 = .ok (.getfield 32, 3) := by decide +kernel
theorem dX3_atNumber_22 : decode cX3_atNumber 22 = .ok (.isub, 1) := by decide +kernel
theorem dX3_atNumber_23 : decode cX3_atNumber 23 = .ok (.iconst 3, 1) := by decide +kernel
theorem dX3_atNumber_24 : decode cX3_atNumber 24 = .ok (.if_icmp .le 11, 3) := by decide +kernel
theorem dX3_atNumber_27 : decode cX3_atNumber 27 = .ok (.aload_n 0, 1) := by decide +kernel
theorem dX3_atNumber_28 : decode cX3_atNumber 28 = .ok (.iconst 2, 1) := by decide +kernel
theorem dX3_atNumber_29 : decode cX3_atNumber 29 = .ok (.invokevirtual 102, 3) := by decide +kernel
theorem dX3_atNumber_32 : decode cX3_atNumber 32 = .ok (.ifCond .eq 7, 3) := by decide +kernel
theorem dX3_atNumber_35 : decode cX3_atNumber 35 = .ok (.iconst 1, 1) := by decide +kernel
theorem dX3_atNumber_36 : decode cX3_atNumber 36 = .ok (.goto 4, 3) := by decide +kernel
theorem dX3_atNumber_39 : decode cX3_atNumber 39 = .ok (.iconst 0, 1) := by decide +kernel
theorem dX3_atNumber_40 : decode cX3_atNumber 40 = .ok (.ireturn, 1) := by decide +kernel
theorem dX3_atNumberWithin_0 : decode cX3_atNumberWithin 0 = .ok (.aload_n 0, 1) := by decide +kernel
theorem dX3_atNumberWithin_1 : decode cX3_atNumberWithin 1 = .ok (.invokevirtual 105, 3) := by decide +kernel
theorem dX3_atNumberWithin_4 : decode cX3_atNumberWithin 4 = .ok (.ifCond .eq 31, 3) := by decide +kernel
theorem dX3_atNumberWithin_7 : decode cX3_atNumberWithin 7 = .ok (.aload_n 0, 1) := by decide +kernel
theorem dX3_atNumberWithin_8 : decode cX3_atNumberWithin 8 = .ok (.getfield 38, 3) := by decide +kernel
theorem dX3_atNumberWithin_11 : decode cX3_atNumberWithin 11 = .ok (.iload_n 1, 1) := by decide +kernel
theorem dX3_atNumberWithin_12 : decode cX3_atNumberWithin 12 = .ok (.if_icmp .lt 11, 3) := by decide +kernel
theorem dX3_atNumberWithin_15 : decode cX3_atNumberWithin 15 = .ok (.aload_n 0, 1) := by decide +kernel
theorem dX3_atNumberWithin_16 : decode cX3_atNumberWithin 16 = .ok (.getfield 38, 3) := by decide +kernel
theorem dX3_atNumberWithin_19 : decode cX3_atNumberWithin 19 = .ok (.iload_n 2, 1) := by decide +kernel
theorem dX3_atNumberWithin_20 : decode cX3_atNumberWithin 20 = .ok (.if_icmp .le 11, 3) := by decide +kernel
theorem dX3_atNumberWithin_23 : decode cX3_atNumberWithin 23 = .ok (.aload_n 0, 1) := by decide +kernel
theorem dX3_atNumberWithin_24 : decode cX3_atNumberWithin 24 = .ok (.iconst 2, 1) := by decide +kernel
theorem dX3_atNumberWithin_25 : decode cX3_atNumberWithin 25 = .ok (.invokevirtual 102, 3) := by decide +kernel
theorem dX3_atNumberWithin_28 : decode cX3_atNumberWithin 28 = .ok (.ifCond .eq 7, 3) := by decide +kernel
theorem dX3_atNumberWithin_31 : decode cX3_atNumberWithin 31 = .ok (.iconst 1, 1) := by decide +kernel
theorem dX3_atNumberWithin_32 : decode cX3_atNumberWithin 32 = .ok (.goto 4, 3) := by decide +kernel
theorem dX3_atNumberWithin_35 : decode cX3_atNumberWithin 35 = .ok (.iconst 0, 1) := by decide +kernel
theorem dX3_atNumberWithin_36 : decode cX3_atNumberWithin 36 = .ok (.ireturn, 1) := by decide +kernel
theorem dX3_readThings_0 : decode cX3_readThings 0 = .ok (.aload_n 0, 1) := by decide +kernel
theorem dX3_readThings_1 : decode cX3_readThings 1 = .ok (.ldc 108, 2) := by decide +kernel
theorem dX3_readThings_3 : decode cX3_readThings 3 = .ok (.invokevirtual 110, 3) := by decide +kernel
theorem dX3_readThings_6 : decode cX3_readThings 6 = .ok (.ifCond .eq 13, 3) := by decide +kernel
theorem dX3_readThings_9 : decode cX3_readThings 9 = .ok (.aload_n 0, 1) := by decide +kernel
theorem dX3_readThings_10 : decode cX3_readThings 10 = .ok (.iconst 2, 1) := by decide +kernel
theorem dX3_readThings_11 : decode cX3_readThings 11 = .ok (.bipush 9, 2) := by decide +kernel
theorem dX3_readThings_13 : decode cX3_readThings 13 = .ok (.invokevirtual 113, 3) := by decide +kernel
theorem dX3_readThings_16 : decode cX3_readThings 16 = .ok (.ifCond .ne 5, 3) := by decide +kernel
theorem dX3_readThings_19 : decode cX3_readThings 19 = .ok (.iconst 0, 1) := by decide +kernel
theorem dX3_readThings_20 : decode cX3_readThings 20 = .ok (.ireturn, 1) := by decide +kernel
theorem dX3_readThings_21 : decode cX3_readThings 21 = .ok (.aload_n 0, 1) := by decide +kernel
theorem dX3_readThings_22 : decode cX3_readThings 22 = .ok (.getfield 18, 3) := by decide +kernel
theorem dX3_readThings_25 : decode cX3_readThings 25 = .ok (.aload_n 0, 1) := by decide +kernel
theorem dX3_readThings_26 : decode cX3_readThings 26 = .ok (.getfield 38, 3) := by decide +kernel
theorem dX3_readThings_29 : decode cX3_readThings 29 = .ok (.putfield 117, 3) := by decide +kernel
theorem dX3_readThings_32 : decode cX3_readThings 32 = .ok (.aload_n 0, 1) := by decide +kernel
theorem dX3_readThings_33 : decode cX3_readThings 33 = .ok (.invokevirtual 56, 3) := by decide +kernel
theorem dX3_readThings_36 : decode cX3_readThings 36 = .ok (.aload_n 0, 1) := by decide +kernel
theorem dX3_readThings_37 : decode cX3_readThings 37 = .ok (.invokevirtual 66, 3) := by decide +kernel
theorem dX3_readThings_40 : decode cX3_readThings 40 = .ok (.ireturn, 1) := by decide +kernel
theorem dX3_readLine_0 : decode cX3_readLine 0 = .ok (.aload_n 0, 1) := by decide +kernel
theorem dX3_readLine_1 : decode cX3_readLine 1 = .ok (.ldc 119, 2) := by decide +kernel
theorem dX3_readLine_3 : decode cX3_readLine 3 = .ok (.invokevirtual 98, 3) := by decide +kernel
theorem dX3_readLine_6 : decode cX3_readLine 6 = .ok (.ifCond .eq 8, 3) := by decide +kernel
theorem dX3_readLine_9 : decode cX3_readLine 9 = .ok (.aload_n 0, 1) := by decide +kernel
theorem dX3_readLine_10 : decode cX3_readLine 10 = .ok (.invokevirtual 121, 3) := by decide +kernel
theorem dX3_readLine_13 : decode cX3_readLine 13 = .ok (.ireturn, 1) := by decide +kernel
theorem dX3_readLine_14 : decode cX3_readLine 14 = .ok (.aload_n 0, 1) := by decide +kernel
theorem dX3_readLine_15 : decode cX3_readLine 15 = .ok (.ldc 124, 2) := by decide +kernel
theorem dX3_readLine_17 : decode cX3_readLine 17 = .ok (.invokevirtual 98, 3) := by decide +kernel
theorem dX3_readLine_20 : decode cX3_readLine 20 = .ok (.ifCond .eq 12, 3) := by decide +kernel
theorem dX3_readLine_23 : decode cX3_readLine 23 = .ok (.aload_n 0, 1) := by decide +kernel
theorem dX3_readLine_24 : decode cX3_readLine 24 = .ok (.invokevirtual 56, 3) := by decide +kernel
theorem dX3_readLine_27 : decode cX3_readLine 27 = .ok (.aload_n 0, 1) := by decide +kernel
theorem dX3_readLine_28 : decode cX3_readLine 28 = .ok (.invokevirtual 126, 3) := by decide +kernel
theorem dX3_readLine_31 : decode cX3_readLine 31 = .ok (.ireturn, 1) := by decide +kernel
theorem dX3_readLine_32 : decode cX3_readLine 32 = .ok (.aload_n 0, 1) := by decide +kernel
theorem dX3_readLine_33 : decode cX3_readLine 33 = .ok (.ldc 129, 2) := by decide +kernel
theorem dX3_readLine_35 : decode cX3_readLine 35 = .ok (.invokevirtual 98, 3) := by decide +kernel
theorem dX3_readLine_38 : decode cX3_readLine 38 = .ok (.ifCond .eq 12, 3) := by decide +kernel
theorem dX3_readLine_41 : decode cX3_readLine 41 = .ok (.aload_n 0, 1) := by decide +kernel
theorem dX3_readLine_42 : decode cX3_readLine 42 = .ok (.invokevirtual 56, 3) := by decide +kernel
theorem dX3_readLine_45 : decode cX3_readLine 45 = .ok (.aload_n 0, 1) := by decide +kernel
theorem dX3_readLine_46 : decode cX3_readLine 46 = .ok (.invokevirtual 131, 3) := by decide +kernel
theorem dX3_readLine_49 : decode cX3_readLine 49 = .ok (.ireturn, 1) := by decide +kernel
theorem dX3_readLine_50 : decode cX3_readLine 50 = .ok (.aload_n 0, 1) := by decide +kernel
theorem dX3_readLine_51 : decode cX3_readLine 51 = .ok (.iconst 1, 1) := by decide +kernel
theorem dX3_readLine_52 : decode cX3_readLine 52 = .ok (.invokevirtual 102, 3) := by decide +kernel
theorem dX3_readLine_55 : decode cX3_readLine 55 = .ok (.ireturn, 1) := by decide +kernel
theorem dX3_readPerson_0 : decode cX3_readPerson 0 = .ok (.aload_n 0, 1) := by decide +kernel
theorem dX3_readPerson_1 : decode cX3_readPerson 1 = .ok (.getfield 18, 3) := by decide +kernel
theorem dX3_readPerson_4 : decode cX3_readPerson 4 = .ok (.getfield 134, 3) := by decide +kernel
theorem dX3_readPerson_7 : decode cX3_readPerson 7 = .ok (.bipush 8, 2) := by decide +kernel
theorem dX3_readPerson_9 : decode cX3_readPerson 9 = .ok (.if_icmp .lt 9, 3) := by decide +kernel
theorem dX3_readPerson_12 : decode cX3_readPerson 12 = .ok (.aload_n 0, 1) := by decide +kernel
theorem dX3_readPerson_13 : decode cX3_readPerson 13 = .ok (.iconst 2, 1) := by decide +kernel
theorem dX3_readPerson_14 : decode cX3_readPerson 14 = .ok (.invokevirtual 102, 3) := by decide +kernel
theorem dX3_readPerson_17 : decode cX3_readPerson 17 = .ok (.ireturn, 1) := by decide +kernel
theorem dX3_readPerson_18 : decode cX3_readPerson 18 = .ok (.aload_n 0, 1) := by decide +kernel
theorem dX3_readPerson_19 : decode cX3_readPerson 19 = .ok (.invokevirtual 56, 3) := by decide +kernel
theorem dX3_readPerson_22 : decode cX3_readPerson 22 = .ok (.aload_n 0, 1) := by decide +kernel
theorem dX3_readPerson_23 : decode cX3_readPerson 23 = .ok (.ldc 137, 2) := by decide +kernel
theorem dX3_readPerson_25 : decode cX3_readPerson 25 = .ok (.invokevirtual 110, 3) := by decide +kernel
theorem dX3_readPerson_28 : decode cX3_readPerson 28 = .ok (.ifCond .eq 13, 3) := by decide +kernel
theorem dX3_readPerson_31 : decode cX3_readPerson 31 = .ok (.aload_n 0, 1) := by decide +kernel
theorem dX3_readPerson_32 : decode cX3_readPerson 32 = .ok (.iconst 1, 1) := by decide +kernel
theorem dX3_readPerson_33 : decode cX3_readPerson 33 = .ok (.bipush 99, 2) := by decide +kernel
theorem dX3_readPerson_35 : decode cX3_readPerson 35 = .ok (.invokevirtual 113, 3) := by decide +kernel
theorem dX3_readPerson_38 : decode cX3_readPerson 38 = .ok (.ifCond .ne 5, 3) := by decide +kernel
theorem dX3_readPerson_41 : decode cX3_readPerson 41 = .ok (.iconst 0, 1) := by decide +kernel
theorem dX3_readPerson_42 : decode cX3_readPerson 42 = .ok (.ireturn, 1) := by decide +kernel
theorem dX3_readPerson_43 : decode cX3_readPerson 43 = .ok (.aload_n 0, 1) := by decide +kernel
theorem dX3_readPerson_44 : decode cX3_readPerson 44 = .ok (.getfield 18, 3) := by decide +kernel
theorem dX3_readPerson_47 : decode cX3_readPerson 47 = .ok (.getfield 134, 3) := by decide +kernel
theorem dX3_readPerson_50 : decode cX3_readPerson 50 = .ok (.istore_n 1, 1) := by decide +kernel
theorem dX3_readPerson_51 : decode cX3_readPerson 51 = .ok (.aload_n 0, 1) := by decide +kernel
theorem dX3_readPerson_52 : decode cX3_readPerson 52 = .ok (.getfield 18, 3) := by decide +kernel
theorem dX3_readPerson_55 : decode cX3_readPerson 55 = .ok (.dup, 1) := by decide +kernel
theorem dX3_readPerson_56 : decode cX3_readPerson 56 = .ok (.getfield 134, 3) := by decide +kernel
theorem dX3_readPerson_59 : decode cX3_readPerson 59 = .ok (.iconst 1, 1) := by decide +kernel
theorem dX3_readPerson_60 : decode cX3_readPerson 60 = .ok (.iadd, 1) := by decide +kernel
theorem dX3_readPerson_61 : decode cX3_readPerson 61 = .ok (.putfield 134, 3) := by decide +kernel
theorem dX3_readPerson_64 : decode cX3_readPerson 64 = .ok (.aload_n 0, 1) := by decide +kernel
theorem dX3_readPerson_65 : decode cX3_readPerson 65 = .ok (.getfield 18, 3) := by decide +kernel
theorem dX3_readPerson_68 : decode cX3_readPerson 68 = .ok (.getfield 139, 3) := by decide +kernel
theorem dX3_readPerson_71 : decode cX3_readPerson 71 = .ok (.iload_n 1, 1) := by decide +kernel
theorem dX3_readPerson_72 : decode cX3_readPerson 72 = .ok (.aload_n 0, 1) := by decide +kernel
theorem dX3_readPerson_73 : decode cX3_readPerson 73 = .ok (.getfield 38, 3) := by decide +kernel
theorem dX3_readPerson_76 : decode cX3_readPerson 76 = .ok (.iastore, 1) := by decide +kernel
theorem dX3_readPerson_77 : decode cX3_readPerson 77 = .ok (.aload_n 0, 1) := by decide +kernel
theorem dX3_readPerson_78 : decode cX3_readPerson 78 = .ok (.getfield 18, 3) := by decide +kernel
theorem dX3_readPerson_81 : decode cX3_readPerson 81 = .ok (.dup, 1) := by decide +kernel
theorem dX3_readPerson_82 : decode cX3_readPerson 82 = .ok (.getfield 143, 3) := by decide +kernel
theorem dX3_readPerson_85 : decode cX3_readPerson 85 = .ok (.aload_n 0, 1) := by decide +kernel
theorem dX3_readPerson_86 : decode cX3_readPerson 86 = .ok (.getfield 38, 3) := by decide +kernel
theorem dX3_readPerson_89 : decode cX3_readPerson 89 = .ok (.iadd, 1) := by decide +kernel
theorem dX3_readPerson_90 : decode cX3_readPerson 90 = .ok (.putfield 143, 3) := by decide +kernel
theorem dX3_readPerson_93 : decode cX3_readPerson 93 = .ok (.aload_n 0, 1) := by decide +kernel
theorem dX3_readPerson_94 : decode cX3_readPerson 94 = .ok (.invokevirtual 56, 3) := by decide +kernel
theorem dX3_readPerson_97 : decode cX3_readPerson 97 = .ok (.aload_n 0, 1) := by decide +kernel
theorem dX3_readPerson_98 : decode cX3_readPerson 98 = .ok (.ldc 146, 2) := by decide +kernel
theorem dX3_readPerson_100 : decode cX3_readPerson 100 = .ok (.invokevirtual 98, 3) := by decide +kernel
theorem dX3_readPerson_103 : decode cX3_readPerson 103 = .ok (.ifCond .eq 18, 3) := by decide +kernel
theorem dX3_readPerson_106 : decode cX3_readPerson 106 = .ok (.aload_n 0, 1) := by decide +kernel
theorem dX3_readPerson_107 : decode cX3_readPerson 107 = .ok (.getfield 18, 3) := by decide +kernel
theorem dX3_readPerson_110 : decode cX3_readPerson 110 = .ok (.dup, 1) := by decide +kernel
theorem dX3_readPerson_111 : decode cX3_readPerson 111 = .ok (.getfield 148, 3) := by decide +kernel
theorem dX3_readPerson_114 : decode cX3_readPerson 114 = .ok (.iconst 1, 1) := by decide +kernel
theorem dX3_readPerson_115 : decode cX3_readPerson 115 = .ok (.iload_n 1, 1) := by decide +kernel
theorem dX3_readPerson_116 : decode cX3_readPerson 116 = .ok (.ishl, 1) := by decide +kernel
theorem dX3_readPerson_117 : decode cX3_readPerson 117 = .ok (.ior, 1) := by decide +kernel
theorem dX3_readPerson_118 : decode cX3_readPerson 118 = .ok (.putfield 148, 3) := by decide +kernel
theorem dX3_readPerson_121 : decode cX3_readPerson 121 = .ok (.aload_n 0, 1) := by decide +kernel
theorem dX3_readPerson_122 : decode cX3_readPerson 122 = .ok (.iload_n 1, 1) := by decide +kernel
theorem dX3_readPerson_123 : decode cX3_readPerson 123 = .ok (.invokevirtual 151, 3) := by decide +kernel
theorem dX3_readPerson_126 : decode cX3_readPerson 126 = .ok (.ireturn, 1) := by decide +kernel
theorem dX3_readOrder_0 : decode cX3_readOrder 0 = .ok (.iconst 0, 1) := by decide +kernel
theorem dX3_readOrder_1 : decode cX3_readOrder 1 = .ok (.istore_n 2, 1) := by decide +kernel
theorem dX3_readOrder_2 : decode cX3_readOrder 2 = .ok (.iconst 0, 1) := by decide +kernel
theorem dX3_readOrder_3 : decode cX3_readOrder 3 = .ok (.istore_n 3, 1) := by decide +kernel
theorem dX3_readOrder_4 : decode cX3_readOrder 4 = .ok (.aload_n 0, 1) := by decide +kernel
theorem dX3_readOrder_5 : decode cX3_readOrder 5 = .ok (.ldc 146, 2) := by decide +kernel
theorem dX3_readOrder_7 : decode cX3_readOrder 7 = .ok (.invokevirtual 98, 3) := by decide +kernel
theorem dX3_readOrder_10 : decode cX3_readOrder 10 = .ok (.istore 4, 2) := by decide +kernel
theorem dX3_readOrder_12 : decode cX3_readOrder 12 = .ok (.iconst 0, 1) := by decide +kernel
theorem dX3_readOrder_13 : decode cX3_readOrder 13 = .ok (.istore 5, 2) := by decide +kernel
theorem dX3_readOrder_15 : decode cX3_readOrder 15 = .ok (.iload 5, 2) := by decide +kernel
theorem dX3_readOrder_17 : decode cX3_readOrder 17 = .ok (.bipush 9, 2) := by decide +kernel
theorem dX3_readOrder_19 : decode cX3_readOrder 19 = .ok (.if_icmp .gt 93, 3) := by decide +kernel
theorem dX3_readOrder_22 : decode cX3_readOrder 22 = .ok (.iload 4, 2) := by decide +kernel
theorem dX3_readOrder_24 : decode cX3_readOrder 24 = .ok (.ifCond .eq 88, 3) := by decide +kernel
theorem dX3_readOrder_27 : decode cX3_readOrder 27 = .ok (.aload_n 0, 1) := by decide +kernel
theorem dX3_readOrder_28 : decode cX3_readOrder 28 = .ok (.invokevirtual 56, 3) := by decide +kernel
theorem dX3_readOrder_31 : decode cX3_readOrder 31 = .ok (.aload_n 0, 1) := by decide +kernel
theorem dX3_readOrder_32 : decode cX3_readOrder 32 = .ok (.iload_n 2, 1) := by decide +kernel
theorem dX3_readOrder_33 : decode cX3_readOrder 33 = .ok (.invokevirtual 154, 3) := by decide +kernel
theorem dX3_readOrder_36 : decode cX3_readOrder 36 = .ok (.ifCond .ne 5, 3) := by decide +kernel
theorem dX3_readOrder_39 : decode cX3_readOrder 39 = .ok (.iconst 0, 1) := by decide +kernel
theorem dX3_readOrder_40 : decode cX3_readOrder 40 = .ok (.ireturn, 1) := by decide +kernel
theorem dX3_readOrder_41 : decode cX3_readOrder 41 = .ok (.aload_n 0, 1) := by decide +kernel
theorem dX3_readOrder_42 : decode cX3_readOrder 42 = .ok (.getfield 18, 3) := by decide +kernel
theorem dX3_readOrder_45 : decode cX3_readOrder 45 = .ok (.iload_n 1, 1) := by decide +kernel
theorem dX3_readOrder_46 : decode cX3_readOrder 46 = .ok (.aload_n 0, 1) := by decide +kernel
theorem dX3_readOrder_47 : decode cX3_readOrder 47 = .ok (.getfield 38, 3) := by decide +kernel
theorem dX3_readOrder_50 : decode cX3_readOrder 50 = .ok (.iload_n 3, 1) := by decide +kernel
theorem dX3_readOrder_51 : decode cX3_readOrder 51 = .ok (.invokevirtual 157, 3) := by decide +kernel
theorem dX3_readOrder_54 : decode cX3_readOrder 54 = .ok (.iload_n 2, 1) := by decide +kernel
theorem dX3_readOrder_55 : decode cX3_readOrder 55 = .ok (.iconst 1, 1) := by decide +kernel
theorem dX3_readOrder_56 : decode cX3_readOrder 56 = .ok (.aload_n 0, 1) := by decide +kernel
theorem dX3_readOrder_57 : decode cX3_readOrder 57 = .ok (.getfield 38, 3) := by decide +kernel
theorem dX3_readOrder_60 : decode cX3_readOrder 60 = .ok (.ishl, 1) := by decide +kernel
theorem dX3_readOrder_61 : decode cX3_readOrder 61 = .ok (.ior, 1) := by decide +kernel
theorem dX3_readOrder_62 : decode cX3_readOrder 62 = .ok (.istore_n 2, 1) := by decide +kernel
theorem dX3_readOrder_63 : decode cX3_readOrder 63 = .ok (.aload_n 0, 1) := by decide +kernel
theorem dX3_readOrder_64 : decode cX3_readOrder 64 = .ok (.invokevirtual 56, 3) := by decide +kernel
theorem dX3_readOrder_67 : decode cX3_readOrder 67 = .ok (.aload_n 0, 1) := by decide +kernel
theorem dX3_readOrder_68 : decode cX3_readOrder 68 = .ok (.ldc 161, 2) := by decide +kernel
theorem dX3_readOrder_70 : decode cX3_readOrder 70 = .ok (.invokevirtual 98, 3) := by decide +kernel
theorem dX3_readOrder_73 : decode cX3_readOrder 73 = .ok (.ifCond .eq 8, 3) := by decide +kernel
theorem dX3_readOrder_76 : decode cX3_readOrder 76 = .ok (.iload_n 2, 1) := by decide +kernel
theorem dX3_readOrder_77 : decode cX3_readOrder 77 = .ok (.invokestatic 163, 3) := by decide +kernel
theorem dX3_readOrder_80 : decode cX3_readOrder 80 = .ok (.istore_n 3, 1) := by decide +kernel
theorem dX3_readOrder_81 : decode cX3_readOrder 81 = .ok (.aload_n 0, 1) := by decide +kernel
theorem dX3_readOrder_82 : decode cX3_readOrder 82 = .ok (.ldc 161, 2) := by decide +kernel
theorem dX3_readOrder_84 : decode cX3_readOrder 84 = .ok (.invokevirtual 98, 3) := by decide +kernel
theorem dX3_readOrder_87 : decode cX3_readOrder 87 = .ok (.ifCond .ne 12, 3) := by decide +kernel
theorem dX3_readOrder_90 : decode cX3_readOrder 90 = .ok (.aload_n 0, 1) := by decide +kernel
theorem dX3_readOrder_91 : decode cX3_readOrder 91 = .ok (.ldc 168, 2) := by decide +kernel
theorem dX3_readOrder_93 : decode cX3_readOrder 93 = .ok (.invokevirtual 98, 3) := by decide +kernel
theorem dX3_readOrder_96 : decode cX3_readOrder 96 = .ok (.ifCond .eq 7, 3) := by decide +kernel
theorem dX3_readOrder_99 : decode cX3_readOrder 99 = .ok (.iconst 1, 1) := by decide +kernel
theorem dX3_readOrder_100 : decode cX3_readOrder 100 = .ok (.goto 4, 3) := by decide +kernel
theorem dX3_readOrder_103 : decode cX3_readOrder 103 = .ok (.iconst 0, 1) := by decide +kernel
theorem dX3_readOrder_104 : decode cX3_readOrder 104 = .ok (.istore 4, 2) := by decide +kernel
theorem dX3_readOrder_106 : decode cX3_readOrder 106 = .ok (.iinc 5 1, 3) := by decide +kernel
theorem dX3_readOrder_109 : decode cX3_readOrder 109 = .ok (.goto (-94), 3) := by decide +kernel
theorem dX3_readOrder_112 : decode cX3_readOrder 112 = .ok (.iconst 0, 1) := by decide +kernel
theorem dX3_readOrder_113 : decode cX3_readOrder 113 = .ok (.istore 5, 2) := by decide +kernel
theorem dX3_readOrder_115 : decode cX3_readOrder 115 = .ok (.iload 5, 2) := by decide +kernel
theorem dX3_readOrder_117 : decode cX3_readOrder 117 = .ok (.aload_n 0, 1) := by decide +kernel
theorem dX3_readOrder_118 : decode cX3_readOrder 118 = .ok (.getfield 18, 3) := by decide +kernel
theorem dX3_readOrder_121 : decode cX3_readOrder 121 = .ok (.getfield 117, 3) := by decide +kernel
theorem dX3_readOrder_124 : decode cX3_readOrder 124 = .ok (.if_icmp .ge 32, 3) := by decide +kernel
theorem dX3_readOrder_127 : decode cX3_readOrder 127 = .ok (.iload_n 2, 1) := by decide +kernel
theorem dX3_readOrder_128 : decode cX3_readOrder 128 = .ok (.iload 5, 2) := by decide +kernel
theorem dX3_readOrder_130 : decode cX3_readOrder 130 = .ok (.ishr, 1) := by decide +kernel
theorem dX3_readOrder_131 : decode cX3_readOrder 131 = .ok (.iconst 1, 1) := by decide +kernel
theorem dX3_readOrder_132 : decode cX3_readOrder 132 = .ok (.iand, 1) := by decide +kernel
theorem dX3_readOrder_133 : decode cX3_readOrder 133 = .ok (.ifCond .ne 17, 3) := by decide +kernel
theorem dX3_readOrder_136 : decode cX3_readOrder 136 = .ok (.aload_n 0, 1) := by decide +kernel
theorem dX3_readOrder_137 : decode cX3_readOrder 137 = .ok (.getfield 18, 3) := by decide +kernel
theorem dX3_readOrder_140 : decode cX3_readOrder 140 = .ok (.iload_n 1, 1) := by decide +kernel
theorem dX3_readOrder_141 : decode cX3_readOrder 141 = .ok (.iload 5, 2) := by decide +kernel
theorem dX3_readOrder_143 : decode cX3_readOrder 143 = .ok (.iload_n 2, 1) := by decide +kernel
theorem dX3_readOrder_144 : decode cX3_readOrder 144 = .ok (.invokestatic 163, 3) := by decide +kernel
theorem dX3_readOrder_147 : decode cX3_readOrder 147 = .ok (.invokevirtual 157, 3) := by decide +kernel
theorem dX3_readOrder_150 : decode cX3_readOrder 150 = .ok (.iinc 5 1, 3) := by decide +kernel
theorem dX3_readOrder_153 : decode cX3_readOrder 153 = .ok (.goto (-38), 3) := by decide +kernel
theorem dX3_readOrder_156 : decode cX3_readOrder 156 = .ok (.iconst 1, 1) := by decide +kernel
theorem dX3_readOrder_157 : decode cX3_readOrder 157 = .ok (.ireturn, 1) := by decide +kernel
theorem dX3_atNewThing_0 : decode cX3_atNewThing 0 = .ok (.aload_n 0, 1) := by decide +kernel
theorem dX3_atNewThing_1 : decode cX3_atNewThing 1 = .ok (.invokevirtual 105, 3) := by decide +kernel
theorem dX3_atNewThing_4 : decode cX3_atNewThing 4 = .ok (.ifCond .ne 5, 3) := by decide +kernel
theorem dX3_atNewThing_7 : decode cX3_atNewThing 7 = .ok (.iconst 0, 1) := by decide +kernel
theorem dX3_atNewThing_8 : decode cX3_atNewThing 8 = .ok (.ireturn, 1) := by decide +kernel
theorem dX3_atNewThing_9 : decode cX3_atNewThing 9 = .ok (.aload_n 0, 1) := by decide +kernel
theorem dX3_atNewThing_10 : decode cX3_atNewThing 10 = .ok (.getfield 38, 3) := by decide +kernel
theorem dX3_atNewThing_13 : decode cX3_atNewThing 13 = .ok (.aload_n 0, 1) := by decide +kernel
theorem dX3_atNewThing_14 : decode cX3_atNewThing 14 = .ok (.getfield 18, 3) := by decide +kernel
theorem dX3_atNewThing_17 : decode cX3_atNewThing 17 = .ok (.getfield 117, 3) := by decide +kernel
theorem dX3_atNewThing_20 : decode cX3_atNewThing 20 = .ok (.if_icmp .lt 9, 3) := by decide +kernel
theorem dX3_atNewThing_23 : decode cX3_atNewThing 23 = .ok (.aload_n 0, 1) := by decide +kernel
theorem dX3_atNewThing_24 : decode cX3_atNewThing 24 = .ok (.iconst 3, 1) := by decide +kernel
theorem dX3_atNewThing_25 : decode cX3_atNewThing 25 = .ok (.invokevirtual 102, 3) := by decide +kernel
theorem dX3_atNewThing_28 : decode cX3_atNewThing 28 = .ok (.ireturn, 1) := by decide +kernel
theorem dX3_atNewThing_29 : decode cX3_atNewThing 29 = .ok (.iload_n 1, 1) := by decide +kernel
theorem dX3_atNewThing_30 : decode cX3_atNewThing 30 = .ok (.aload_n 0, 1) := by decide +kernel
theorem dX3_atNewThing_31 : decode cX3_atNewThing 31 = .ok (.getfield 38, 3) := by decide +kernel
theorem dX3_atNewThing_34 : decode cX3_atNewThing 34 = .ok (.ishr, 1) := by decide +kernel
theorem dX3_atNewThing_35 : decode cX3_atNewThing 35 = .ok (.iconst 1, 1) := by decide +kernel
theorem dX3_atNewThing_36 : decode cX3_atNewThing 36 = .ok (.iand, 1) := by decide +kernel
theorem dX3_atNewThing_37 : decode cX3_atNewThing 37 = .ok (.ifCond .eq 11, 3) := by decide +kernel
theorem dX3_atNewThing_40 : decode cX3_atNewThing 40 = .ok (.aload_n 0, 1) := by decide +kernel
theorem dX3_atNewThing_41 : decode cX3_atNewThing 41 = .ok (.iconst 4, 1) := by decide +kernel
theorem dX3_atNewThing_42 : decode cX3_atNewThing 42 = .ok (.invokevirtual 102, 3) := by decide +kernel
theorem dX3_atNewThing_45 : decode cX3_atNewThing 45 = .ok (.ifCond .eq 7, 3) := by decide +kernel
theorem dX3_atNewThing_48 : decode cX3_atNewThing 48 = .ok (.iconst 1, 1) := by decide +kernel
theorem dX3_atNewThing_49 : decode cX3_atNewThing 49 = .ok (.goto 4, 3) := by decide +kernel
theorem dX3_atNewThing_52 : decode cX3_atNewThing 52 = .ok (.iconst 0, 1) := by decide +kernel
theorem dX3_atNewThing_53 : decode cX3_atNewThing 53 = .ok (.ireturn, 1) := by decide +kernel
theorem dX3_readLaw_0 : decode cX3_readLaw 0 = .ok (.aload_n 0, 1) := by decide +kernel
theorem dX3_readLaw_1 : decode cX3_readLaw 1 = .ok (.ldc 170, 2) := by decide +kernel
theorem dX3_readLaw_3 : decode cX3_readLaw 3 = .ok (.invokevirtual 98, 3) := by decide +kernel
theorem dX3_readLaw_6 : decode cX3_readLaw 6 = .ok (.ifCond .eq 17, 3) := by decide +kernel
theorem dX3_readLaw_9 : decode cX3_readLaw 9 = .ok (.aload_n 0, 1) := by decide +kernel
theorem dX3_readLaw_10 : decode cX3_readLaw 10 = .ok (.getfield 18, 3) := by decide +kernel
theorem dX3_readLaw_13 : decode cX3_readLaw 13 = .ok (.iconst 0, 1) := by decide +kernel
theorem dX3_readLaw_14 : decode cX3_readLaw 14 = .ok (.putfield 172, 3) := by decide +kernel
theorem dX3_readLaw_17 : decode cX3_readLaw 17 = .ok (.aload_n 0, 1) := by decide +kernel
theorem dX3_readLaw_18 : decode cX3_readLaw 18 = .ok (.invokevirtual 56, 3) := by decide +kernel
theorem dX3_readLaw_21 : decode cX3_readLaw 21 = .ok (.iconst 1, 1) := by decide +kernel
theorem dX3_readLaw_22 : decode cX3_readLaw 22 = .ok (.ireturn, 1) := by decide +kernel
theorem dX3_readLaw_23 : decode cX3_readLaw 23 = .ok (.aload_n 0, 1) := by decide +kernel
theorem dX3_readLaw_24 : decode cX3_readLaw 24 = .ok (.ldc 174, 2) := by decide +kernel
theorem dX3_readLaw_26 : decode cX3_readLaw 26 = .ok (.invokevirtual 98, 3) := by decide +kernel
theorem dX3_readLaw_29 : decode cX3_readLaw 29 = .ok (.ifCond .eq 12, 3) := by decide +kernel
theorem dX3_readLaw_32 : decode cX3_readLaw 32 = .ok (.aload_n 0, 1) := by decide +kernel
theorem dX3_readLaw_33 : decode cX3_readLaw 33 = .ok (.invokevirtual 56, 3) := by decide +kernel
theorem dX3_readLaw_36 : decode cX3_readLaw 36 = .ok (.aload_n 0, 1) := by decide +kernel
theorem dX3_readLaw_37 : decode cX3_readLaw 37 = .ok (.invokevirtual 176, 3) := by decide +kernel
theorem dX3_readLaw_40 : decode cX3_readLaw 40 = .ok (.ireturn, 1) := by decide +kernel
theorem dX3_readLaw_41 : decode cX3_readLaw 41 = .ok (.aload_n 0, 1) := by decide +kernel
theorem dX3_readLaw_42 : decode cX3_readLaw 42 = .ok (.ldc 179, 2) := by decide +kernel
theorem dX3_readLaw_44 : decode cX3_readLaw 44 = .ok (.invokevirtual 98, 3) := by decide +kernel
theorem dX3_readLaw_47 : decode cX3_readLaw 47 = .ok (.ifCond .eq 12, 3) := by decide +kernel
theorem dX3_readLaw_50 : decode cX3_readLaw 50 = .ok (.aload_n 0, 1) := by decide +kernel
theorem dX3_readLaw_51 : decode cX3_readLaw 51 = .ok (.invokevirtual 56, 3) := by decide +kernel
theorem dX3_readLaw_54 : decode cX3_readLaw 54 = .ok (.aload_n 0, 1) := by decide +kernel
theorem dX3_readLaw_55 : decode cX3_readLaw 55 = .ok (.invokevirtual 181, 3) := by decide +kernel
theorem dX3_readLaw_58 : decode cX3_readLaw 58 = .ok (.ireturn, 1) := by decide +kernel
theorem dX3_readLaw_59 : decode cX3_readLaw 59 = .ok (.aload_n 0, 1) := by decide +kernel
theorem dX3_readLaw_60 : decode cX3_readLaw 60 = .ok (.iconst 1, 1) := by decide +kernel
theorem dX3_readLaw_61 : decode cX3_readLaw 61 = .ok (.invokevirtual 102, 3) := by decide +kernel
theorem dX3_readLaw_64 : decode cX3_readLaw 64 = .ok (.ireturn, 1) := by decide +kernel
theorem dX3_readSteps_0 : decode cX3_readSteps 0 = .ok (.aload_n 0, 1) := by decide +kernel
theorem dX3_readSteps_1 : decode cX3_readSteps 1 = .ok (.iconst 1, 1) := by decide +kernel
theorem dX3_readSteps_2 : decode cX3_readSteps 2 = .ok (.sipush 999, 3) := by decide +kernel
theorem dX3_readSteps_5 : decode cX3_readSteps 5 = .ok (.invokevirtual 113, 3) := by decide +kernel
theorem dX3_readSteps_8 : decode cX3_readSteps 8 = .ok (.ifCond .ne 5, 3) := by decide +kernel
theorem dX3_readSteps_11 : decode cX3_readSteps 11 = .ok (.iconst 0, 1) := by decide +kernel
theorem dX3_readSteps_12 : decode cX3_readSteps 12 = .ok (.ireturn, 1) := by decide +kernel
theorem dX3_readSteps_13 : decode cX3_readSteps 13 = .ok (.aload_n 0, 1) := by decide +kernel
theorem dX3_readSteps_14 : decode cX3_readSteps 14 = .ok (.getfield 18, 3) := by decide +kernel
theorem dX3_readSteps_17 : decode cX3_readSteps 17 = .ok (.iconst 1, 1) := by decide +kernel
theorem dX3_readSteps_18 : decode cX3_readSteps 18 = .ok (.putfield 172, 3) := by decide +kernel
theorem dX3_readSteps_21 : decode cX3_readSteps 21 = .ok (.aload_n 0, 1) := by decide +kernel
theorem dX3_readSteps_22 : decode cX3_readSteps 22 = .ok (.getfield 18, 3) := by decide +kernel
theorem dX3_readSteps_25 : decode cX3_readSteps 25 = .ok (.aload_n 0, 1) := by decide +kernel
theorem dX3_readSteps_26 : decode cX3_readSteps 26 = .ok (.getfield 38, 3) := by decide +kernel
theorem dX3_readSteps_29 : decode cX3_readSteps 29 = .ok (.putfield 184, 3) := by decide +kernel
theorem dX3_readSteps_32 : decode cX3_readSteps 32 = .ok (.aload_n 0, 1) := by decide +kernel
theorem dX3_readSteps_33 : decode cX3_readSteps 33 = .ok (.invokevirtual 56, 3) := by decide +kernel
theorem dX3_readSteps_36 : decode cX3_readSteps 36 = .ok (.iconst 1, 1) := by decide +kernel
theorem dX3_readSteps_37 : decode cX3_readSteps 37 = .ok (.ireturn, 1) := by decide +kernel
theorem dX3_readTold_0 : decode cX3_readTold 0 = .ok (.aload_n 0, 1) := by decide +kernel
theorem dX3_readTold_1 : decode cX3_readTold 1 = .ok (.getfield 18, 3) := by decide +kernel
theorem dX3_readTold_4 : decode cX3_readTold 4 = .ok (.iconst 2, 1) := by decide +kernel
theorem dX3_readTold_5 : decode cX3_readTold 5 = .ok (.putfield 172, 3) := by decide +kernel
theorem dX3_readTold_8 : decode cX3_readTold 8 = .ok (.aload_n 0, 1) := by decide +kernel
theorem dX3_readTold_9 : decode cX3_readTold 9 = .ok (.getfield 18, 3) := by decide +kernel
theorem dX3_readTold_12 : decode cX3_readTold 12 = .ok (.iconst 0, 1) := by decide +kernel
theorem dX3_readTold_13 : decode cX3_readTold 13 = .ok (.putfield 187, 3) := by decide +kernel
theorem dX3_readTold_16 : decode cX3_readTold 16 = .ok (.iconst 0, 1) := by decide +kernel
theorem dX3_readTold_17 : decode cX3_readTold 17 = .ok (.istore_n 1, 1) := by decide +kernel
theorem dX3_readTold_18 : decode cX3_readTold 18 = .ok (.iload_n 1, 1) := by decide +kernel
theorem dX3_readTold_19 : decode cX3_readTold 19 = .ok (.bipush 8, 2) := by decide +kernel
theorem dX3_readTold_21 : decode cX3_readTold 21 = .ok (.if_icmp .gt 87, 3) := by decide +kernel
theorem dX3_readTold_24 : decode cX3_readTold 24 = .ok (.iload_n 1, 1) := by decide +kernel
theorem dX3_readTold_25 : decode cX3_readTold 25 = .ok (.ifCond .eq 11, 3) := by decide +kernel
theorem dX3_readTold_28 : decode cX3_readTold 28 = .ok (.aload_n 0, 1) := by decide +kernel
theorem dX3_readTold_29 : decode cX3_readTold 29 = .ok (.getfield 29, 3) := by decide +kernel
theorem dX3_readTold_32 : decode cX3_readTold 32 = .ok (.iconst 2, 1) := by decide +kernel
theorem dX3_readTold_33 : decode cX3_readTold 33 = .ok (.if_icmp .ne 75, 3) := by decide +kernel
theorem dX3_readTold_36 : decode cX3_readTold 36 = .ok (.aload_n 0, 1) := by decide +kernel
theorem dX3_readTold_37 : decode cX3_readTold 37 = .ok (.iconst 0, 1) := by decide +kernel
theorem dX3_readTold_38 : decode cX3_readTold 38 = .ok (.bipush 9, 2) := by decide +kernel
theorem dX3_readTold_40 : decode cX3_readTold 40 = .ok (.invokevirtual 113, 3) := by decide +kernel
theorem dX3_readTold_43 : decode cX3_readTold 43 = .ok (.ifCond .ne 5, 3) := by decide +kernel
theorem dX3_readTold_46 : decode cX3_readTold 46 = .ok (.iconst 0, 1) := by decide +kernel
theorem dX3_readTold_47 : decode cX3_readTold 47 = .ok (.ireturn, 1) := by decide +kernel
theorem dX3_readTold_48 : decode cX3_readTold 48 = .ok (.aload_n 0, 1) := by decide +kernel
theorem dX3_readTold_49 : decode cX3_readTold 49 = .ok (.getfield 18, 3) := by decide +kernel
theorem dX3_readTold_52 : decode cX3_readTold 52 = .ok (.getfield 187, 3) := by decide +kernel
theorem dX3_readTold_55 : decode cX3_readTold 55 = .ok (.bipush 8, 2) := by decide +kernel
theorem dX3_readTold_57 : decode cX3_readTold 57 = .ok (.if_icmp .lt 9, 3) := by decide +kernel
theorem dX3_readTold_60 : decode cX3_readTold 60 = .ok (.aload_n 0, 1) := by decide +kernel
theorem dX3_readTold_61 : decode cX3_readTold 61 = .ok (.iconst 2, 1) := by decide +kernel
theorem dX3_readTold_62 : decode cX3_readTold 62 = .ok (.invokevirtual 102, 3) := by decide +kernel
theorem dX3_readTold_65 : decode cX3_readTold 65 = .ok (.ireturn, 1) := by decide +kernel
theorem dX3_readTold_66 : decode cX3_readTold 66 = .ok (.aload_n 0, 1) := by decide +kernel
theorem dX3_readTold_67 : decode cX3_readTold 67 = .ok (.getfield 18, 3) := by decide +kernel
theorem dX3_readTold_70 : decode cX3_readTold 70 = .ok (.getfield 190, 3) := by decide +kernel
theorem dX3_readTold_73 : decode cX3_readTold 73 = .ok (.aload_n 0, 1) := by decide +kernel
theorem dX3_readTold_74 : decode cX3_readTold 74 = .ok (.getfield 18, 3) := by decide +kernel
theorem dX3_readTold_77 : decode cX3_readTold 77 = .ok (.getfield 187, 3) := by decide +kernel
theorem dX3_readTold_80 : decode cX3_readTold 80 = .ok (.aload_n 0, 1) := by decide +kernel
theorem dX3_readTold_81 : decode cX3_readTold 81 = .ok (.getfield 38, 3) := by decide +kernel
theorem dX3_readTold_84 : decode cX3_readTold 84 = .ok (.iastore, 1) := by decide +kernel
theorem dX3_readTold_85 : decode cX3_readTold 85 = .ok (.aload_n 0, 1) := by decide +kernel
theorem dX3_readTold_86 : decode cX3_readTold 86 = .ok (.getfield 18, 3) := by decide +kernel
theorem dX3_readTold_89 : decode cX3_readTold 89 = .ok (.dup, 1) := by decide +kernel
theorem dX3_readTold_90 : decode cX3_readTold 90 = .ok (.getfield 187, 3) := by decide +kernel
theorem dX3_readTold_93 : decode cX3_readTold 93 = .ok (.iconst 1, 1) := by decide +kernel
theorem dX3_readTold_94 : decode cX3_readTold 94 = .ok (.iadd, 1) := by decide +kernel
theorem dX3_readTold_95 : decode cX3_readTold 95 = .ok (.putfield 187, 3) := by decide +kernel
theorem dX3_readTold_98 : decode cX3_readTold 98 = .ok (.aload_n 0, 1) := by decide +kernel
theorem dX3_readTold_99 : decode cX3_readTold 99 = .ok (.invokevirtual 56, 3) := by decide +kernel
theorem dX3_readTold_102 : decode cX3_readTold 102 = .ok (.iinc 1 1, 3) := by decide +kernel
theorem dX3_readTold_105 : decode cX3_readTold 105 = .ok (.goto (-87), 3) := by decide +kernel
theorem dX3_readTold_108 : decode cX3_readTold 108 = .ok (.iconst 1, 1) := by decide +kernel
theorem dX3_readTold_109 : decode cX3_readTold 109 = .ok (.ireturn, 1) := by decide +kernel
theorem dX3_readTurns_0 : decode cX3_readTurns 0 = .ok (.aload_n 0, 1) := by decide +kernel
theorem dX3_readTurns_1 : decode cX3_readTurns 1 = .ok (.getfield 18, 3) := by decide +kernel
theorem dX3_readTurns_4 : decode cX3_readTurns 4 = .ok (.iconst 0, 1) := by decide +kernel
theorem dX3_readTurns_5 : decode cX3_readTurns 5 = .ok (.putfield 192, 3) := by decide +kernel
theorem dX3_readTurns_8 : decode cX3_readTurns 8 = .ok (.iconst 0, 1) := by decide +kernel
theorem dX3_readTurns_9 : decode cX3_readTurns 9 = .ok (.istore_n 1, 1) := by decide +kernel
theorem dX3_readTurns_10 : decode cX3_readTurns 10 = .ok (.iload_n 1, 1) := by decide +kernel
theorem dX3_readTurns_11 : decode cX3_readTurns 11 = .ok (.bipush 8, 2) := by decide +kernel
theorem dX3_readTurns_13 : decode cX3_readTurns 13 = .ok (.if_icmp .gt 111, 3) := by decide +kernel
theorem dX3_readTurns_16 : decode cX3_readTurns 16 = .ok (.iload_n 1, 1) := by decide +kernel
theorem dX3_readTurns_17 : decode cX3_readTurns 17 = .ok (.ifCond .eq 11, 3) := by decide +kernel
theorem dX3_readTurns_20 : decode cX3_readTurns 20 = .ok (.aload_n 0, 1) := by decide +kernel
theorem dX3_readTurns_21 : decode cX3_readTurns 21 = .ok (.getfield 29, 3) := by decide +kernel
theorem dX3_readTurns_24 : decode cX3_readTurns 24 = .ok (.iconst 2, 1) := by decide +kernel
theorem dX3_readTurns_25 : decode cX3_readTurns 25 = .ok (.if_icmp .ne 99, 3) := by decide +kernel
theorem dX3_readTurns_28 : decode cX3_readTurns 28 = .ok (.aload_n 0, 1) := by decide +kernel
theorem dX3_readTurns_29 : decode cX3_readTurns 29 = .ok (.invokevirtual 105, 3) := by decide +kernel
theorem dX3_readTurns_32 : decode cX3_readTurns 32 = .ok (.ifCond .ne 5, 3) := by decide +kernel
theorem dX3_readTurns_35 : decode cX3_readTurns 35 = .ok (.iconst 0, 1) := by decide +kernel
theorem dX3_readTurns_36 : decode cX3_readTurns 36 = .ok (.ireturn, 1) := by decide +kernel
theorem dX3_readTurns_37 : decode cX3_readTurns 37 = .ok (.aload_n 0, 1) := by decide +kernel
theorem dX3_readTurns_38 : decode cX3_readTurns 38 = .ok (.getfield 18, 3) := by decide +kernel
theorem dX3_readTurns_41 : decode cX3_readTurns 41 = .ok (.getfield 192, 3) := by decide +kernel
theorem dX3_readTurns_44 : decode cX3_readTurns 44 = .ok (.aload_n 0, 1) := by decide +kernel
theorem dX3_readTurns_45 : decode cX3_readTurns 45 = .ok (.getfield 18, 3) := by decide +kernel
theorem dX3_readTurns_48 : decode cX3_readTurns 48 = .ok (.getfield 117, 3) := by decide +kernel
theorem dX3_readTurns_51 : decode cX3_readTurns 51 = .ok (.iconst 1, 1) := by decide +kernel
theorem dX3_readTurns_52 : decode cX3_readTurns 52 = .ok (.isub, 1) := by decide +kernel
theorem dX3_readTurns_53 : decode cX3_readTurns 53 = .ok (.if_icmp .lt 9, 3) := by decide +kernel
theorem dX3_readTurns_56 : decode cX3_readTurns 56 = .ok (.aload_n 0, 1) := by decide +kernel
theorem dX3_readTurns_57 : decode cX3_readTurns 57 = .ok (.iconst 2, 1) := by decide +kernel
theorem dX3_readTurns_58 : decode cX3_readTurns 58 = .ok (.invokevirtual 102, 3) := by decide +kernel
theorem dX3_readTurns_61 : decode cX3_readTurns 61 = .ok (.ireturn, 1) := by decide +kernel
theorem dX3_readTurns_62 : decode cX3_readTurns 62 = .ok (.aload_n 0, 1) := by decide +kernel
theorem dX3_readTurns_63 : decode cX3_readTurns 63 = .ok (.getfield 38, 3) := by decide +kernel
theorem dX3_readTurns_66 : decode cX3_readTurns 66 = .ok (.aload_n 0, 1) := by decide +kernel
theorem dX3_readTurns_67 : decode cX3_readTurns 67 = .ok (.getfield 18, 3) := by decide +kernel
theorem dX3_readTurns_70 : decode cX3_readTurns 70 = .ok (.getfield 134, 3) := by decide +kernel
theorem dX3_readTurns_73 : decode cX3_readTurns 73 = .ok (.if_icmp .lt 9, 3) := by decide +kernel
theorem dX3_readTurns_76 : decode cX3_readTurns 76 = .ok (.aload_n 0, 1) := by decide +kernel
theorem dX3_readTurns_77 : decode cX3_readTurns 77 = .ok (.iconst 3, 1) := by decide +kernel
theorem dX3_readTurns_78 : decode cX3_readTurns 78 = .ok (.invokevirtual 102, 3) := by decide +kernel
theorem dX3_readTurns_81 : decode cX3_readTurns 81 = .ok (.ireturn, 1) := by decide +kernel
theorem dX3_readTurns_82 : decode cX3_readTurns 82 = .ok (.aload_n 0, 1) := by decide +kernel
theorem dX3_readTurns_83 : decode cX3_readTurns 83 = .ok (.getfield 18, 3) := by decide +kernel
theorem dX3_readTurns_86 : decode cX3_readTurns 86 = .ok (.getfield 195, 3) := by decide +kernel
theorem dX3_readTurns_89 : decode cX3_readTurns 89 = .ok (.aload_n 0, 1) := by decide +kernel
theorem dX3_readTurns_90 : decode cX3_readTurns 90 = .ok (.getfield 18, 3) := by decide +kernel
theorem dX3_readTurns_93 : decode cX3_readTurns 93 = .ok (.getfield 192, 3) := by decide +kernel
theorem dX3_readTurns_96 : decode cX3_readTurns 96 = .ok (.aload_n 0, 1) := by decide +kernel
theorem dX3_readTurns_97 : decode cX3_readTurns 97 = .ok (.getfield 38, 3) := by decide +kernel
theorem dX3_readTurns_100 : decode cX3_readTurns 100 = .ok (.iastore, 1) := by decide +kernel
theorem dX3_readTurns_101 : decode cX3_readTurns 101 = .ok (.aload_n 0, 1) := by decide +kernel
theorem dX3_readTurns_102 : decode cX3_readTurns 102 = .ok (.getfield 18, 3) := by decide +kernel
theorem dX3_readTurns_105 : decode cX3_readTurns 105 = .ok (.dup, 1) := by decide +kernel
theorem dX3_readTurns_106 : decode cX3_readTurns 106 = .ok (.getfield 192, 3) := by decide +kernel
theorem dX3_readTurns_109 : decode cX3_readTurns 109 = .ok (.iconst 1, 1) := by decide +kernel
theorem dX3_readTurns_110 : decode cX3_readTurns 110 = .ok (.iadd, 1) := by decide +kernel
theorem dX3_readTurns_111 : decode cX3_readTurns 111 = .ok (.putfield 192, 3) := by decide +kernel
theorem dX3_readTurns_114 : decode cX3_readTurns 114 = .ok (.aload_n 0, 1) := by decide +kernel
theorem dX3_readTurns_115 : decode cX3_readTurns 115 = .ok (.invokevirtual 56, 3) := by decide +kernel
theorem dX3_readTurns_118 : decode cX3_readTurns 118 = .ok (.iinc 1 1, 3) := by decide +kernel
theorem dX3_readTurns_121 : decode cX3_readTurns 121 = .ok (.goto (-111), 3) := by decide +kernel
theorem dX3_readTurns_124 : decode cX3_readTurns 124 = .ok (.iconst 1, 1) := by decide +kernel
theorem dX3_readTurns_125 : decode cX3_readTurns 125 = .ok (.ireturn, 1) := by decide +kernel
theorem dX4_init_0 : decode cX4_init 0 = .ok (.aload_n 0, 1) := by decide +kernel
theorem dX4_init_1 : decode cX4_init 1 = .ok (.invokespecial 3, 3) := by decide +kernel
theorem dX4_init_4 : decode cX4_init 4 = .ok (.aload_n 0, 1) := by decide +kernel
theorem dX4_init_5 : decode cX4_init 5 = .ok (.sipush 256, 3) := by decide +kernel
theorem dX4_init_8 : decode cX4_init 8 = .ok (.newarray .int, 2) := by decide +kernel
theorem dX4_init_10 : decode cX4_init 10 = .ok (.putfield 9, 3) := by decide +kernel
theorem dX4_init_13 : decode cX4_init 13 = .ok (.aload_n 0, 1) := by decide +kernel
theorem dX4_init_14 : decode cX4_init 14 = .ok (.sipush 256, 3) := by decide +kernel
theorem dX4_init_17 : decode cX4_init 17 = .ok (.newarray .int, 2) := by decide +kernel
theorem dX4_init_19 : decode cX4_init 19 = .ok (.putfield 15, 3) := by decide +kernel
theorem dX4_init_22 : decode cX4_init 22 = .ok (.return_, 1) := by decide +kernel
theorem dX4_coreOf_0 : decode cX4_coreOf 0 = .ok (.aload_n 0, 1) := by decide +kernel
theorem dX4_coreOf_1 : decode cX4_coreOf 1 = .ok (.aload_n 1, 1) := by decide +kernel
theorem dX4_coreOf_2 : decode cX4_coreOf 2 = .ok (.invokevirtual 18, 3) := by decide +kernel
theorem dX4_coreOf_5 : decode cX4_coreOf 5 = .ok (.aload_n 0, 1) := by decide +kernel
theorem dX4_coreOf_6 : decode cX4_coreOf 6 = .ok (.aload_n 1, 1) := by decide +kernel
theorem dX4_coreOf_7 : decode cX4_coreOf 7 = .ok (.invokevirtual 22, 3) := by decide +kernel
theorem dX4_coreOf_10 : decode cX4_coreOf 10 = .ok (.ireturn, 1) := by decide +kernel
theorem dX4_weigh_0 : decode cX4_weigh 0 = .ok (.iconst 1, 1) := by decide +kernel
theorem dX4_weigh_1 : decode cX4_weigh 1 = .ok (.aload_n 1, 1) := by decide +kernel
theorem dX4_weigh_2 : decode cX4_weigh 2 = .ok (.getfield 26, 3) := by decide +kernel
theorem dX4_weigh_5 : decode cX4_weigh 5 = .ok (.ishl, 1) := by decide +kernel
theorem dX4_weigh_6 : decode cX4_weigh 6 = .ok (.aload_n 0, 1) := by decide +kernel
theorem dX4_weigh_7 : decode cX4_weigh 7 = .ok (.getfield 9, 3) := by decide +kernel
theorem dX4_weigh_10 : decode cX4_weigh 10 = .ok (.arraylength, 1) := by decide +kernel
theorem dX4_weigh_11 : decode cX4_weigh 11 = .ok (.invokestatic 32, 3) := by decide +kernel
theorem dX4_weigh_14 : decode cX4_weigh 14 = .ok (.istore_n 2, 1) := by decide +kernel
theorem dX4_weigh_15 : decode cX4_weigh 15 = .ok (.iconst 0, 1) := by decide +kernel
theorem dX4_weigh_16 : decode cX4_weigh 16 = .ok (.istore_n 3, 1) := by decide +kernel
theorem dX4_weigh_17 : decode cX4_weigh 17 = .ok (.iload_n 3, 1) := by decide +kernel
theorem dX4_weigh_18 : decode cX4_weigh 18 = .ok (.iload_n 2, 1) := by decide +kernel
theorem dX4_weigh_19 : decode cX4_weigh 19 = .ok (.if_icmp .ge 20, 3) := by decide +kernel
theorem dX4_weigh_22 : decode cX4_weigh 22 = .ok (.aload_n 0, 1) := by decide +kernel
theorem dX4_weigh_23 : decode cX4_weigh 23 = .ok (.getfield 9, 3) := by decide +kernel
theorem dX4_weigh_26 : decode cX4_weigh 26 = .ok (.iload_n 3, 1) := by decide +kernel
theorem dX4_weigh_27 : decode cX4_weigh 27 = .ok (.aload_n 1, 1) := by decide +kernel
theorem dX4_weigh_28 : decode cX4_weigh 28 = .ok (.iload_n 3, 1) := by decide +kernel
theorem dX4_weigh_29 : decode cX4_weigh 29 = .ok (.invokevirtual 38, 3) := by decide +kernel
theorem dX4_weigh_32 : decode cX4_weigh 32 = .ok (.iastore, 1) := by decide +kernel
theorem dX4_weigh_33 : decode cX4_weigh 33 = .ok (.iinc 3 1, 3) := by decide +kernel
theorem dX4_weigh_36 : decode cX4_weigh 36 = .ok (.goto (-19), 3) := by decide +kernel
theorem dX4_weigh_39 : decode cX4_weigh 39 = .ok (.return_, 1) := by decide +kernel
theorem dX4_coreAsWeighed_0 : decode cX4_coreAsWeighed 0 = .ok (.iconst 0, 1) := by decide +kernel
theorem dX4_coreAsWeighed_1 : decode cX4_coreAsWeighed 1 = .ok (.istore_n 2, 1) := by decide +kernel
theorem dX4_coreAsWeighed_2 : decode cX4_coreAsWeighed 2 = .ok (.iconst 0, 1) := by decide +kernel
theorem dX4_coreAsWeighed_3 : decode cX4_coreAsWeighed 3 = .ok (.istore_n 3, 1) := by decide +kernel
theorem dX4_coreAsWeighed_4 : decode cX4_coreAsWeighed 4 = .ok (.iload_n 3, 1) := by decide +kernel
theorem dX4_coreAsWeighed_5 : decode cX4_coreAsWeighed 5 = .ok (.aload_n 1, 1) := by decide +kernel
theorem dX4_coreAsWeighed_6 : decode cX4_coreAsWeighed 6 = .ok (.getfield 42, 3) := by decide +kernel
theorem dX4_coreAsWeighed_9 : decode cX4_coreAsWeighed 9 = .ok (.if_icmp .ge 25, 3) := by decide +kernel
theorem dX4_coreAsWeighed_12 : decode cX4_coreAsWeighed 12 = .ok (.aload_n 0, 1) := by decide +kernel
theorem dX4_coreAsWeighed_13 : decode cX4_coreAsWeighed 13 = .ok (.aload_n 1, 1) := by decide +kernel
theorem dX4_coreAsWeighed_14 : decode cX4_coreAsWeighed 14 = .ok (.iload_n 3, 1) := by decide +kernel
theorem dX4_coreAsWeighed_15 : decode cX4_coreAsWeighed 15 = .ok (.iconst 1, 1) := by decide +kernel
theorem dX4_coreAsWeighed_16 : decode cX4_coreAsWeighed 16 = .ok (.invokevirtual 45, 3) := by decide +kernel
theorem dX4_coreAsWeighed_19 : decode cX4_coreAsWeighed 19 = .ok (.ifCond .ne 9, 3) := by decide +kernel
theorem dX4_coreAsWeighed_22 : decode cX4_coreAsWeighed 22 = .ok (.iload_n 2, 1) := by decide +kernel
theorem dX4_coreAsWeighed_23 : decode cX4_coreAsWeighed 23 = .ok (.iconst 1, 1) := by decide +kernel
theorem dX4_coreAsWeighed_24 : decode cX4_coreAsWeighed 24 = .ok (.iload_n 3, 1) := by decide +kernel
theorem dX4_coreAsWeighed_25 : decode cX4_coreAsWeighed 25 = .ok (.ishl, 1) := by decide +kernel
theorem dX4_coreAsWeighed_26 : decode cX4_coreAsWeighed 26 = .ok (.ior, 1) := by decide +kernel
theorem dX4_coreAsWeighed_27 : decode cX4_coreAsWeighed 27 = .ok (.istore_n 2, 1) := by decide +kernel
theorem dX4_coreAsWeighed_28 : decode cX4_coreAsWeighed 28 = .ok (.iinc 3 1, 3) := by decide +kernel
theorem dX4_coreAsWeighed_31 : decode cX4_coreAsWeighed 31 = .ok (.goto (-27), 3) := by decide +kernel
theorem dX4_coreAsWeighed_34 : decode cX4_coreAsWeighed 34 = .ok (.iload_n 2, 1) := by decide +kernel
theorem dX4_coreAsWeighed_35 : decode cX4_coreAsWeighed 35 = .ok (.ireturn, 1) := by decide +kernel
theorem dX4_strikerOf_0 : decode cX4_strikerOf 0 = .ok (.iconst 0, 1) := by decide +kernel
theorem dX4_strikerOf_1 : decode cX4_strikerOf 1 = .ok (.istore 4, 2) := by decide +kernel
theorem dX4_strikerOf_3 : decode cX4_strikerOf 3 = .ok (.aload_n 0, 1) := by decide +kernel
theorem dX4_strikerOf_4 : decode cX4_strikerOf 4 = .ok (.getfield 15, 3) := by decide +kernel
theorem dX4_strikerOf_7 : decode cX4_strikerOf 7 = .ok (.iconst 0, 1) := by decide +kernel
theorem dX4_strikerOf_8 : decode cX4_strikerOf 8 = .ok (.aload_n 1, 1) := by decide +kernel
theorem dX4_strikerOf_9 : decode cX4_strikerOf 9 = .ok (.invokevirtual 49, 3) := by decide +kernel
theorem dX4_strikerOf_12 : decode cX4_strikerOf 12 = .ok (.iastore, 1) := by decide +kernel
theorem dX4_strikerOf_13 : decode cX4_strikerOf 13 = .ok (.iconst 1, 1) := by decide +kernel
theorem dX4_strikerOf_14 : decode cX4_strikerOf 14 = .ok (.istore 5, 2) := by decide +kernel
theorem dX4_strikerOf_16 : decode cX4_strikerOf 16 = .ok (.iconst 0, 1) := by decide +kernel
theorem dX4_strikerOf_17 : decode cX4_strikerOf 17 = .ok (.istore 6, 2) := by decide +kernel
theorem dX4_strikerOf_19 : decode cX4_strikerOf 19 = .ok (.iload 6, 2) := by decide +kernel
theorem dX4_strikerOf_21 : decode cX4_strikerOf 21 = .ok (.aload_n 1, 1) := by decide +kernel
theorem dX4_strikerOf_22 : decode cX4_strikerOf 22 = .ok (.getfield 26, 3) := by decide +kernel
theorem dX4_strikerOf_25 : decode cX4_strikerOf 25 = .ok (.if_icmp .ge 126, 3) := by decide +kernel
theorem dX4_strikerOf_28 : decode cX4_strikerOf 28 = .ok (.iload 5, 2) := by decide +kernel
theorem dX4_strikerOf_30 : decode cX4_strikerOf 30 = .ok (.aload_n 0, 1) := by decide +kernel
theorem dX4_strikerOf_31 : decode cX4_strikerOf 31 = .ok (.getfield 15, 3) := by decide +kernel
theorem dX4_strikerOf_34 : decode cX4_strikerOf 34 = .ok (.arraylength, 1) := by decide +kernel
theorem dX4_strikerOf_35 : decode cX4_strikerOf 35 = .ok (.if_icmp .ge 116, 3) := by decide +kernel
theorem dX4_strikerOf_38 : decode cX4_strikerOf 38 = .ok (.aload_n 1, 1) := by decide +kernel
theorem dX4_strikerOf_39 : decode cX4_strikerOf 39 = .ok (.iload 6, 2) := by decide +kernel
theorem dX4_strikerOf_41 : decode cX4_strikerOf 41 = .ok (.iload_n 2, 1) := by decide +kernel
theorem dX4_strikerOf_42 : decode cX4_strikerOf 42 = .ok (.invokevirtual 53, 3) := by decide +kernel
theorem dX4_strikerOf_45 : decode cX4_strikerOf 45 = .ok (.istore 7, 2) := by decide +kernel
theorem dX4_strikerOf_47 : decode cX4_strikerOf 47 = .ok (.iconst 0, 1) := by decide +kernel
theorem dX4_strikerOf_48 : decode cX4_strikerOf 48 = .ok (.istore 8, 2) := by decide +kernel
theorem dX4_strikerOf_50 : decode cX4_strikerOf 50 = .ok (.iload 8, 2) := by decide +kernel
theorem dX4_strikerOf_52 : decode cX4_strikerOf 52 = .ok (.iload 5, 2) := by decide +kernel
theorem dX4_strikerOf_54 : decode cX4_strikerOf 54 = .ok (.if_icmp .ge 84, 3) := by decide +kernel
theorem dX4_strikerOf_57 : decode cX4_strikerOf 57 = .ok (.iload 5, 2) := by decide +kernel
theorem dX4_strikerOf_59 : decode cX4_strikerOf 59 = .ok (.iload 8, 2) := by decide +kernel
theorem dX4_strikerOf_61 : decode cX4_strikerOf 61 = .ok (.iadd, 1) := by decide +kernel
theorem dX4_strikerOf_62 : decode cX4_strikerOf 62 = .ok (.istore 9, 2) := by decide +kernel
theorem dX4_strikerOf_64 : decode cX4_strikerOf 64 = .ok (.aload_n 0, 1) := by decide +kernel
theorem dX4_strikerOf_65 : decode cX4_strikerOf 65 = .ok (.getfield 15, 3) := by decide +kernel
theorem dX4_strikerOf_68 : decode cX4_strikerOf 68 = .ok (.iload 9, 2) := by decide +kernel
theorem dX4_strikerOf_70 : decode cX4_strikerOf 70 = .ok (.aload_n 0, 1) := by decide +kernel
theorem dX4_strikerOf_71 : decode cX4_strikerOf 71 = .ok (.getfield 15, 3) := by decide +kernel
theorem dX4_strikerOf_74 : decode cX4_strikerOf 74 = .ok (.iload 8, 2) := by decide +kernel
theorem dX4_strikerOf_76 : decode cX4_strikerOf 76 = .ok (.iaload, 1) := by decide +kernel
theorem dX4_strikerOf_77 : decode cX4_strikerOf 77 = .ok (.iload 7, 2) := by decide +kernel
theorem dX4_strikerOf_79 : decode cX4_strikerOf 79 = .ok (.iand, 1) := by decide +kernel
theorem dX4_strikerOf_80 : decode cX4_strikerOf 80 = .ok (.iastore, 1) := by decide +kernel
theorem dX4_strikerOf_81 : decode cX4_strikerOf 81 = .ok (.aload_n 0, 1) := by decide +kernel
theorem dX4_strikerOf_82 : decode cX4_strikerOf 82 = .ok (.getfield 15, 3) := by decide +kernel
theorem dX4_strikerOf_85 : decode cX4_strikerOf 85 = .ok (.iload 9, 2) := by decide +kernel
theorem dX4_strikerOf_87 : decode cX4_strikerOf 87 = .ok (.iaload, 1) := by decide +kernel
theorem dX4_strikerOf_88 : decode cX4_strikerOf 88 = .ok (.invokestatic 56, 3) := by decide +kernel
theorem dX4_strikerOf_91 : decode cX4_strikerOf 91 = .ok (.aload_n 1, 1) := by decide +kernel
theorem dX4_strikerOf_92 : decode cX4_strikerOf 92 = .ok (.getfield 42, 3) := by decide +kernel
theorem dX4_strikerOf_95 : decode cX4_strikerOf 95 = .ok (.aload_n 0, 1) := by decide +kernel
theorem dX4_strikerOf_96 : decode cX4_strikerOf 96 = .ok (.getfield 9, 3) := by decide +kernel
theorem dX4_strikerOf_99 : decode cX4_strikerOf 99 = .ok (.iload 9, 2) := by decide +kernel
theorem dX4_strikerOf_101 : decode cX4_strikerOf 101 = .ok (.iaload, 1) := by decide +kernel
theorem dX4_strikerOf_102 : decode cX4_strikerOf 102 = .ok (.isub, 1) := by decide +kernel
theorem dX4_strikerOf_103 : decode cX4_strikerOf 103 = .ok (.if_icmp .lt 29, 3) := by decide +kernel
theorem dX4_strikerOf_106 : decode cX4_strikerOf 106 = .ok (.iload 4, 2) := by decide +kernel
theorem dX4_strikerOf_108 : decode cX4_strikerOf 108 = .ok (.ifCond .ne 8, 3) := by decide +kernel
theorem dX4_strikerOf_111 : decode cX4_strikerOf 111 = .ok (.iload 9, 2) := by decide +kernel
theorem dX4_strikerOf_113 : decode cX4_strikerOf 113 = .ok (.goto 10, 3) := by decide +kernel
theorem dX4_strikerOf_116 : decode cX4_strikerOf 116 = .ok (.iload 4, 2) := by decide +kernel
theorem dX4_strikerOf_118 : decode cX4_strikerOf 118 = .ok (.iload 9, 2) := by decide +kernel
theorem dX4_strikerOf_120 : decode cX4_strikerOf 120 = .ok (.invokestatic 61, 3) := by decide +kernel
theorem dX4_strikerOf_123 : decode cX4_strikerOf 123 = .ok (.istore 4, 2) := by decide +kernel
theorem dX4_strikerOf_125 : decode cX4_strikerOf 125 = .ok (.iload_n 3, 1) := by decide +kernel
theorem dX4_strikerOf_126 : decode cX4_strikerOf 126 = .ok (.ifCond .eq 6, 3) := by decide +kernel
theorem dX4_strikerOf_129 : decode cX4_strikerOf 129 = .ok (.iload 4, 2) := by decide +kernel
theorem dX4_strikerOf_131 : decode cX4_strikerOf 131 = .ok (.ireturn, 1) := by decide +kernel
theorem dX4_strikerOf_132 : decode cX4_strikerOf 132 = .ok (.iinc 8 1, 3) := by decide +kernel
theorem dX4_strikerOf_135 : decode cX4_strikerOf 135 = .ok (.goto (-85), 3) := by decide +kernel
theorem dX4_strikerOf_138 : decode cX4_strikerOf 138 = .ok (.iload 5, 2) := by decide +kernel
theorem dX4_strikerOf_140 : decode cX4_strikerOf 140 = .ok (.iload 5, 2) := by decide +kernel
theorem dX4_strikerOf_142 : decode cX4_strikerOf 142 = .ok (.iadd, 1) := by decide +kernel
theorem dX4_strikerOf_143 : decode cX4_strikerOf 143 = .ok (.istore 5, 2) := by decide +kernel
theorem dX4_strikerOf_145 : decode cX4_strikerOf 145 = .ok (.iinc 6 1, 3) := by decide +kernel
theorem dX4_strikerOf_148 : decode cX4_strikerOf 148 = .ok (.goto (-129), 3) := by decide +kernel
theorem dX4_strikerOf_151 : decode cX4_strikerOf 151 = .ok (.iload 4, 2) := by decide +kernel
theorem dX4_strikerOf_153 : decode cX4_strikerOf 153 = .ok (.ireturn, 1) := by decide +kernel
theorem dX4_ahead_0 : decode cX4_ahead 0 = .ok (.iload_n 0, 1) := by decide +kernel
theorem dX4_ahead_1 : decode cX4_ahead 1 = .ok (.invokestatic 56, 3) := by decide +kernel
theorem dX4_ahead_4 : decode cX4_ahead 4 = .ok (.iload_n 1, 1) := by decide +kernel
theorem dX4_ahead_5 : decode cX4_ahead 5 = .ok (.invokestatic 56, 3) := by decide +kernel
theorem dX4_ahead_8 : decode cX4_ahead 8 = .ok (.isub, 1) := by decide +kernel
theorem dX4_ahead_9 : decode cX4_ahead 9 = .ok (.istore_n 2, 1) := by decide +kernel
theorem dX4_ahead_10 : decode cX4_ahead 10 = .ok (.iload_n 2, 1) := by decide +kernel
theorem dX4_ahead_11 : decode cX4_ahead 11 = .ok (.ifCond .eq 13, 3) := by decide +kernel
theorem dX4_ahead_14 : decode cX4_ahead 14 = .ok (.iload_n 2, 1) := by decide +kernel
theorem dX4_ahead_15 : decode cX4_ahead 15 = .ok (.ifCond .ge 7, 3) := by decide +kernel
theorem dX4_ahead_18 : decode cX4_ahead 18 = .ok (.iload_n 0, 1) := by decide +kernel
theorem dX4_ahead_19 : decode cX4_ahead 19 = .ok (.goto 4, 3) := by decide +kernel
theorem dX4_ahead_22 : decode cX4_ahead 22 = .ok (.iload_n 1, 1) := by decide +kernel
theorem dX4_ahead_23 : decode cX4_ahead 23 = .ok (.ireturn, 1) := by decide +kernel
theorem dX4_ahead_24 : decode cX4_ahead 24 = .ok (.iload_n 0, 1) := by decide +kernel
theorem dX4_ahead_25 : decode cX4_ahead 25 = .ok (.iload_n 1, 1) := by decide +kernel
theorem dX4_ahead_26 : decode cX4_ahead 26 = .ok (.ixor, 1) := by decide +kernel
theorem dX4_ahead_27 : decode cX4_ahead 27 = .ok (.istore_n 3, 1) := by decide +kernel
theorem dX4_ahead_28 : decode cX4_ahead 28 = .ok (.iload_n 3, 1) := by decide +kernel
theorem dX4_ahead_29 : decode cX4_ahead 29 = .ok (.iload_n 3, 1) := by decide +kernel
theorem dX4_ahead_30 : decode cX4_ahead 30 = .ok (.ineg, 1) := by decide +kernel
theorem dX4_ahead_31 : decode cX4_ahead 31 = .ok (.iand, 1) := by decide +kernel
theorem dX4_ahead_32 : decode cX4_ahead 32 = .ok (.istore 4, 2) := by decide +kernel
theorem dX4_ahead_34 : decode cX4_ahead 34 = .ok (.iload_n 0, 1) := by decide +kernel
theorem dX4_ahead_35 : decode cX4_ahead 35 = .ok (.iload 4, 2) := by decide +kernel
theorem dX4_ahead_37 : decode cX4_ahead 37 = .ok (.iand, 1) := by decide +kernel
theorem dX4_ahead_38 : decode cX4_ahead 38 = .ok (.ifCond .eq 7, 3) := by decide +kernel
theorem dX4_ahead_41 : decode cX4_ahead 41 = .ok (.iload_n 0, 1) := by decide +kernel
theorem dX4_ahead_42 : decode cX4_ahead 42 = .ok (.goto 4, 3) := by decide +kernel
theorem dX4_ahead_45 : decode cX4_ahead 45 = .ok (.iload_n 1, 1) := by decide +kernel
theorem dX4_ahead_46 : decode cX4_ahead 46 = .ok (.ireturn, 1) := by decide +kernel
theorem dX5_init_0 : decode cX5_init 0 = .ok (.aload_n 0, 1) := by decide +kernel
theorem dX5_init_1 : decode cX5_init 1 = .ok (.invokespecial 3, 3) := by decide +kernel
theorem dX5_init_4 : decode cX5_init 4 = .ok (.aload_n 0, 1) := by decide +kernel
theorem dX5_init_5 : decode cX5_init 5 = .ok (.sipush 512, 3) := by decide +kernel
theorem dX5_init_8 : decode cX5_init 8 = .ok (.newarray .int, 2) := by decide +kernel
theorem dX5_init_10 : decode cX5_init 10 = .ok (.putfield 9, 3) := by decide +kernel
theorem dX5_init_13 : decode cX5_init 13 = .ok (.return_, 1) := by decide +kernel
theorem dX5_endOf_0 : decode cX5_endOf 0 = .ok (.aload_n 0, 1) := by decide +kernel
theorem dX5_endOf_1 : decode cX5_endOf 1 = .ok (.aload_n 1, 1) := by decide +kernel
theorem dX5_endOf_2 : decode cX5_endOf 2 = .ok (.invokevirtual 15, 3) := by decide +kernel
theorem dX5_endOf_5 : decode cX5_endOf 5 = .ok (.aload_n 0, 1) := by decide +kernel
theorem dX5_endOf_6 : decode cX5_endOf 6 = .ok (.getfield 9, 3) := by decide +kernel
theorem dX5_endOf_9 : decode cX5_endOf 9 = .ok (.aload_n 1, 1) := by decide +kernel
theorem dX5_endOf_10 : decode cX5_endOf 10 = .ok (.invokevirtual 19, 3) := by decide +kernel
theorem dX5_endOf_13 : decode cX5_endOf 13 = .ok (.iaload, 1) := by decide +kernel
theorem dX5_endOf_14 : decode cX5_endOf 14 = .ok (.ireturn, 1) := by decide +kernel
theorem dX5_openingStrike_0 : decode cX5_openingStrike 0 = .ok (.aload_n 1, 1) := by decide +kernel
theorem dX5_openingStrike_1 : decode cX5_openingStrike 1 = .ok (.getfield 25, 3) := by decide +kernel
theorem dX5_openingStrike_4 : decode cX5_openingStrike 4 = .ok (.ifCond .ne 5, 3) := by decide +kernel
theorem dX5_openingStrike_7 : decode cX5_openingStrike 7 = .ok (.iconst (-1), 1) := by decide +kernel
theorem dX5_openingStrike_8 : decode cX5_openingStrike 8 = .ok (.ireturn, 1) := by decide +kernel
theorem dX5_openingStrike_9 : decode cX5_openingStrike 9 = .ok (.aload_n 0, 1) := by decide +kernel
theorem dX5_openingStrike_10 : decode cX5_openingStrike 10 = .ok (.aload_n 1, 1) := by decide +kernel
theorem dX5_openingStrike_11 : decode cX5_openingStrike 11 = .ok (.invokevirtual 15, 3) := by decide +kernel
theorem dX5_openingStrike_14 : decode cX5_openingStrike 14 = .ok (.aload_n 0, 1) := by decide +kernel
theorem dX5_openingStrike_15 : decode cX5_openingStrike 15 = .ok (.aload_n 1, 1) := by decide +kernel
theorem dX5_openingStrike_16 : decode cX5_openingStrike 16 = .ok (.aload_n 1, 1) := by decide +kernel
theorem dX5_openingStrike_17 : decode cX5_openingStrike 17 = .ok (.getfield 29, 3) := by decide +kernel
theorem dX5_openingStrike_20 : decode cX5_openingStrike 20 = .ok (.iconst 0, 1) := by decide +kernel
theorem dX5_openingStrike_21 : decode cX5_openingStrike 21 = .ok (.iaload, 1) := by decide +kernel
theorem dX5_openingStrike_22 : decode cX5_openingStrike 22 = .ok (.aload_n 1, 1) := by decide +kernel
theorem dX5_openingStrike_23 : decode cX5_openingStrike 23 = .ok (.invokevirtual 19, 3) := by decide +kernel
theorem dX5_openingStrike_26 : decode cX5_openingStrike 26 = .ok (.invokevirtual 32, 3) := by decide +kernel
theorem dX5_openingStrike_29 : decode cX5_openingStrike 29 = .ok (.ireturn, 1) := by decide +kernel
theorem dX5_lookBack_0 : decode cX5_lookBack 0 = .ok (.aload_n 1, 1) := by decide +kernel
theorem dX5_lookBack_1 : decode cX5_lookBack 1 = .ok (.invokevirtual 19, 3) := by decide +kernel
theorem dX5_lookBack_4 : decode cX5_lookBack 4 = .ok (.aload_n 0, 1) := by decide +kernel
theorem dX5_lookBack_5 : decode cX5_lookBack 5 = .ok (.getfield 9, 3) := by decide +kernel
theorem dX5_lookBack_8 : decode cX5_lookBack 8 = .ok (.arraylength, 1) := by decide +kernel
theorem dX5_lookBack_9 : decode cX5_lookBack 9 = .ok (.iconst 1, 1) := by decide +kernel
theorem dX5_lookBack_10 : decode cX5_lookBack 10 = .ok (.isub, 1) := by decide +kernel
theorem dX5_lookBack_11 : decode cX5_lookBack 11 = .ok (.invokestatic 36, 3) := by decide +kernel
theorem dX5_lookBack_14 : decode cX5_lookBack 14 = .ok (.istore_n 2, 1) := by decide +kernel
theorem dX5_lookBack_15 : decode cX5_lookBack 15 = .ok (.iconst 1, 1) := by decide +kernel
theorem dX5_lookBack_16 : decode cX5_lookBack 16 = .ok (.istore_n 3, 1) := by decide +kernel
theorem dX5_lookBack_17 : decode cX5_lookBack 17 = .ok (.iload_n 3, 1) := by decide +kernel
theorem dX5_lookBack_18 : decode cX5_lookBack 18 = .ok (.iload_n 2, 1) := by decide +kernel
theorem dX5_lookBack_19 : decode cX5_lookBack 19 = .ok (.if_icmp .gt 73, 3) := by decide +kernel
theorem dX5_lookBack_22 : decode cX5_lookBack 22 = .ok (.aload_n 1, 1) := by decide +kernel
theorem dX5_lookBack_23 : decode cX5_lookBack 23 = .ok (.getfield 42, 3) := by decide +kernel
theorem dX5_lookBack_26 : decode cX5_lookBack 26 = .ok (.iload_n 3, 1) := by decide +kernel
theorem dX5_lookBack_27 : decode cX5_lookBack 27 = .ok (.invokestatic 45, 3) := by decide +kernel
theorem dX5_lookBack_30 : decode cX5_lookBack 30 = .ok (.isub, 1) := by decide +kernel
theorem dX5_lookBack_31 : decode cX5_lookBack 31 = .ok (.istore 4, 2) := by decide +kernel
theorem dX5_lookBack_33 : decode cX5_lookBack 33 = .ok (.iload 4, 2) := by decide +kernel
theorem dX5_lookBack_35 : decode cX5_lookBack 35 = .ok (.aload_n 1, 1) := by decide +kernel
theorem dX5_lookBack_36 : decode cX5_lookBack 36 = .ok (.getfield 25, 3) := by decide +kernel
theorem dX5_lookBack_39 : decode cX5_lookBack 39 = .ok (.if_icmp .lt 13, 3) := by decide +kernel
theorem dX5_lookBack_42 : decode cX5_lookBack 42 = .ok (.aload_n 0, 1) := by decide +kernel
theorem dX5_lookBack_43 : decode cX5_lookBack 43 = .ok (.getfield 9, 3) := by decide +kernel
theorem dX5_lookBack_46 : decode cX5_lookBack 46 = .ok (.iload_n 3, 1) := by decide +kernel
theorem dX5_lookBack_47 : decode cX5_lookBack 47 = .ok (.iload_n 3, 1) := by decide +kernel
theorem dX5_lookBack_48 : decode cX5_lookBack 48 = .ok (.iastore, 1) := by decide +kernel
theorem dX5_lookBack_49 : decode cX5_lookBack 49 = .ok (.goto 37, 3) := by decide +kernel
theorem dX5_lookBack_52 : decode cX5_lookBack 52 = .ok (.aload_n 0, 1) := by decide +kernel
theorem dX5_lookBack_53 : decode cX5_lookBack 53 = .ok (.aload_n 1, 1) := by decide +kernel
theorem dX5_lookBack_54 : decode cX5_lookBack 54 = .ok (.aload_n 1, 1) := by decide +kernel
theorem dX5_lookBack_55 : decode cX5_lookBack 55 = .ok (.getfield 29, 3) := by decide +kernel
theorem dX5_lookBack_58 : decode cX5_lookBack 58 = .ok (.iload 4, 2) := by decide +kernel
theorem dX5_lookBack_60 : decode cX5_lookBack 60 = .ok (.iaload, 1) := by decide +kernel
theorem dX5_lookBack_61 : decode cX5_lookBack 61 = .ok (.iload_n 3, 1) := by decide +kernel
theorem dX5_lookBack_62 : decode cX5_lookBack 62 = .ok (.invokevirtual 32, 3) := by decide +kernel
theorem dX5_lookBack_65 : decode cX5_lookBack 65 = .ok (.istore 5, 2) := by decide +kernel
theorem dX5_lookBack_67 : decode cX5_lookBack 67 = .ok (.aload_n 0, 1) := by decide +kernel
theorem dX5_lookBack_68 : decode cX5_lookBack 68 = .ok (.getfield 9, 3) := by decide +kernel
theorem dX5_lookBack_71 : decode cX5_lookBack 71 = .ok (.iload_n 3, 1) := by decide +kernel
theorem dX5_lookBack_72 : decode cX5_lookBack 72 = .ok (.aload_n 0, 1) := by decide +kernel
theorem dX5_lookBack_73 : decode cX5_lookBack 73 = .ok (.getfield 9, 3) := by decide +kernel
theorem dX5_lookBack_76 : decode cX5_lookBack 76 = .ok (.iload_n 3, 1) := by decide +kernel
theorem dX5_lookBack_77 : decode cX5_lookBack 77 = .ok (.iconst 1, 1) := by decide +kernel
theorem dX5_lookBack_78 : decode cX5_lookBack 78 = .ok (.iload 5, 2) := by decide +kernel
theorem dX5_lookBack_80 : decode cX5_lookBack 80 = .ok (.ishl, 1) := by decide +kernel
theorem dX5_lookBack_81 : decode cX5_lookBack 81 = .ok (.iconst (-1), 1) := by decide +kernel
theorem dX5_lookBack_82 : decode cX5_lookBack 82 = .ok (.ixor, 1) := by decide +kernel
theorem dX5_lookBack_83 : decode cX5_lookBack 83 = .ok (.iand, 1) := by decide +kernel
theorem dX5_lookBack_84 : decode cX5_lookBack 84 = .ok (.iaload, 1) := by decide +kernel
theorem dX5_lookBack_85 : decode cX5_lookBack 85 = .ok (.iastore, 1) := by decide +kernel
theorem dX5_lookBack_86 : decode cX5_lookBack 86 = .ok (.iinc 3 1, 3) := by decide +kernel
theorem dX5_lookBack_89 : decode cX5_lookBack 89 = .ok (.goto (-72), 3) := by decide +kernel
theorem dX5_lookBack_92 : decode cX5_lookBack 92 = .ok (.return_, 1) := by decide +kernel
theorem dX5_bestStrike_0 : decode cX5_bestStrike 0 = .ok (.iconst 0, 1) := by decide +kernel
theorem dX5_bestStrike_1 : decode cX5_bestStrike 1 = .ok (.istore 4, 2) := by decide +kernel
theorem dX5_bestStrike_3 : decode cX5_bestStrike 3 = .ok (.ldc 51, 2) := by decide +kernel
theorem dX5_bestStrike_5 : decode cX5_bestStrike 5 = .ok (.istore 5, 2) := by decide +kernel
theorem dX5_bestStrike_7 : decode cX5_bestStrike 7 = .ok (.iconst 0, 1) := by decide +kernel
theorem dX5_bestStrike_8 : decode cX5_bestStrike 8 = .ok (.istore 6, 2) := by decide +kernel
theorem dX5_bestStrike_10 : decode cX5_bestStrike 10 = .ok (.iload 6, 2) := by decide +kernel
theorem dX5_bestStrike_12 : decode cX5_bestStrike 12 = .ok (.aload_n 1, 1) := by decide +kernel
theorem dX5_bestStrike_13 : decode cX5_bestStrike 13 = .ok (.getfield 42, 3) := by decide +kernel
theorem dX5_bestStrike_16 : decode cX5_bestStrike 16 = .ok (.if_icmp .ge 70, 3) := by decide +kernel
theorem dX5_bestStrike_19 : decode cX5_bestStrike 19 = .ok (.iload_n 3, 1) := by decide +kernel
theorem dX5_bestStrike_20 : decode cX5_bestStrike 20 = .ok (.iload 6, 2) := by decide +kernel
theorem dX5_bestStrike_22 : decode cX5_bestStrike 22 = .ok (.ishr, 1) := by decide +kernel
theorem dX5_bestStrike_23 : decode cX5_bestStrike 23 = .ok (.iconst 1, 1) := by decide +kernel
theorem dX5_bestStrike_24 : decode cX5_bestStrike 24 = .ok (.iand, 1) := by decide +kernel
theorem dX5_bestStrike_25 : decode cX5_bestStrike 25 = .ok (.iconst 1, 1) := by decide +kernel
theorem dX5_bestStrike_26 : decode cX5_bestStrike 26 = .ok (.if_icmp .ne 54, 3) := by decide +kernel
theorem dX5_bestStrike_29 : decode cX5_bestStrike 29 = .ok (.aload_n 0, 1) := by decide +kernel
theorem dX5_bestStrike_30 : decode cX5_bestStrike 30 = .ok (.getfield 9, 3) := by decide +kernel
theorem dX5_bestStrike_33 : decode cX5_bestStrike 33 = .ok (.iload_n 3, 1) := by decide +kernel
theorem dX5_bestStrike_34 : decode cX5_bestStrike 34 = .ok (.iconst 1, 1) := by decide +kernel
theorem dX5_bestStrike_35 : decode cX5_bestStrike 35 = .ok (.iload 6, 2) := by decide +kernel
theorem dX5_bestStrike_37 : decode cX5_bestStrike 37 = .ok (.ishl, 1) := by decide +kernel
theorem dX5_bestStrike_38 : decode cX5_bestStrike 38 = .ok (.iconst (-1), 1) := by decide +kernel
theorem dX5_bestStrike_39 : decode cX5_bestStrike 39 = .ok (.ixor, 1) := by decide +kernel
theorem dX5_bestStrike_40 : decode cX5_bestStrike 40 = .ok (.iand, 1) := by decide +kernel
theorem dX5_bestStrike_41 : decode cX5_bestStrike 41 = .ok (.iaload, 1) := by decide +kernel
theorem dX5_bestStrike_42 : decode cX5_bestStrike 42 = .ok (.istore 7, 2) := by decide +kernel
theorem dX5_bestStrike_44 : decode cX5_bestStrike 44 = .ok (.aload_n 1, 1) := by decide +kernel
theorem dX5_bestStrike_45 : decode cX5_bestStrike 45 = .ok (.iload_n 2, 1) := by decide +kernel
theorem dX5_bestStrike_46 : decode cX5_bestStrike 46 = .ok (.iload 7, 2) := by decide +kernel
theorem dX5_bestStrike_48 : decode cX5_bestStrike 48 = .ok (.invokevirtual 52, 3) := by decide +kernel
theorem dX5_bestStrike_51 : decode cX5_bestStrike 51 = .ok (.sipush 1000, 3) := by decide +kernel
theorem dX5_bestStrike_54 : decode cX5_bestStrike 54 = .ok (.imul, 1) := by decide +kernel
theorem dX5_bestStrike_55 : decode cX5_bestStrike 55 = .ok (.aload_n 1, 1) := by decide +kernel
theorem dX5_bestStrike_56 : decode cX5_bestStrike 56 = .ok (.iload_n 2, 1) := by decide +kernel
theorem dX5_bestStrike_57 : decode cX5_bestStrike 57 = .ok (.iload 7, 2) := by decide +kernel
theorem dX5_bestStrike_59 : decode cX5_bestStrike 59 = .ok (.invokevirtual 55, 3) := by decide +kernel
theorem dX5_bestStrike_62 : decode cX5_bestStrike 62 = .ok (.iadd, 1) := by decide +kernel
theorem dX5_bestStrike_63 : decode cX5_bestStrike 63 = .ok (.istore 8, 2) := by decide +kernel
theorem dX5_bestStrike_65 : decode cX5_bestStrike 65 = .ok (.iload 8, 2) := by decide +kernel
theorem dX5_bestStrike_67 : decode cX5_bestStrike 67 = .ok (.iload 5, 2) := by decide +kernel
theorem dX5_bestStrike_69 : decode cX5_bestStrike 69 = .ok (.if_icmp .ge 11, 3) := by decide +kernel
theorem dX5_bestStrike_72 : decode cX5_bestStrike 72 = .ok (.iload 8, 2) := by decide +kernel
theorem dX5_bestStrike_74 : decode cX5_bestStrike 74 = .ok (.istore 5, 2) := by decide +kernel
theorem dX5_bestStrike_76 : decode cX5_bestStrike 76 = .ok (.iload 6, 2) := by decide +kernel
theorem dX5_bestStrike_78 : decode cX5_bestStrike 78 = .ok (.istore 4, 2) := by decide +kernel
theorem dX5_bestStrike_80 : decode cX5_bestStrike 80 = .ok (.iinc 6 1, 3) := by decide +kernel
theorem dX5_bestStrike_83 : decode cX5_bestStrike 83 = .ok (.goto (-73), 3) := by decide +kernel
theorem dX5_bestStrike_86 : decode cX5_bestStrike 86 = .ok (.iload 4, 2) := by decide +kernel
theorem dX5_bestStrike_88 : decode cX5_bestStrike 88 = .ok (.ireturn, 1) := by decide +kernel
theorem dX6_init_0 : decode cX6_init 0 = .ok (.aload_n 0, 1) := by decide +kernel
theorem dX6_init_1 : decode cX6_init 1 = .ok (.invokespecial 3, 3) := by decide +kernel
theorem dX6_init_4 : decode cX6_init 4 = .ok (.aload_n 0, 1) := by decide +kernel
theorem dX6_init_5 : decode cX6_init 5 = .ok (.sipush 2048, 3) := by decide +kernel
theorem dX6_init_8 : decode cX6_init 8 = .ok (.newarray .long, 2) := by decide +kernel
theorem dX6_init_10 : decode cX6_init 10 = .ok (.putfield 11, 3) := by decide +kernel
theorem dX6_init_13 : decode cX6_init 13 = .ok (.aload_n 0, 1) := by decide +kernel
theorem dX6_init_14 : decode cX6_init 14 = .ok (.iconst 0, 1) := by decide +kernel
theorem dX6_init_15 : decode cX6_init 15 = .ok (.putfield 15, 3) := by decide +kernel
theorem dX6_init_18 : decode cX6_init 18 = .ok (.aload_n 0, 1) := by decide +kernel
theorem dX6_init_19 : decode cX6_init 19 = .ok (.iconst 0, 1) := by decide +kernel
theorem dX6_init_20 : decode cX6_init 20 = .ok (.putfield 19, 3) := by decide +kernel
theorem dX6_init_23 : decode cX6_init 23 = .ok (.aload_n 0, 1) := by decide +kernel
theorem dX6_init_24 : decode cX6_init 24 = .ok (.iconst 0, 1) := by decide +kernel
theorem dX6_init_25 : decode cX6_init 25 = .ok (.putfield 23, 3) := by decide +kernel
theorem dX6_init_28 : decode cX6_init 28 = .ok (.return_, 1) := by decide +kernel
theorem dX6_forget_0 : decode cX6_forget 0 = .ok (.aload_n 0, 1) := by decide +kernel
theorem dX6_forget_1 : decode cX6_forget 1 = .ok (.iconst 0, 1) := by decide +kernel
theorem dX6_forget_2 : decode cX6_forget 2 = .ok (.putfield 15, 3) := by decide +kernel
theorem dX6_forget_5 : decode cX6_forget 5 = .ok (.return_, 1) := by decide +kernel
theorem dX6_leftBehindSome_0 : decode cX6_leftBehindSome 0 = .ok (.aload_n 0, 1) := by decide +kernel
theorem dX6_leftBehindSome_1 : decode cX6_leftBehindSome 1 = .ok (.aload_n 1, 1) := by decide +kernel
theorem dX6_leftBehindSome_2 : decode cX6_leftBehindSome 2 = .ok (.invokevirtual 26, 3) := by decide +kernel
theorem dX6_leftBehindSome_5 : decode cX6_leftBehindSome 5 = .ok (.aload_n 0, 1) := by decide +kernel
theorem dX6_leftBehindSome_6 : decode cX6_leftBehindSome 6 = .ok (.getfield 19, 3) := by decide +kernel
theorem dX6_leftBehindSome_9 : decode cX6_leftBehindSome 9 = .ok (.ireturn, 1) := by decide +kernel
theorem dX6_leftBehindAll_0 : decode cX6_leftBehindAll 0 = .ok (.aload_n 0, 1) := by decide +kernel
theorem dX6_leftBehindAll_1 : decode cX6_leftBehindAll 1 = .ok (.aload_n 1, 1) := by decide +kernel
theorem dX6_leftBehindAll_2 : decode cX6_leftBehindAll 2 = .ok (.invokevirtual 26, 3) := by decide +kernel
theorem dX6_leftBehindAll_5 : decode cX6_leftBehindAll 5 = .ok (.aload_n 0, 1) := by decide +kernel
theorem dX6_leftBehindAll_6 : decode cX6_leftBehindAll 6 = .ok (.getfield 23, 3) := by decide +kernel
theorem dX6_leftBehindAll_9 : decode cX6_leftBehindAll 9 = .ok (.ireturn, 1) := by decide +kernel
theorem dX6_rowsOf_0 : decode cX6_rowsOf 0 = .ok (.aload_n 0, 1) := by decide +kernel
theorem dX6_rowsOf_1 : decode cX6_rowsOf 1 = .ok (.getfield 30, 3) := by decide +kernel
theorem dX6_rowsOf_4 : decode cX6_rowsOf 4 = .ok (.invokestatic 35, 3) := by decide +kernel
theorem dX6_rowsOf_7 : decode cX6_rowsOf 7 = .ok (.istore_n 1, 1) := by decide +kernel
theorem dX6_rowsOf_8 : decode cX6_rowsOf 8 = .ok (.iconst 0, 1) := by decide +kernel
theorem dX6_rowsOf_9 : decode cX6_rowsOf 9 = .ok (.istore_n 2, 1) := by decide +kernel
theorem dX6_rowsOf_10 : decode cX6_rowsOf 10 = .ok (.iload_n 2, 1) := by decide +kernel
theorem dX6_rowsOf_11 : decode cX6_rowsOf 11 = .ok (.aload_n 0, 1) := by decide +kernel
theorem dX6_rowsOf_12 : decode cX6_rowsOf 12 = .ok (.getfield 39, 3) := by decide +kernel
theorem dX6_rowsOf_15 : decode cX6_rowsOf 15 = .ok (.if_icmp .ge 50, 3) := by decide +kernel
theorem dX6_rowsOf_18 : decode cX6_rowsOf 18 = .ok (.iconst 0, 1) := by decide +kernel
theorem dX6_rowsOf_19 : decode cX6_rowsOf 19 = .ok (.istore_n 3, 1) := by decide +kernel
theorem dX6_rowsOf_20 : decode cX6_rowsOf 20 = .ok (.iconst 0, 1) := by decide +kernel
theorem dX6_rowsOf_21 : decode cX6_rowsOf 21 = .ok (.istore 4, 2) := by decide +kernel
theorem dX6_rowsOf_23 : decode cX6_rowsOf 23 = .ok (.iload 4, 2) := by decide +kernel
theorem dX6_rowsOf_25 : decode cX6_rowsOf 25 = .ok (.aload_n 0, 1) := by decide +kernel
theorem dX6_rowsOf_26 : decode cX6_rowsOf 26 = .ok (.getfield 30, 3) := by decide +kernel
theorem dX6_rowsOf_29 : decode cX6_rowsOf 29 = .ok (.if_icmp .ge 23, 3) := by decide +kernel
theorem dX6_rowsOf_32 : decode cX6_rowsOf 32 = .ok (.aload_n 0, 1) := by decide +kernel
theorem dX6_rowsOf_33 : decode cX6_rowsOf 33 = .ok (.getfield 42, 3) := by decide +kernel
theorem dX6_rowsOf_36 : decode cX6_rowsOf 36 = .ok (.iload 4, 2) := by decide +kernel
theorem dX6_rowsOf_38 : decode cX6_rowsOf 38 = .ok (.iaload, 1) := by decide +kernel
theorem dX6_rowsOf_39 : decode cX6_rowsOf 39 = .ok (.iload_n 2, 1) := by decide +kernel
theorem dX6_rowsOf_40 : decode cX6_rowsOf 40 = .ok (.if_icmp .ne 6, 3) := by decide +kernel
theorem dX6_rowsOf_43 : decode cX6_rowsOf 43 = .ok (.iinc 3 1, 3) := by decide +kernel
theorem dX6_rowsOf_46 : decode cX6_rowsOf 46 = .ok (.iinc 4 1, 3) := by decide +kernel
theorem dX6_rowsOf_49 : decode cX6_rowsOf 49 = .ok (.goto (-26), 3) := by decide +kernel
theorem dX6_rowsOf_52 : decode cX6_rowsOf 52 = .ok (.iload_n 1, 1) := by decide +kernel
theorem dX6_rowsOf_53 : decode cX6_rowsOf 53 = .ok (.iload_n 3, 1) := by decide +kernel
theorem dX6_rowsOf_54 : decode cX6_rowsOf 54 = .ok (.invokestatic 35, 3) := by decide +kernel
theorem dX6_rowsOf_57 : decode cX6_rowsOf 57 = .ok (.idiv, 1) := by decide +kernel
theorem dX6_rowsOf_58 : decode cX6_rowsOf 58 = .ok (.istore_n 1, 1) := by decide +kernel
theorem dX6_rowsOf_59 : decode cX6_rowsOf 59 = .ok (.iinc 2 1, 3) := by decide +kernel
theorem dX6_rowsOf_62 : decode cX6_rowsOf 62 = .ok (.goto (-52), 3) := by decide +kernel
theorem dX6_rowsOf_65 : decode cX6_rowsOf 65 = .ok (.iload_n 1, 1) := by decide +kernel
theorem dX6_rowsOf_66 : decode cX6_rowsOf 66 = .ok (.ireturn, 1) := by decide +kernel
theorem dX6_learn_0 : decode cX6_learn 0 = .ok (.aload_n 0, 1) := by decide +kernel
theorem dX6_learn_1 : decode cX6_learn 1 = .ok (.getfield 15, 3) := by decide +kernel
theorem dX6_learn_4 : decode cX6_learn 4 = .ok (.ifCond .eq 4, 3) := by decide +kernel
theorem dX6_learn_7 : decode cX6_learn 7 = .ok (.return_, 1) := by decide +kernel
theorem dX6_learn_8 : decode cX6_learn 8 = .ok (.aload_n 0, 1) := by decide +kernel
theorem dX6_learn_9 : decode cX6_learn 9 = .ok (.iconst 1, 1) := by decide +kernel
theorem dX6_learn_10 : decode cX6_learn 10 = .ok (.putfield 15, 3) := by decide +kernel
theorem dX6_learn_13 : decode cX6_learn 13 = .ok (.aload_n 0, 1) := by decide +kernel
theorem dX6_learn_14 : decode cX6_learn 14 = .ok (.getfield 11, 3) := by decide +kernel
theorem dX6_learn_17 : decode cX6_learn 17 = .ok (.lconst 0, 1) := by decide +kernel
theorem dX6_learn_18 : decode cX6_learn 18 = .ok (.invokestatic 46, 3) := by decide +kernel
theorem dX6_learn_21 : decode cX6_learn 21 = .ok (.aload_n 0, 1) := by decide +kernel
theorem dX6_learn_22 : decode cX6_learn 22 = .ok (.iconst 0, 1) := by decide +kernel
theorem dX6_learn_23 : decode cX6_learn 23 = .ok (.aload_n 1, 1) := by decide +kernel
theorem dX6_learn_24 : decode cX6_learn 24 = .ok (.invokevirtual 52, 3) := by decide +kernel
theorem dX6_learn_27 : decode cX6_learn 27 = .ok (.invokevirtual 56, 3) := by decide +kernel
theorem dX6_learn_30 : decode cX6_learn 30 = .ok (.aload_n 0, 1) := by decide +kernel
theorem dX6_learn_31 : decode cX6_learn 31 = .ok (.iconst 0, 1) := by decide +kernel
theorem dX6_learn_32 : decode cX6_learn 32 = .ok (.putfield 19, 3) := by decide +kernel
theorem dX6_learn_35 : decode cX6_learn 35 = .ok (.aload_n 0, 1) := by decide +kernel
theorem dX6_learn_36 : decode cX6_learn 36 = .ok (.aload_n 1, 1) := by decide +kernel
theorem dX6_learn_37 : decode cX6_learn 37 = .ok (.invokevirtual 52, 3) := by decide +kernel
theorem dX6_learn_40 : decode cX6_learn 40 = .ok (.putfield 23, 3) := by decide +kernel
theorem dX6_learn_43 : decode cX6_learn 43 = .ok (.iconst 1, 1) := by decide +kernel
theorem dX6_learn_44 : decode cX6_learn 44 = .ok (.aload_n 1, 1) := by decide +kernel
theorem dX6_learn_45 : decode cX6_learn 45 = .ok (.getfield 30, 3) := by decide +kernel
theorem dX6_learn_48 : decode cX6_learn 48 = .ok (.ishl, 1) := by decide +kernel
theorem dX6_learn_49 : decode cX6_learn 49 = .ok (.sipush 256, 3) := by decide +kernel
theorem dX6_learn_52 : decode cX6_learn 52 = .ok (.invokestatic 60, 3) := by decide +kernel
theorem dX6_learn_55 : decode cX6_learn 55 = .ok (.istore_n 2, 1) := by decide +kernel
theorem dX6_learn_56 : decode cX6_learn 56 = .ok (.iconst 0, 1) := by decide +kernel
theorem dX6_learn_57 : decode cX6_learn 57 = .ok (.istore_n 3, 1) := by decide +kernel
theorem dX6_learn_58 : decode cX6_learn 58 = .ok (.iload_n 3, 1) := by decide +kernel
theorem dX6_learn_59 : decode cX6_learn 59 = .ok (.iload_n 2, 1) := by decide +kernel
theorem dX6_learn_60 : decode cX6_learn 60 = .ok (.if_icmp .ge 50, 3) := by decide +kernel
theorem dX6_learn_63 : decode cX6_learn 63 = .ok (.iconst 0, 1) := by decide +kernel
theorem dX6_learn_64 : decode cX6_learn 64 = .ok (.istore 4, 2) := by decide +kernel
theorem dX6_learn_66 : decode cX6_learn 66 = .ok (.iload 4, 2) := by decide +kernel
theorem dX6_learn_68 : decode cX6_learn 68 = .ok (.bipush 8, 2) := by decide +kernel
theorem dX6_learn_70 : decode cX6_learn 70 = .ok (.if_icmp .ge 34, 3) := by decide +kernel
theorem dX6_learn_73 : decode cX6_learn 73 = .ok (.aload_n 0, 1) := by decide +kernel
theorem dX6_learn_74 : decode cX6_learn 74 = .ok (.getfield 11, 3) := by decide +kernel
theorem dX6_learn_77 : decode cX6_learn 77 = .ok (.iload_n 3, 1) := by decide +kernel
theorem dX6_learn_78 : decode cX6_learn 78 = .ok (.bipush 8, 2) := by decide +kernel
theorem dX6_learn_80 : decode cX6_learn 80 = .ok (.imul, 1) := by decide +kernel
theorem dX6_learn_81 : decode cX6_learn 81 = .ok (.iload 4, 2) := by decide +kernel
theorem dX6_learn_83 : decode cX6_learn 83 = .ok (.iadd, 1) := by decide +kernel
theorem dX6_learn_84 : decode cX6_learn 84 = .ok (.laload, 1) := by decide +kernel
theorem dX6_learn_85 : decode cX6_learn 85 = .ok (.lconst 0, 1) := by decide +kernel
theorem dX6_learn_86 : decode cX6_learn 86 = .ok (.lcmp, 1) := by decide +kernel
theorem dX6_learn_87 : decode cX6_learn 87 = .ok (.ifCond .eq 11, 3) := by decide +kernel
theorem dX6_learn_90 : decode cX6_learn 90 = .ok (.aload_n 0, 1) := by decide +kernel
theorem dX6_learn_91 : decode cX6_learn 91 = .ok (.aload_n 1, 1) := by decide +kernel
theorem dX6_learn_92 : decode cX6_learn 92 = .ok (.iload_n 3, 1) := by decide +kernel
theorem dX6_learn_93 : decode cX6_learn 93 = .ok (.iload 4, 2) := by decide +kernel
theorem dX6_learn_95 : decode cX6_learn 95 = .ok (.invokevirtual 66, 3) := by decide +kernel
theorem dX6_learn_98 : decode cX6_learn 98 = .ok (.iinc 4 1, 3) := by decide +kernel
theorem dX6_learn_101 : decode cX6_learn 101 = .ok (.goto (-35), 3) := by decide +kernel
theorem dX6_learn_104 : decode cX6_learn 104 = .ok (.iinc 3 1, 3) := by decide +kernel
theorem dX6_learn_107 : decode cX6_learn 107 = .ok (.goto (-49), 3) := by decide +kernel
theorem dX6_learn_110 : decode cX6_learn 110 = .ok (.return_, 1) := by decide +kernel
theorem dX6_goOnFrom_0 : decode cX6_goOnFrom 0 = .ok (.aload_n 0, 1) := by decide +kernel
theorem dX6_goOnFrom_1 : decode cX6_goOnFrom 1 = .ok (.getfield 11, 3) := by decide +kernel
theorem dX6_goOnFrom_4 : decode cX6_goOnFrom 4 = .ok (.iload_n 2, 1) := by decide +kernel
theorem dX6_goOnFrom_5 : decode cX6_goOnFrom 5 = .ok (.bipush 8, 2) := by decide +kernel
theorem dX6_goOnFrom_7 : decode cX6_goOnFrom 7 = .ok (.imul, 1) := by decide +kernel
theorem dX6_goOnFrom_8 : decode cX6_goOnFrom 8 = .ok (.iload_n 3, 1) := by decide +kernel
theorem dX6_goOnFrom_9 : decode cX6_goOnFrom 9 = .ok (.iadd, 1) := by decide +kernel
theorem dX6_goOnFrom_10 : decode cX6_goOnFrom 10 = .ok (.laload, 1) := by decide +kernel
theorem dX6_goOnFrom_11 : decode cX6_goOnFrom 11 = .ok (.lstore 4, 2) := by decide +kernel
theorem dX6_goOnFrom_13 : decode cX6_goOnFrom 13 = .ok (.iconst 0, 1) := by decide +kernel
theorem dX6_goOnFrom_14 : decode cX6_goOnFrom 14 = .ok (.istore 6, 2) := by decide +kernel
theorem dX6_goOnFrom_16 : decode cX6_goOnFrom 16 = .ok (.iload 6, 2) := by decide +kernel
theorem dX6_goOnFrom_18 : decode cX6_goOnFrom 18 = .ok (.bipush 64, 2) := by decide +kernel
theorem dX6_goOnFrom_20 : decode cX6_goOnFrom 20 = .ok (.if_icmp .ge 34, 3) := by decide +kernel
theorem dX6_goOnFrom_23 : decode cX6_goOnFrom 23 = .ok (.lload 4, 2) := by decide +kernel
theorem dX6_goOnFrom_25 : decode cX6_goOnFrom 25 = .ok (.iload 6, 2) := by decide +kernel
theorem dX6_goOnFrom_27 : decode cX6_goOnFrom 27 = .ok (.lshr, 1) := by decide +kernel
theorem dX6_goOnFrom_28 : decode cX6_goOnFrom 28 = .ok (.lconst 1, 1) := by decide +kernel
theorem dX6_goOnFrom_29 : decode cX6_goOnFrom 29 = .ok (.land, 1) := by decide +kernel
theorem dX6_goOnFrom_30 : decode cX6_goOnFrom 30 = .ok (.lconst 1, 1) := by decide +kernel
theorem dX6_goOnFrom_31 : decode cX6_goOnFrom 31 = .ok (.lcmp, 1) := by decide +kernel
theorem dX6_goOnFrom_32 : decode cX6_goOnFrom 32 = .ok (.ifCond .ne 16, 3) := by decide +kernel
theorem dX6_goOnFrom_35 : decode cX6_goOnFrom 35 = .ok (.aload_n 0, 1) := by decide +kernel
theorem dX6_goOnFrom_36 : decode cX6_goOnFrom 36 = .ok (.aload_n 1, 1) := by decide +kernel
theorem dX6_goOnFrom_37 : decode cX6_goOnFrom 37 = .ok (.iload_n 2, 1) := by decide +kernel
theorem dX6_goOnFrom_38 : decode cX6_goOnFrom 38 = .ok (.iload_n 3, 1) := by decide +kernel
theorem dX6_goOnFrom_39 : decode cX6_goOnFrom 39 = .ok (.bipush 64, 2) := by decide +kernel
theorem dX6_goOnFrom_41 : decode cX6_goOnFrom 41 = .ok (.imul, 1) := by decide +kernel
theorem dX6_goOnFrom_42 : decode cX6_goOnFrom 42 = .ok (.iload 6, 2) := by decide +kernel
theorem dX6_goOnFrom_44 : decode cX6_goOnFrom 44 = .ok (.iadd, 1) := by decide +kernel
theorem dX6_goOnFrom_45 : decode cX6_goOnFrom 45 = .ok (.invokevirtual 70, 3) := by decide +kernel
theorem dX6_goOnFrom_48 : decode cX6_goOnFrom 48 = .ok (.iinc 6 1, 3) := by decide +kernel
theorem dX6_goOnFrom_51 : decode cX6_goOnFrom 51 = .ok (.goto (-35), 3) := by decide +kernel
theorem dX6_goOnFrom_54 : decode cX6_goOnFrom 54 = .ok (.return_, 1) := by decide +kernel
theorem dX6_takeEachTurn_0 : decode cX6_takeEachTurn 0 = .ok (.iload_n 2, 1) := by decide +kernel
theorem dX6_takeEachTurn_1 : decode cX6_takeEachTurn 1 = .ok (.iconst 1, 1) := by decide +kernel
theorem dX6_takeEachTurn_2 : decode cX6_takeEachTurn 2 = .ok (.aload_n 1, 1) := by decide +kernel
theorem dX6_takeEachTurn_3 : decode cX6_takeEachTurn 3 = .ok (.getfield 30, 3) := by decide +kernel
theorem dX6_takeEachTurn_6 : decode cX6_takeEachTurn 6 = .ok (.ishl, 1) := by decide +kernel
theorem dX6_takeEachTurn_7 : decode cX6_takeEachTurn 7 = .ok (.iconst 1, 1) := by decide +kernel
theorem dX6_takeEachTurn_8 : decode cX6_takeEachTurn 8 = .ok (.isub, 1) := by decide +kernel
theorem dX6_takeEachTurn_9 : decode cX6_takeEachTurn 9 = .ok (.if_icmp .ne 24, 3) := by decide +kernel
theorem dX6_takeEachTurn_12 : decode cX6_takeEachTurn 12 = .ok (.aload_n 0, 1) := by decide +kernel
theorem dX6_takeEachTurn_13 : decode cX6_takeEachTurn 13 = .ok (.dup, 1) := by decide +kernel
theorem dX6_takeEachTurn_14 : decode cX6_takeEachTurn 14 = .ok (.getfield 19, 3) := by decide +kernel
theorem dX6_takeEachTurn_17 : decode cX6_takeEachTurn 17 = .ok (.iload_n 3, 1) := by decide +kernel
theorem dX6_takeEachTurn_18 : decode cX6_takeEachTurn 18 = .ok (.ior, 1) := by decide +kernel
theorem dX6_takeEachTurn_19 : decode cX6_takeEachTurn 19 = .ok (.putfield 19, 3) := by decide +kernel
theorem dX6_takeEachTurn_22 : decode cX6_takeEachTurn 22 = .ok (.aload_n 0, 1) := by decide +kernel
theorem dX6_takeEachTurn_23 : decode cX6_takeEachTurn 23 = .ok (.dup, 1) := by decide +kernel
theorem dX6_takeEachTurn_24 : decode cX6_takeEachTurn 24 = .ok (.getfield 23, 3) := by decide +kernel
theorem dX6_takeEachTurn_27 : decode cX6_takeEachTurn 27 = .ok (.iload_n 3, 1) := by decide +kernel
theorem dX6_takeEachTurn_28 : decode cX6_takeEachTurn 28 = .ok (.iand, 1) := by decide +kernel
theorem dX6_takeEachTurn_29 : decode cX6_takeEachTurn 29 = .ok (.putfield 23, 3) := by decide +kernel
theorem dX6_takeEachTurn_32 : decode cX6_takeEachTurn 32 = .ok (.return_, 1) := by decide +kernel
theorem dX6_takeEachTurn_33 : decode cX6_takeEachTurn 33 = .ok (.iconst 0, 1) := by decide +kernel
theorem dX6_takeEachTurn_34 : decode cX6_takeEachTurn 34 = .ok (.istore 4, 2) := by decide +kernel
theorem dX6_takeEachTurn_36 : decode cX6_takeEachTurn 36 = .ok (.iconst 0, 1) := by decide +kernel
theorem dX6_takeEachTurn_37 : decode cX6_takeEachTurn 37 = .ok (.istore 5, 2) := by decide +kernel
theorem dX6_takeEachTurn_39 : decode cX6_takeEachTurn 39 = .ok (.iload 5, 2) := by decide +kernel
theorem dX6_takeEachTurn_41 : decode cX6_takeEachTurn 41 = .ok (.aload_n 1, 1) := by decide +kernel
theorem dX6_takeEachTurn_42 : decode cX6_takeEachTurn 42 = .ok (.getfield 30, 3) := by decide +kernel
theorem dX6_takeEachTurn_45 : decode cX6_takeEachTurn 45 = .ok (.if_icmp .ge 63, 3) := by decide +kernel
theorem dX6_takeEachTurn_48 : decode cX6_takeEachTurn 48 = .ok (.aload_n 1, 1) := by decide +kernel
theorem dX6_takeEachTurn_49 : decode cX6_takeEachTurn 49 = .ok (.getfield 42, 3) := by decide +kernel
theorem dX6_takeEachTurn_52 : decode cX6_takeEachTurn 52 = .ok (.iload 5, 2) := by decide +kernel
theorem dX6_takeEachTurn_54 : decode cX6_takeEachTurn 54 = .ok (.iaload, 1) := by decide +kernel
theorem dX6_takeEachTurn_55 : decode cX6_takeEachTurn 55 = .ok (.istore 6, 2) := by decide +kernel
theorem dX6_takeEachTurn_57 : decode cX6_takeEachTurn 57 = .ok (.iload_n 2, 1) := by decide +kernel
theorem dX6_takeEachTurn_58 : decode cX6_takeEachTurn 58 = .ok (.iload 5, 2) := by decide +kernel
theorem dX6_takeEachTurn_60 : decode cX6_takeEachTurn 60 = .ok (.ishr, 1) := by decide +kernel
theorem dX6_takeEachTurn_61 : decode cX6_takeEachTurn 61 = .ok (.iconst 1, 1) := by decide +kernel
theorem dX6_takeEachTurn_62 : decode cX6_takeEachTurn 62 = .ok (.iand, 1) := by decide +kernel
theorem dX6_takeEachTurn_63 : decode cX6_takeEachTurn 63 = .ok (.ifCond .ne 39, 3) := by decide +kernel
theorem dX6_takeEachTurn_66 : decode cX6_takeEachTurn 66 = .ok (.iload 4, 2) := by decide +kernel
theorem dX6_takeEachTurn_68 : decode cX6_takeEachTurn 68 = .ok (.iload 6, 2) := by decide +kernel
theorem dX6_takeEachTurn_70 : decode cX6_takeEachTurn 70 = .ok (.ishr, 1) := by decide +kernel
theorem dX6_takeEachTurn_71 : decode cX6_takeEachTurn 71 = .ok (.iconst 1, 1) := by decide +kernel
theorem dX6_takeEachTurn_72 : decode cX6_takeEachTurn 72 = .ok (.iand, 1) := by decide +kernel
theorem dX6_takeEachTurn_73 : decode cX6_takeEachTurn 73 = .ok (.ifCond .ne 29, 3) := by decide +kernel
theorem dX6_takeEachTurn_76 : decode cX6_takeEachTurn 76 = .ok (.iload 4, 2) := by decide +kernel
theorem dX6_takeEachTurn_78 : decode cX6_takeEachTurn 78 = .ok (.iconst 1, 1) := by decide +kernel
theorem dX6_takeEachTurn_79 : decode cX6_takeEachTurn 79 = .ok (.iload 6, 2) := by decide +kernel
theorem dX6_takeEachTurn_81 : decode cX6_takeEachTurn 81 = .ok (.ishl, 1) := by decide +kernel
theorem dX6_takeEachTurn_82 : decode cX6_takeEachTurn 82 = .ok (.ior, 1) := by decide +kernel
theorem dX6_takeEachTurn_83 : decode cX6_takeEachTurn 83 = .ok (.istore 4, 2) := by decide +kernel
theorem dX6_takeEachTurn_85 : decode cX6_takeEachTurn 85 = .ok (.aload_n 0, 1) := by decide +kernel
theorem dX6_takeEachTurn_86 : decode cX6_takeEachTurn 86 = .ok (.iload_n 2, 1) := by decide +kernel
theorem dX6_takeEachTurn_87 : decode cX6_takeEachTurn 87 = .ok (.iconst 1, 1) := by decide +kernel
theorem dX6_takeEachTurn_88 : decode cX6_takeEachTurn 88 = .ok (.iload 5, 2) := by decide +kernel
theorem dX6_takeEachTurn_90 : decode cX6_takeEachTurn 90 = .ok (.ishl, 1) := by decide +kernel
theorem dX6_takeEachTurn_91 : decode cX6_takeEachTurn 91 = .ok (.ior, 1) := by decide +kernel
theorem dX6_takeEachTurn_92 : decode cX6_takeEachTurn 92 = .ok (.aload_n 1, 1) := by decide +kernel
theorem dX6_takeEachTurn_93 : decode cX6_takeEachTurn 93 = .ok (.iload 6, 2) := by decide +kernel
theorem dX6_takeEachTurn_95 : decode cX6_takeEachTurn 95 = .ok (.iload_n 3, 1) := by decide +kernel
theorem dX6_takeEachTurn_96 : decode cX6_takeEachTurn 96 = .ok (.invokevirtual 73, 3) := by decide +kernel
theorem dX6_takeEachTurn_99 : decode cX6_takeEachTurn 99 = .ok (.invokevirtual 56, 3) := by decide +kernel
theorem dX6_takeEachTurn_102 : decode cX6_takeEachTurn 102 = .ok (.iinc 5 1, 3) := by decide +kernel
theorem dX6_takeEachTurn_105 : decode cX6_takeEachTurn 105 = .ok (.goto (-66), 3) := by decide +kernel
theorem dX6_takeEachTurn_108 : decode cX6_takeEachTurn 108 = .ok (.return_, 1) := by decide +kernel
theorem dX6_mark_0 : decode cX6_mark 0 = .ok (.iload_n 1, 1) := by decide +kernel
theorem dX6_mark_1 : decode cX6_mark 1 = .ok (.bipush 8, 2) := by decide +kernel
theorem dX6_mark_3 : decode cX6_mark 3 = .ok (.imul, 1) := by decide +kernel
theorem dX6_mark_4 : decode cX6_mark 4 = .ok (.iload_n 2, 1) := by decide +kernel
theorem dX6_mark_5 : decode cX6_mark 5 = .ok (.bipush 6, 2) := by decide +kernel
theorem dX6_mark_7 : decode cX6_mark 7 = .ok (.ishr, 1) := by decide +kernel
theorem dX6_mark_8 : decode cX6_mark 8 = .ok (.iadd, 1) := by decide +kernel
theorem dX6_mark_9 : decode cX6_mark 9 = .ok (.istore_n 3, 1) := by decide +kernel
theorem dX6_mark_10 : decode cX6_mark 10 = .ok (.iload_n 3, 1) := by decide +kernel
theorem dX6_mark_11 : decode cX6_mark 11 = .ok (.ifCond .lt 27, 3) := by decide +kernel
theorem dX6_mark_14 : decode cX6_mark 14 = .ok (.iload_n 3, 1) := by decide +kernel
theorem dX6_mark_15 : decode cX6_mark 15 = .ok (.aload_n 0, 1) := by decide +kernel
theorem dX6_mark_16 : decode cX6_mark 16 = .ok (.getfield 11, 3) := by decide +kernel
theorem dX6_mark_19 : decode cX6_mark 19 = .ok (.arraylength, 1) := by decide +kernel
theorem dX6_mark_20 : decode cX6_mark 20 = .ok (.if_icmp .ge 18, 3) := by decide +kernel
theorem dX6_mark_23 : decode cX6_mark 23 = .ok (.aload_n 0, 1) := by decide +kernel
theorem dX6_mark_24 : decode cX6_mark 24 = .ok (.getfield 11, 3) := by decide +kernel
theorem dX6_mark_27 : decode cX6_mark 27 = .ok (.iload_n 3, 1) := by decide +kernel
theorem dX6_mark_28 : decode cX6_mark 28 = .ok (.dup2, 1) := by decide +kernel
theorem dX6_mark_29 : decode cX6_mark 29 = .ok (.laload, 1) := by decide +kernel
theorem dX6_mark_30 : decode cX6_mark 30 = .ok (.lconst 1, 1) := by decide +kernel
theorem dX6_mark_31 : decode cX6_mark 31 = .ok (.iload_n 2, 1) := by decide +kernel
theorem dX6_mark_32 : decode cX6_mark 32 = .ok (.bipush 63, 2) := by decide +kernel
theorem dX6_mark_34 : decode cX6_mark 34 = .ok (.iand, 1) := by decide +kernel
theorem dX6_mark_35 : decode cX6_mark 35 = .ok (.lshl, 1) := by decide +kernel
theorem dX6_mark_36 : decode cX6_mark 36 = .ok (.lor, 1) := by decide +kernel
theorem dX6_mark_37 : decode cX6_mark 37 = .ok (.lastore, 1) := by decide +kernel
theorem dX6_mark_38 : decode cX6_mark 38 = .ok (.return_, 1) := by decide +kernel
theorem dX7_init_0 : decode cX7_init 0 = .ok (.aload_n 0, 1) := by decide +kernel
theorem dX7_init_1 : decode cX7_init 1 = .ok (.invokespecial 3, 3) := by decide +kernel
theorem dX7_init_4 : decode cX7_init 4 = .ok (.aload_n 0, 1) := by decide +kernel
theorem dX7_init_5 : decode cX7_init 5 = .ok (.new 9, 3) := by decide +kernel
theorem dX7_init_8 : decode cX7_init 8 = .ok (.dup, 1) := by decide +kernel
theorem dX7_init_9 : decode cX7_init 9 = .ok (.invokespecial 11, 3) := by decide +kernel
theorem dX7_init_12 : decode cX7_init 12 = .ok (.putfield 12, 3) := by decide +kernel
theorem dX7_init_15 : decode cX7_init 15 = .ok (.aload_n 0, 1) := by decide +kernel
theorem dX7_init_16 : decode cX7_init 16 = .ok (.new 9, 3) := by decide +kernel
theorem dX7_init_19 : decode cX7_init 19 = .ok (.dup, 1) := by decide +kernel
theorem dX7_init_20 : decode cX7_init 20 = .ok (.invokespecial 11, 3) := by decide +kernel
theorem dX7_init_23 : decode cX7_init 23 = .ok (.putfield 16, 3) := by decide +kernel
theorem dX7_init_26 : decode cX7_init 26 = .ok (.aload_n 0, 1) := by decide +kernel
theorem dX7_init_27 : decode cX7_init 27 = .ok (.new 19, 3) := by decide +kernel
theorem dX7_init_30 : decode cX7_init 30 = .ok (.dup, 1) := by decide +kernel
theorem dX7_init_31 : decode cX7_init 31 = .ok (.invokespecial 21, 3) := by decide +kernel
theorem dX7_init_34 : decode cX7_init 34 = .ok (.putfield 22, 3) := by decide +kernel
theorem dX7_init_37 : decode cX7_init 37 = .ok (.aload_n 0, 1) := by decide +kernel
theorem dX7_init_38 : decode cX7_init 38 = .ok (.new 26, 3) := by decide +kernel
theorem dX7_init_41 : decode cX7_init 41 = .ok (.dup, 1) := by decide +kernel
theorem dX7_init_42 : decode cX7_init 42 = .ok (.invokespecial 28, 3) := by decide +kernel
theorem dX7_init_45 : decode cX7_init 45 = .ok (.putfield 29, 3) := by decide +kernel
theorem dX7_init_48 : decode cX7_init 48 = .ok (.aload_n 0, 1) := by decide +kernel
theorem dX7_init_49 : decode cX7_init 49 = .ok (.new 33, 3) := by decide +kernel
theorem dX7_init_52 : decode cX7_init 52 = .ok (.dup, 1) := by decide +kernel
theorem dX7_init_53 : decode cX7_init 53 = .ok (.invokespecial 35, 3) := by decide +kernel
theorem dX7_init_56 : decode cX7_init 56 = .ok (.putfield 36, 3) := by decide +kernel
theorem dX7_init_59 : decode cX7_init 59 = .ok (.aload_n 0, 1) := by decide +kernel
theorem dX7_init_60 : decode cX7_init 60 = .ok (.new 40, 3) := by decide +kernel
theorem dX7_init_63 : decode cX7_init 63 = .ok (.dup, 1) := by decide +kernel
theorem dX7_init_64 : decode cX7_init 64 = .ok (.invokespecial 42, 3) := by decide +kernel
theorem dX7_init_67 : decode cX7_init 67 = .ok (.putfield 43, 3) := by decide +kernel
theorem dX7_init_70 : decode cX7_init 70 = .ok (.aload_n 0, 1) := by decide +kernel
theorem dX7_init_71 : decode cX7_init 71 = .ok (.new 47, 3) := by decide +kernel
theorem dX7_init_74 : decode cX7_init 74 = .ok (.dup, 1) := by decide +kernel
theorem dX7_init_75 : decode cX7_init 75 = .ok (.invokespecial 49, 3) := by decide +kernel
theorem dX7_init_78 : decode cX7_init 78 = .ok (.putfield 50, 3) := by decide +kernel
theorem dX7_init_81 : decode cX7_init 81 = .ok (.aload_n 0, 1) := by decide +kernel
theorem dX7_init_82 : decode cX7_init 82 = .ok (.new 54, 3) := by decide +kernel
theorem dX7_init_85 : decode cX7_init 85 = .ok (.dup, 1) := by decide +kernel
theorem dX7_init_86 : decode cX7_init 86 = .ok (.invokespecial 56, 3) := by decide +kernel
theorem dX7_init_89 : decode cX7_init 89 = .ok (.putfield 57, 3) := by decide +kernel
theorem dX7_init_92 : decode cX7_init 92 = .ok (.aload_n 0, 1) := by decide +kernel
theorem dX7_init_93 : decode cX7_init 93 = .ok (.bipush 9, 2) := by decide +kernel
theorem dX7_init_95 : decode cX7_init 95 = .ok (.newarray .int, 2) := by decide +kernel
theorem dX7_init_97 : decode cX7_init 97 = .ok (.putfield 61, 3) := by decide +kernel
theorem dX7_init_100 : decode cX7_init 100 = .ok (.return_, 1) := by decide +kernel
theorem dX7_feed_0 : decode cX7_feed 0 = .ok (.aload_n 0, 1) := by decide +kernel
theorem dX7_feed_1 : decode cX7_feed 1 = .ok (.getfield 22, 3) := by decide +kernel
theorem dX7_feed_4 : decode cX7_feed 4 = .ok (.bipush 20, 2) := by decide +kernel
theorem dX7_feed_6 : decode cX7_feed 6 = .ok (.invokevirtual 65, 3) := by decide +kernel
theorem dX7_feed_9 : decode cX7_feed 9 = .ok (.ifCond .ne 5, 3) := by decide +kernel
theorem dX7_feed_12 : decode cX7_feed 12 = .ok (.iconst (-1), 1) := by decide +kernel
theorem dX7_feed_13 : decode cX7_feed 13 = .ok (.ireturn, 1) := by decide +kernel
theorem dX7_feed_14 : decode cX7_feed 14 = .ok (.aload_n 0, 1) := by decide +kernel
theorem dX7_feed_15 : decode cX7_feed 15 = .ok (.getfield 22, 3) := by decide +kernel
theorem dX7_feed_18 : decode cX7_feed 18 = .ok (.iload_n 1, 1) := by decide +kernel
theorem dX7_feed_19 : decode cX7_feed 19 = .ok (.invokevirtual 69, 3) := by decide +kernel
theorem dX7_feed_22 : decode cX7_feed 22 = .ok (.aload_n 0, 1) := by decide +kernel
theorem dX7_feed_23 : decode cX7_feed 23 = .ok (.getfield 22, 3) := by decide +kernel
theorem dX7_feed_26 : decode cX7_feed 26 = .ok (.iload_n 2, 1) := by decide +kernel
theorem dX7_feed_27 : decode cX7_feed 27 = .ok (.invokevirtual 69, 3) := by decide +kernel
theorem dX7_feed_30 : decode cX7_feed 30 = .ok (.aload_n 0, 1) := by decide +kernel
theorem dX7_feed_31 : decode cX7_feed 31 = .ok (.getfield 22, 3) := by decide +kernel
theorem dX7_feed_34 : decode cX7_feed 34 = .ok (.iload_n 3, 1) := by decide +kernel
theorem dX7_feed_35 : decode cX7_feed 35 = .ok (.invokevirtual 69, 3) := by decide +kernel
theorem dX7_feed_38 : decode cX7_feed 38 = .ok (.aload_n 0, 1) := by decide +kernel
theorem dX7_feed_39 : decode cX7_feed 39 = .ok (.getfield 22, 3) := by decide +kernel
theorem dX7_feed_42 : decode cX7_feed 42 = .ok (.iload 4, 2) := by decide +kernel
theorem dX7_feed_44 : decode cX7_feed 44 = .ok (.invokevirtual 69, 3) := by decide +kernel
theorem dX7_feed_47 : decode cX7_feed 47 = .ok (.aload_n 0, 1) := by decide +kernel
theorem dX7_feed_48 : decode cX7_feed 48 = .ok (.getfield 22, 3) := by decide +kernel
theorem dX7_feed_51 : decode cX7_feed 51 = .ok (.iload 5, 2) := by decide +kernel
theorem dX7_feed_53 : decode cX7_feed 53 = .ok (.invokevirtual 69, 3) := by decide +kernel
theorem dX7_feed_56 : decode cX7_feed 56 = .ok (.aload_n 0, 1) := by decide +kernel
theorem dX7_feed_57 : decode cX7_feed 57 = .ok (.getfield 22, 3) := by decide +kernel
theorem dX7_feed_60 : decode cX7_feed 60 = .ok (.getfield 73, 3) := by decide +kernel
theorem dX7_feed_63 : decode cX7_feed 63 = .ok (.ireturn, 1) := by decide +kernel
theorem dX7_hall_0 : decode cX7_hall 0 = .ok (.iload_n 1, 1) := by decide +kernel
theorem dX7_hall_1 : decode cX7_hall 1 = .ok (.ifCond .lt 14, 3) := by decide +kernel
theorem dX7_hall_4 : decode cX7_hall 4 = .ok (.iload_n 1, 1) := by decide +kernel
theorem dX7_hall_5 : decode cX7_hall 5 = .ok (.aload_n 0, 1) := by decide +kernel
theorem dX7_hall_6 : decode cX7_hall 6 = .ok (.getfield 22, 3) := by decide +kernel
theorem dX7_hall_9 : decode cX7_hall 9 = .ok (.getfield 73, 3) := by decide +kernel
theorem dX7_hall_12 : decode cX7_hall 12 = .ok (.if_icmp .le 13, 3) := by decide +kernel
theorem dX7_hall_15 : decode cX7_hall 15 = .ok (.new 77, 3) := by decide +kernel
theorem dX7_hall_18 : decode cX7_hall 18 = .ok (.dup, 1) := by decide +kernel
theorem dX7_hall_19 : decode cX7_hall 19 = .ok (.ldc 79, 2) := by decide +kernel
theorem dX7_hall_21 : decode cX7_hall 21 = .ok (.invokespecial 81, 3) := by decide +kernel
theorem dX7_hall_24 : decode cX7_hall 24 = .ok (.athrow, 1) := by decide +kernel
theorem dX7_hall_25 : decode cX7_hall 25 = .ok (.aload_n 0, 1) := by decide +kernel
theorem dX7_hall_26 : decode cX7_hall 26 = .ok (.getfield 22, 3) := by decide +kernel
theorem dX7_hall_29 : decode cX7_hall 29 = .ok (.iload_n 1, 1) := by decide +kernel
theorem dX7_hall_30 : decode cX7_hall 30 = .ok (.invokevirtual 84, 3) := by decide +kernel
theorem dX7_hall_33 : decode cX7_hall 33 = .ok (.istore_n 2, 1) := by decide +kernel
theorem dX7_hall_34 : decode cX7_hall 34 = .ok (.iload_n 2, 1) := by decide +kernel
theorem dX7_hall_35 : decode cX7_hall 35 = .ok (.ifCond .ne 21, 3) := by decide +kernel
theorem dX7_hall_38 : decode cX7_hall 38 = .ok (.aload_n 0, 1) := by decide +kernel
theorem dX7_hall_39 : decode cX7_hall 39 = .ok (.getfield 12, 3) := by decide +kernel
theorem dX7_hall_42 : decode cX7_hall 42 = .ok (.aload_n 0, 1) := by decide +kernel
theorem dX7_hall_43 : decode cX7_hall 43 = .ok (.getfield 22, 3) := by decide +kernel
theorem dX7_hall_46 : decode cX7_hall 46 = .ok (.getfield 88, 3) := by decide +kernel
theorem dX7_hall_49 : decode cX7_hall 49 = .ok (.invokevirtual 91, 3) := by decide +kernel
theorem dX7_hall_52 : decode cX7_hall 52 = .ok (.aload_n 0, 1) := by decide +kernel
theorem dX7_hall_53 : decode cX7_hall 53 = .ok (.invokevirtual 95, 3) := by decide +kernel
theorem dX7_hall_56 : decode cX7_hall 56 = .ok (.iload_n 2, 1) := by decide +kernel
theorem dX7_hall_57 : decode cX7_hall 57 = .ok (.ireturn, 1) := by decide +kernel
theorem dX7_forgetOldHall_0 : decode cX7_forgetOldHall 0 = .ok (.aload_n 0, 1) := by decide +kernel
theorem dX7_forgetOldHall_1 : decode cX7_forgetOldHall 1 = .ok (.getfield 43, 3) := by decide +kernel
theorem dX7_forgetOldHall_4 : decode cX7_forgetOldHall 4 = .ok (.invokevirtual 98, 3) := by decide +kernel
theorem dX7_forgetOldHall_7 : decode cX7_forgetOldHall 7 = .ok (.aload_n 0, 1) := by decide +kernel
theorem dX7_forgetOldHall_8 : decode cX7_forgetOldHall 8 = .ok (.getfield 50, 3) := by decide +kernel
theorem dX7_forgetOldHall_11 : decode cX7_forgetOldHall 11 = .ok (.invokevirtual 101, 3) := by decide +kernel
theorem dX7_forgetOldHall_14 : decode cX7_forgetOldHall 14 = .ok (.aload_n 0, 1) := by decide +kernel
theorem dX7_forgetOldHall_15 : decode cX7_forgetOldHall 15 = .ok (.getfield 57, 3) := by decide +kernel
theorem dX7_forgetOldHall_18 : decode cX7_forgetOldHall 18 = .ok (.invokevirtual 102, 3) := by decide +kernel
theorem dX7_forgetOldHall_21 : decode cX7_forgetOldHall 21 = .ok (.return_, 1) := by decide +kernel
theorem dX7_fault_0 : decode cX7_fault 0 = .ok (.aload_n 0, 1) := by decide +kernel
theorem dX7_fault_1 : decode cX7_fault 1 = .ok (.getfield 22, 3) := by decide +kernel
theorem dX7_fault_4 : decode cX7_fault 4 = .ok (.getfield 105, 3) := by decide +kernel
theorem dX7_fault_7 : decode cX7_fault 7 = .ok (.ireturn, 1) := by decide +kernel
theorem dX7_count_0 : decode cX7_count 0 = .ok (.iload_n 1, 1) := by decide +kernel
theorem dX7_count_1 : decode cX7_count 1 = .ok (.tableswitch 99 0 6 #[43, 51, 59, 67, 75, 83, 91], 43) := by decide +kernel
theorem dX7_count_44 : decode cX7_count 44 = .ok (.aload_n 0, 1) := by decide +kernel
theorem dX7_count_45 : decode cX7_count 45 = .ok (.getfield 12, 3) := by decide +kernel
theorem dX7_count_48 : decode cX7_count 48 = .ok (.getfield 108, 3) := by decide +kernel
theorem dX7_count_51 : decode cX7_count 51 = .ok (.ireturn, 1) := by decide +kernel
theorem dX7_count_52 : decode cX7_count 52 = .ok (.aload_n 0, 1) := by decide +kernel
theorem dX7_count_53 : decode cX7_count 53 = .ok (.getfield 12, 3) := by decide +kernel
theorem dX7_count_56 : decode cX7_count 56 = .ok (.getfield 111, 3) := by decide +kernel
theorem dX7_count_59 : decode cX7_count 59 = .ok (.ireturn, 1) := by decide +kernel
theorem dX7_count_60 : decode cX7_count 60 = .ok (.aload_n 0, 1) := by decide +kernel
theorem dX7_count_61 : decode cX7_count 61 = .ok (.getfield 12, 3) := by decide +kernel
theorem dX7_count_64 : decode cX7_count 64 = .ok (.getfield 114, 3) := by decide +kernel
theorem dX7_count_67 : decode cX7_count 67 = .ok (.ireturn, 1) := by decide +kernel
theorem dX7_count_68 : decode cX7_count 68 = .ok (.aload_n 0, 1) := by decide +kernel
theorem dX7_count_69 : decode cX7_count 69 = .ok (.getfield 12, 3) := by decide +kernel
theorem dX7_count_72 : decode cX7_count 72 = .ok (.getfield 117, 3) := by decide +kernel
theorem dX7_count_75 : decode cX7_count 75 = .ok (.ireturn, 1) := by decide +kernel
theorem dX7_count_76 : decode cX7_count 76 = .ok (.aload_n 0, 1) := by decide +kernel
theorem dX7_count_77 : decode cX7_count 77 = .ok (.getfield 57, 3) := by decide +kernel
theorem dX7_count_80 : decode cX7_count 80 = .ok (.getfield 120, 3) := by decide +kernel
theorem dX7_count_83 : decode cX7_count 83 = .ok (.ireturn, 1) := by decide +kernel
theorem dX7_count_84 : decode cX7_count 84 = .ok (.aload_n 0, 1) := by decide +kernel
theorem dX7_count_85 : decode cX7_count 85 = .ok (.getfield 22, 3) := by decide +kernel
theorem dX7_count_88 : decode cX7_count 88 = .ok (.getfield 73, 3) := by decide +kernel
theorem dX7_count_91 : decode cX7_count 91 = .ok (.ireturn, 1) := by decide +kernel
theorem dX7_count_92 : decode cX7_count 92 = .ok (.aload_n 0, 1) := by decide +kernel
theorem dX7_count_93 : decode cX7_count 93 = .ok (.getfield 12, 3) := by decide +kernel
theorem dX7_count_96 : decode cX7_count 96 = .ok (.getfield 123, 3) := by decide +kernel
theorem dX7_count_99 : decode cX7_count 99 = .ok (.ireturn, 1) := by decide +kernel
theorem dX7_count_100 : decode cX7_count 100 = .ok (.new 126, 3) := by decide +kernel
theorem dX7_count_103 : decode cX7_count 103 = .ok (.dup, 1) := by decide +kernel
theorem dX7_count_104 : decode cX7_count 104 = .ok (.ldc 128, 2) := by decide +kernel
theorem dX7_count_106 : decode cX7_count 106 = .ok (.invokespecial 130, 3) := by decide +kernel
theorem dX7_count_109 : decode cX7_count 109 = .ok (.athrow, 1) := by decide +kernel
theorem dX7_place_0 : decode cX7_place 0 = .ok (.aload_n 0, 1) := by decide +kernel
theorem dX7_place_1 : decode cX7_place 1 = .ok (.iload_n 1, 1) := by decide +kernel
theorem dX7_place_2 : decode cX7_place 2 = .ok (.invokevirtual 131, 3) := by decide +kernel
theorem dX7_place_5 : decode cX7_place 5 = .ok (.aload_n 0, 1) := by decide +kernel
theorem dX7_place_6 : decode cX7_place 6 = .ok (.iload_n 2, 1) := by decide +kernel
theorem dX7_place_7 : decode cX7_place 7 = .ok (.invokevirtual 134, 3) := by decide +kernel
theorem dX7_place_10 : decode cX7_place 10 = .ok (.aload_n 0, 1) := by decide +kernel
theorem dX7_place_11 : decode cX7_place 11 = .ok (.getfield 12, 3) := by decide +kernel
theorem dX7_place_14 : decode cX7_place 14 = .ok (.iload_n 1, 1) := by decide +kernel
theorem dX7_place_15 : decode cX7_place 15 = .ok (.iload_n 2, 1) := by decide +kernel
theorem dX7_place_16 : decode cX7_place 16 = .ok (.invokevirtual 137, 3) := by decide +kernel
theorem dX7_place_19 : decode cX7_place 19 = .ok (.ireturn, 1) := by decide +kernel
theorem dX7_turn_0 : decode cX7_turn 0 = .ok (.iload_n 1, 1) := by decide +kernel
theorem dX7_turn_1 : decode cX7_turn 1 = .ok (.ifCond .lt 14, 3) := by decide +kernel
theorem dX7_turn_4 : decode cX7_turn 4 = .ok (.iload_n 1, 1) := by decide +kernel
theorem dX7_turn_5 : decode cX7_turn 5 = .ok (.aload_n 0, 1) := by decide +kernel
theorem dX7_turn_6 : decode cX7_turn 6 = .ok (.getfield 12, 3) := by decide +kernel
theorem dX7_turn_9 : decode cX7_turn 9 = .ok (.getfield 114, 3) := by decide +kernel
theorem dX7_turn_12 : decode cX7_turn 12 = .ok (.if_icmp .lt 13, 3) := by decide +kernel
theorem dX7_turn_15 : decode cX7_turn 15 = .ok (.new 126, 3) := by decide +kernel
theorem dX7_turn_18 : decode cX7_turn 18 = .ok (.dup, 1) := by decide +kernel
theorem dX7_turn_19 : decode cX7_turn 19 = .ok (.ldc 141, 2) := by decide +kernel
theorem dX7_turn_21 : decode cX7_turn 21 = .ok (.invokespecial 130, 3) := by decide +kernel
theorem dX7_turn_24 : decode cX7_turn 24 = .ok (.athrow, 1) := by decide +kernel
theorem dX7_turn_25 : decode cX7_turn 25 = .ok (.aload_n 0, 1) := by decide +kernel
theorem dX7_turn_26 : decode cX7_turn 26 = .ok (.getfield 12, 3) := by decide +kernel
theorem dX7_turn_29 : decode cX7_turn 29 = .ok (.getfield 143, 3) := by decide +kernel
theorem dX7_turn_32 : decode cX7_turn 32 = .ok (.iload_n 1, 1) := by decide +kernel
theorem dX7_turn_33 : decode cX7_turn 33 = .ok (.iaload, 1) := by decide +kernel
theorem dX7_turn_34 : decode cX7_turn 34 = .ok (.ireturn, 1) := by decide +kernel
theorem dX7_may_0 : decode cX7_may 0 = .ok (.aload_n 0, 1) := by decide +kernel
theorem dX7_may_1 : decode cX7_may 1 = .ok (.getfield 12, 3) := by decide +kernel
theorem dX7_may_4 : decode cX7_may 4 = .ok (.iload_n 1, 1) := by decide +kernel
theorem dX7_may_5 : decode cX7_may 5 = .ok (.invokevirtual 146, 3) := by decide +kernel
theorem dX7_may_8 : decode cX7_may 8 = .ok (.ireturn, 1) := by decide +kernel
theorem dX7_keep_0 : decode cX7_keep 0 = .ok (.aload_n 0, 1) := by decide +kernel
theorem dX7_keep_1 : decode cX7_keep 1 = .ok (.iload_n 2, 1) := by decide +kernel
theorem dX7_keep_2 : decode cX7_keep 2 = .ok (.invokevirtual 134, 3) := by decide +kernel
theorem dX7_keep_5 : decode cX7_keep 5 = .ok (.aload_n 0, 1) := by decide +kernel
theorem dX7_keep_6 : decode cX7_keep 6 = .ok (.getfield 12, 3) := by decide +kernel
theorem dX7_keep_9 : decode cX7_keep 9 = .ok (.iload_n 1, 1) := by decide +kernel
theorem dX7_keep_10 : decode cX7_keep 10 = .ok (.iload_n 2, 1) := by decide +kernel
theorem dX7_keep_11 : decode cX7_keep 11 = .ok (.invokevirtual 149, 3) := by decide +kernel
theorem dX7_keep_14 : decode cX7_keep 14 = .ok (.ireturn, 1) := by decide +kernel
theorem dX7_strikes_0 : decode cX7_strikes 0 = .ok (.aload_n 0, 1) := by decide +kernel
theorem dX7_strikes_1 : decode cX7_strikes 1 = .ok (.iload_n 2, 1) := by decide +kernel
theorem dX7_strikes_2 : decode cX7_strikes 2 = .ok (.invokevirtual 134, 3) := by decide +kernel
theorem dX7_strikes_5 : decode cX7_strikes 5 = .ok (.iload_n 1, 1) := by decide +kernel
theorem dX7_strikes_6 : decode cX7_strikes 6 = .ok (.aload_n 0, 1) := by decide +kernel
theorem dX7_strikes_7 : decode cX7_strikes 7 = .ok (.getfield 12, 3) := by decide +kernel
theorem dX7_strikes_10 : decode cX7_strikes 10 = .ok (.invokevirtual 152, 3) := by decide +kernel
theorem dX7_strikes_13 : decode cX7_strikes 13 = .ok (.iand, 1) := by decide +kernel
theorem dX7_strikes_14 : decode cX7_strikes 14 = .ok (.istore_n 3, 1) := by decide +kernel
theorem dX7_strikes_15 : decode cX7_strikes 15 = .ok (.iload_n 3, 1) := by decide +kernel
theorem dX7_strikes_16 : decode cX7_strikes 16 = .ok (.ifCond .eq 38, 3) := by decide +kernel
theorem dX7_strikes_19 : decode cX7_strikes 19 = .ok (.aload_n 0, 1) := by decide +kernel
theorem dX7_strikes_20 : decode cX7_strikes 20 = .ok (.getfield 12, 3) := by decide +kernel
theorem dX7_strikes_23 : decode cX7_strikes 23 = .ok (.iload_n 3, 1) := by decide +kernel
theorem dX7_strikes_24 : decode cX7_strikes 24 = .ok (.iload_n 2, 1) := by decide +kernel
theorem dX7_strikes_25 : decode cX7_strikes 25 = .ok (.invokevirtual 149, 3) := by decide +kernel
theorem dX7_strikes_28 : decode cX7_strikes 28 = .ok (.invokestatic 156, 3) := by decide +kernel
theorem dX7_strikes_31 : decode cX7_strikes 31 = .ok (.aload_n 0, 1) := by decide +kernel
theorem dX7_strikes_32 : decode cX7_strikes 32 = .ok (.getfield 12, 3) := by decide +kernel
theorem dX7_strikes_35 : decode cX7_strikes 35 = .ok (.getfield 108, 3) := by decide +kernel
theorem dX7_strikes_38 : decode cX7_strikes 38 = .ok (.aload_n 0, 1) := by decide +kernel
theorem dX7_strikes_39 : decode cX7_strikes 39 = .ok (.getfield 12, 3) := by decide +kernel
theorem dX7_strikes_42 : decode cX7_strikes 42 = .ok (.iload_n 3, 1) := by decide +kernel
theorem dX7_strikes_43 : decode cX7_strikes 43 = .ok (.invokevirtual 146, 3) := by decide +kernel
theorem dX7_strikes_46 : decode cX7_strikes 46 = .ok (.isub, 1) := by decide +kernel
theorem dX7_strikes_47 : decode cX7_strikes 47 = .ok (.if_icmp .lt 7, 3) := by decide +kernel
theorem dX7_strikes_50 : decode cX7_strikes 50 = .ok (.iconst 1, 1) := by decide +kernel
theorem dX7_strikes_51 : decode cX7_strikes 51 = .ok (.goto 4, 3) := by decide +kernel
theorem dX7_strikes_54 : decode cX7_strikes 54 = .ok (.iconst 0, 1) := by decide +kernel
theorem dX7_strikes_55 : decode cX7_strikes 55 = .ok (.ireturn, 1) := by decide +kernel
theorem dX7_striker_0 : decode cX7_striker 0 = .ok (.aload_n 0, 1) := by decide +kernel
theorem dX7_striker_1 : decode cX7_striker 1 = .ok (.iload_n 1, 1) := by decide +kernel
theorem dX7_striker_2 : decode cX7_striker 2 = .ok (.invokevirtual 134, 3) := by decide +kernel
theorem dX7_striker_5 : decode cX7_striker 5 = .ok (.aload_n 0, 1) := by decide +kernel
theorem dX7_striker_6 : decode cX7_striker 6 = .ok (.getfield 29, 3) := by decide +kernel
theorem dX7_striker_9 : decode cX7_striker 9 = .ok (.aload_n 0, 1) := by decide +kernel
theorem dX7_striker_10 : decode cX7_striker 10 = .ok (.getfield 12, 3) := by decide +kernel
theorem dX7_striker_13 : decode cX7_striker 13 = .ok (.invokevirtual 161, 3) := by decide +kernel
theorem dX7_striker_16 : decode cX7_striker 16 = .ok (.aload_n 0, 1) := by decide +kernel
theorem dX7_striker_17 : decode cX7_striker 17 = .ok (.getfield 29, 3) := by decide +kernel
theorem dX7_striker_20 : decode cX7_striker 20 = .ok (.aload_n 0, 1) := by decide +kernel
theorem dX7_striker_21 : decode cX7_striker 21 = .ok (.getfield 12, 3) := by decide +kernel
theorem dX7_striker_24 : decode cX7_striker 24 = .ok (.iload_n 1, 1) := by decide +kernel
theorem dX7_striker_25 : decode cX7_striker 25 = .ok (.iconst 0, 1) := by decide +kernel
theorem dX7_striker_26 : decode cX7_striker 26 = .ok (.invokevirtual 164, 3) := by decide +kernel
theorem dX7_striker_29 : decode cX7_striker 29 = .ok (.ireturn, 1) := by decide +kernel
theorem dX7_core_0 : decode cX7_core 0 = .ok (.aload_n 0, 1) := by decide +kernel
theorem dX7_core_1 : decode cX7_core 1 = .ok (.getfield 29, 3) := by decide +kernel
theorem dX7_core_4 : decode cX7_core 4 = .ok (.aload_n 0, 1) := by decide +kernel
theorem dX7_core_5 : decode cX7_core 5 = .ok (.getfield 12, 3) := by decide +kernel
theorem dX7_core_8 : decode cX7_core 8 = .ok (.invokevirtual 168, 3) := by decide +kernel
theorem dX7_core_11 : decode cX7_core 11 = .ok (.ireturn, 1) := by decide +kernel
theorem dX7_some_0 : decode cX7_some 0 = .ok (.aload_n 0, 1) := by decide +kernel
theorem dX7_some_1 : decode cX7_some 1 = .ok (.iload_n 1, 1) := by decide +kernel
theorem dX7_some_2 : decode cX7_some 2 = .ok (.invokevirtual 172, 3) := by decide +kernel
theorem dX7_some_5 : decode cX7_some 5 = .ok (.aload_n 0, 1) := by decide +kernel
theorem dX7_some_6 : decode cX7_some 6 = .ok (.getfield 12, 3) := by decide +kernel
theorem dX7_some_9 : decode cX7_some 9 = .ok (.invokevirtual 175, 3) := by decide +kernel
theorem dX7_some_12 : decode cX7_some 12 = .ok (.istore_n 2, 1) := by decide +kernel
theorem dX7_some_13 : decode cX7_some 13 = .ok (.iconst 0, 1) := by decide +kernel
theorem dX7_some_14 : decode cX7_some 14 = .ok (.istore_n 3, 1) := by decide +kernel
theorem dX7_some_15 : decode cX7_some 15 = .ok (.iload_n 3, 1) := by decide +kernel
theorem dX7_some_16 : decode cX7_some 16 = .ok (.aload_n 0, 1) := by decide +kernel
theorem dX7_some_17 : decode cX7_some 17 = .ok (.getfield 12, 3) := by decide +kernel
theorem dX7_some_20 : decode cX7_some 20 = .ok (.getfield 111, 3) := by decide +kernel
theorem dX7_some_23 : decode cX7_some 23 = .ok (.if_icmp .ge 38, 3) := by decide +kernel
theorem dX7_some_26 : decode cX7_some 26 = .ok (.iload_n 1, 1) := by decide +kernel
theorem dX7_some_27 : decode cX7_some 27 = .ok (.iload_n 3, 1) := by decide +kernel
theorem dX7_some_28 : decode cX7_some 28 = .ok (.invokestatic 178, 3) := by decide +kernel
theorem dX7_some_31 : decode cX7_some 31 = .ok (.istore 4, 2) := by decide +kernel
theorem dX7_some_33 : decode cX7_some 33 = .ok (.aload_n 0, 1) := by decide +kernel
theorem dX7_some_34 : decode cX7_some 34 = .ok (.getfield 12, 3) := by decide +kernel
theorem dX7_some_37 : decode cX7_some 37 = .ok (.iload 4, 2) := by decide +kernel
theorem dX7_some_39 : decode cX7_some 39 = .ok (.iload_n 2, 1) := by decide +kernel
theorem dX7_some_40 : decode cX7_some 40 = .ok (.aload_n 0, 1) := by decide +kernel
theorem dX7_some_41 : decode cX7_some 41 = .ok (.getfield 12, 3) := by decide +kernel
theorem dX7_some_44 : decode cX7_some 44 = .ok (.iconst 1, 1) := by decide +kernel
theorem dX7_some_45 : decode cX7_some 45 = .ok (.iload 4, 2) := by decide +kernel
theorem dX7_some_47 : decode cX7_some 47 = .ok (.ishl, 1) := by decide +kernel
theorem dX7_some_48 : decode cX7_some 48 = .ok (.invokevirtual 146, 3) := by decide +kernel
theorem dX7_some_51 : decode cX7_some 51 = .ok (.invokevirtual 181, 3) := by decide +kernel
theorem dX7_some_54 : decode cX7_some 54 = .ok (.istore_n 2, 1) := by decide +kernel
theorem dX7_some_55 : decode cX7_some 55 = .ok (.iinc 3 1, 3) := by decide +kernel
theorem dX7_some_58 : decode cX7_some 58 = .ok (.goto (-43), 3) := by decide +kernel
theorem dX7_some_61 : decode cX7_some 61 = .ok (.iload_n 2, 1) := by decide +kernel
theorem dX7_some_62 : decode cX7_some 62 = .ok (.ireturn, 1) := by decide +kernel
theorem dX7_personInRow_0 : decode cX7_personInRow 0 = .ok (.iload_n 0, 1) := by decide +kernel
theorem dX7_personInRow_1 : decode cX7_personInRow 1 = .ok (.iconst 3, 1) := by decide +kernel
theorem dX7_personInRow_2 : decode cX7_personInRow 2 = .ok (.iload_n 1, 1) := by decide +kernel
theorem dX7_personInRow_3 : decode cX7_personInRow 3 = .ok (.imul, 1) := by decide +kernel
theorem dX7_personInRow_4 : decode cX7_personInRow 4 = .ok (.ishr, 1) := by decide +kernel
theorem dX7_personInRow_5 : decode cX7_personInRow 5 = .ok (.bipush 7, 2) := by decide +kernel
theorem dX7_personInRow_7 : decode cX7_personInRow 7 = .ok (.iand, 1) := by decide +kernel
theorem dX7_personInRow_8 : decode cX7_personInRow 8 = .ok (.ireturn, 1) := by decide +kernel
theorem dX7_needWholeRow_0 : decode cX7_needWholeRow 0 = .ok (.iconst 0, 1) := by decide +kernel
theorem dX7_needWholeRow_1 : decode cX7_needWholeRow 1 = .ok (.istore_n 2, 1) := by decide +kernel
theorem dX7_needWholeRow_2 : decode cX7_needWholeRow 2 = .ok (.iconst 0, 1) := by decide +kernel
theorem dX7_needWholeRow_3 : decode cX7_needWholeRow 3 = .ok (.istore_n 3, 1) := by decide +kernel
theorem dX7_needWholeRow_4 : decode cX7_needWholeRow 4 = .ok (.iload_n 3, 1) := by decide +kernel
theorem dX7_needWholeRow_5 : decode cX7_needWholeRow 5 = .ok (.aload_n 0, 1) := by decide +kernel
theorem dX7_needWholeRow_6 : decode cX7_needWholeRow 6 = .ok (.getfield 12, 3) := by decide +kernel
theorem dX7_needWholeRow_9 : decode cX7_needWholeRow 9 = .ok (.getfield 111, 3) := by decide +kernel
theorem dX7_needWholeRow_12 : decode cX7_needWholeRow 12 = .ok (.if_icmp .ge 49, 3) := by decide +kernel
theorem dX7_needWholeRow_15 : decode cX7_needWholeRow 15 = .ok (.iload_n 1, 1) := by decide +kernel
theorem dX7_needWholeRow_16 : decode cX7_needWholeRow 16 = .ok (.iload_n 3, 1) := by decide +kernel
theorem dX7_needWholeRow_17 : decode cX7_needWholeRow 17 = .ok (.invokestatic 178, 3) := by decide +kernel
theorem dX7_needWholeRow_20 : decode cX7_needWholeRow 20 = .ok (.istore 4, 2) := by decide +kernel
theorem dX7_needWholeRow_22 : decode cX7_needWholeRow 22 = .ok (.aload_n 0, 1) := by decide +kernel
theorem dX7_needWholeRow_23 : decode cX7_needWholeRow 23 = .ok (.iload 4, 2) := by decide +kernel
theorem dX7_needWholeRow_25 : decode cX7_needWholeRow 25 = .ok (.invokevirtual 131, 3) := by decide +kernel
theorem dX7_needWholeRow_28 : decode cX7_needWholeRow 28 = .ok (.iload_n 2, 1) := by decide +kernel
theorem dX7_needWholeRow_29 : decode cX7_needWholeRow 29 = .ok (.iload 4, 2) := by decide +kernel
theorem dX7_needWholeRow_31 : decode cX7_needWholeRow 31 = .ok (.ishr, 1) := by decide +kernel
theorem dX7_needWholeRow_32 : decode cX7_needWholeRow 32 = .ok (.iconst 1, 1) := by decide +kernel
theorem dX7_needWholeRow_33 : decode cX7_needWholeRow 33 = .ok (.iand, 1) := by decide +kernel
theorem dX7_needWholeRow_34 : decode cX7_needWholeRow 34 = .ok (.iconst 1, 1) := by decide +kernel
theorem dX7_needWholeRow_35 : decode cX7_needWholeRow 35 = .ok (.if_icmp .ne 13, 3) := by decide +kernel
theorem dX7_needWholeRow_38 : decode cX7_needWholeRow 38 = .ok (.new 126, 3) := by decide +kernel
theorem dX7_needWholeRow_41 : decode cX7_needWholeRow 41 = .ok (.dup, 1) := by decide +kernel
theorem dX7_needWholeRow_42 : decode cX7_needWholeRow 42 = .ok (.ldc 185, 2) := by decide +kernel
theorem dX7_needWholeRow_44 : decode cX7_needWholeRow 44 = .ok (.invokespecial 130, 3) := by decide +kernel
theorem dX7_needWholeRow_47 : decode cX7_needWholeRow 47 = .ok (.athrow, 1) := by decide +kernel
theorem dX7_needWholeRow_48 : decode cX7_needWholeRow 48 = .ok (.iload_n 2, 1) := by decide +kernel
theorem dX7_needWholeRow_49 : decode cX7_needWholeRow 49 = .ok (.iconst 1, 1) := by decide +kernel
theorem dX7_needWholeRow_50 : decode cX7_needWholeRow 50 = .ok (.iload 4, 2) := by decide +kernel
theorem dX7_needWholeRow_52 : decode cX7_needWholeRow 52 = .ok (.ishl, 1) := by decide +kernel
theorem dX7_needWholeRow_53 : decode cX7_needWholeRow 53 = .ok (.ior, 1) := by decide +kernel
theorem dX7_needWholeRow_54 : decode cX7_needWholeRow 54 = .ok (.istore_n 2, 1) := by decide +kernel
theorem dX7_needWholeRow_55 : decode cX7_needWholeRow 55 = .ok (.iinc 3 1, 3) := by decide +kernel
theorem dX7_needWholeRow_58 : decode cX7_needWholeRow 58 = .ok (.goto (-54), 3) := by decide +kernel
theorem dX7_needWholeRow_61 : decode cX7_needWholeRow 61 = .ok (.return_, 1) := by decide +kernel
theorem dX7_plain_0 : decode cX7_plain 0 = .ok (.aload_n 0, 1) := by decide +kernel
theorem dX7_plain_1 : decode cX7_plain 1 = .ok (.getfield 12, 3) := by decide +kernel
theorem dX7_plain_4 : decode cX7_plain 4 = .ok (.invokevirtual 187, 3) := by decide +kernel
theorem dX7_plain_7 : decode cX7_plain 7 = .ok (.ireturn, 1) := by decide +kernel
theorem dX7_rows_0 : decode cX7_rows 0 = .ok (.iload_n 1, 1) := by decide +kernel
theorem dX7_rows_1 : decode cX7_rows 1 = .ok (.tableswitch 59 0 2 #[27, 39, 51], 27) := by decide +kernel
theorem dX7_rows_28 : decode cX7_rows 28 = .ok (.aload_n 0, 1) := by decide +kernel
theorem dX7_rows_29 : decode cX7_rows 29 = .ok (.getfield 43, 3) := by decide +kernel
theorem dX7_rows_32 : decode cX7_rows 32 = .ok (.aload_n 0, 1) := by decide +kernel
theorem dX7_rows_33 : decode cX7_rows 33 = .ok (.getfield 12, 3) := by decide +kernel
theorem dX7_rows_36 : decode cX7_rows 36 = .ok (.invokevirtual 190, 3) := by decide +kernel
theorem dX7_rows_39 : decode cX7_rows 39 = .ok (.ireturn, 1) := by decide +kernel
theorem dX7_rows_40 : decode cX7_rows 40 = .ok (.aload_n 0, 1) := by decide +kernel
theorem dX7_rows_41 : decode cX7_rows 41 = .ok (.getfield 43, 3) := by decide +kernel
theorem dX7_rows_44 : decode cX7_rows 44 = .ok (.aload_n 0, 1) := by decide +kernel
theorem dX7_rows_45 : decode cX7_rows 45 = .ok (.getfield 12, 3) := by decide +kernel
theorem dX7_rows_48 : decode cX7_rows 48 = .ok (.invokevirtual 193, 3) := by decide +kernel
theorem dX7_rows_51 : decode cX7_rows 51 = .ok (.ireturn, 1) := by decide +kernel
theorem dX7_rows_52 : decode cX7_rows 52 = .ok (.aload_n 0, 1) := by decide +kernel
theorem dX7_rows_53 : decode cX7_rows 53 = .ok (.getfield 12, 3) := by decide +kernel
theorem dX7_rows_56 : decode cX7_rows 56 = .ok (.invokestatic 196, 3) := by decide +kernel
theorem dX7_rows_59 : decode cX7_rows 59 = .ok (.ireturn, 1) := by decide +kernel
theorem dX7_rows_60 : decode cX7_rows 60 = .ok (.new 126, 3) := by decide +kernel
theorem dX7_rows_63 : decode cX7_rows 63 = .ok (.dup, 1) := by decide +kernel
theorem dX7_rows_64 : decode cX7_rows 64 = .ok (.ldc 199, 2) := by decide +kernel
theorem dX7_rows_66 : decode cX7_rows 66 = .ok (.invokespecial 130, 3) := by decide +kernel
theorem dX7_rows_69 : decode cX7_rows 69 = .ok (.athrow, 1) := by decide +kernel
theorem dX7_deep_0 : decode cX7_deep 0 = .ok (.aload_n 0, 1) := by decide +kernel
theorem dX7_deep_1 : decode cX7_deep 1 = .ok (.getfield 36, 3) := by decide +kernel
theorem dX7_deep_4 : decode cX7_deep 4 = .ok (.aload_n 0, 1) := by decide +kernel
theorem dX7_deep_5 : decode cX7_deep 5 = .ok (.getfield 12, 3) := by decide +kernel
theorem dX7_deep_8 : decode cX7_deep 8 = .ok (.invokevirtual 201, 3) := by decide +kernel
theorem dX7_deep_11 : decode cX7_deep 11 = .ok (.ireturn, 1) := by decide +kernel
theorem dX7_first_0 : decode cX7_first 0 = .ok (.aload_n 0, 1) := by decide +kernel
theorem dX7_first_1 : decode cX7_first 1 = .ok (.getfield 36, 3) := by decide +kernel
theorem dX7_first_4 : decode cX7_first 4 = .ok (.aload_n 0, 1) := by decide +kernel
theorem dX7_first_5 : decode cX7_first 5 = .ok (.getfield 12, 3) := by decide +kernel
theorem dX7_first_8 : decode cX7_first 8 = .ok (.invokevirtual 204, 3) := by decide +kernel
theorem dX7_first_11 : decode cX7_first 11 = .ok (.ireturn, 1) := by decide +kernel
theorem dX7_back_0 : decode cX7_back 0 = .ok (.aload_n 0, 1) := by decide +kernel
theorem dX7_back_1 : decode cX7_back 1 = .ok (.getfield 12, 3) := by decide +kernel
theorem dX7_back_4 : decode cX7_back 4 = .ok (.invokevirtual 207, 3) := by decide +kernel
theorem dX7_back_7 : decode cX7_back 7 = .ok (.ireturn, 1) := by decide +kernel
theorem dX7_lie_0 : decode cX7_lie 0 = .ok (.aload_n 0, 1) := by decide +kernel
theorem dX7_lie_1 : decode cX7_lie 1 = .ok (.iload_n 1, 1) := by decide +kernel
theorem dX7_lie_2 : decode cX7_lie 2 = .ok (.invokevirtual 131, 3) := by decide +kernel
theorem dX7_lie_5 : decode cX7_lie 5 = .ok (.aload_n 0, 1) := by decide +kernel
theorem dX7_lie_6 : decode cX7_lie 6 = .ok (.getfield 12, 3) := by decide +kernel
theorem dX7_lie_9 : decode cX7_lie 9 = .ok (.getfield 108, 3) := by decide +kernel
theorem dX7_lie_12 : decode cX7_lie 12 = .ok (.iconst 5, 1) := by decide +kernel
theorem dX7_lie_13 : decode cX7_lie 13 = .ok (.if_icmp .le 5, 3) := by decide +kernel
theorem dX7_lie_16 : decode cX7_lie 16 = .ok (.iconst (-1), 1) := by decide +kernel
theorem dX7_lie_17 : decode cX7_lie 17 = .ok (.ireturn, 1) := by decide +kernel
theorem dX7_lie_18 : decode cX7_lie 18 = .ok (.aload_n 0, 1) := by decide +kernel
theorem dX7_lie_19 : decode cX7_lie 19 = .ok (.getfield 12, 3) := by decide +kernel
theorem dX7_lie_22 : decode cX7_lie 22 = .ok (.iload_n 1, 1) := by decide +kernel
theorem dX7_lie_23 : decode cX7_lie 23 = .ok (.aload_n 0, 1) := by decide +kernel
theorem dX7_lie_24 : decode cX7_lie 24 = .ok (.getfield 12, 3) := by decide +kernel
theorem dX7_lie_27 : decode cX7_lie 27 = .ok (.invokevirtual 187, 3) := by decide +kernel
theorem dX7_lie_30 : decode cX7_lie 30 = .ok (.invokevirtual 210, 3) := by decide +kernel
theorem dX7_lie_33 : decode cX7_lie 33 = .ok (.istore_n 2, 1) := by decide +kernel
theorem dX7_lie_34 : decode cX7_lie 34 = .ok (.aload_n 0, 1) := by decide +kernel
theorem dX7_lie_35 : decode cX7_lie 35 = .ok (.getfield 16, 3) := by decide +kernel
theorem dX7_lie_38 : decode cX7_lie 38 = .ok (.aload_n 0, 1) := by decide +kernel
theorem dX7_lie_39 : decode cX7_lie 39 = .ok (.getfield 12, 3) := by decide +kernel
theorem dX7_lie_42 : decode cX7_lie 42 = .ok (.invokevirtual 91, 3) := by decide +kernel
theorem dX7_lie_45 : decode cX7_lie 45 = .ok (.getstatic 213, 3) := by decide +kernel
theorem dX7_lie_48 : decode cX7_lie 48 = .ok (.aload_n 0, 1) := by decide +kernel
theorem dX7_lie_49 : decode cX7_lie 49 = .ok (.getfield 12, 3) := by decide +kernel
theorem dX7_lie_52 : decode cX7_lie 52 = .ok (.getfield 108, 3) := by decide +kernel
theorem dX7_lie_55 : decode cX7_lie 55 = .ok (.iaload, 1) := by decide +kernel
theorem dX7_lie_56 : decode cX7_lie 56 = .ok (.istore_n 3, 1) := by decide +kernel
theorem dX7_lie_57 : decode cX7_lie 57 = .ok (.iconst 0, 1) := by decide +kernel
theorem dX7_lie_58 : decode cX7_lie 58 = .ok (.istore 4, 2) := by decide +kernel
theorem dX7_lie_60 : decode cX7_lie 60 = .ok (.iload 4, 2) := by decide +kernel
theorem dX7_lie_62 : decode cX7_lie 62 = .ok (.iload_n 3, 1) := by decide +kernel
theorem dX7_lie_63 : decode cX7_lie 63 = .ok (.if_icmp .ge 71, 3) := by decide +kernel
theorem dX7_lie_66 : decode cX7_lie 66 = .ok (.iload 4, 2) := by decide +kernel
theorem dX7_lie_68 : decode cX7_lie 68 = .ok (.aload_n 0, 1) := by decide +kernel
theorem dX7_lie_69 : decode cX7_lie 69 = .ok (.getfield 12, 3) := by decide +kernel
theorem dX7_lie_72 : decode cX7_lie 72 = .ok (.getfield 108, 3) := by decide +kernel
theorem dX7_lie_75 : decode cX7_lie 75 = .ok (.aload_n 0, 1) := by decide +kernel
theorem dX7_lie_76 : decode cX7_lie 76 = .ok (.getfield 61, 3) := by decide +kernel
theorem dX7_lie_79 : decode cX7_lie 79 = .ok (.invokestatic 216, 3) := by decide +kernel
theorem dX7_lie_82 : decode cX7_lie 82 = .ok (.aload_n 0, 1) := by decide +kernel
theorem dX7_lie_83 : decode cX7_lie 83 = .ok (.getfield 16, 3) := by decide +kernel
theorem dX7_lie_86 : decode cX7_lie 86 = .ok (.iload_n 1, 1) := by decide +kernel
theorem dX7_lie_87 : decode cX7_lie 87 = .ok (.aload_n 0, 1) := by decide +kernel
theorem dX7_lie_88 : decode cX7_lie 88 = .ok (.getfield 61, 3) := by decide +kernel
theorem dX7_lie_91 : decode cX7_lie 91 = .ok (.invokevirtual 220, 3) := by decide +kernel
theorem dX7_lie_94 : decode cX7_lie 94 = .ok (.aload_n 0, 1) := by decide +kernel
theorem dX7_lie_95 : decode cX7_lie 95 = .ok (.getfield 12, 3) := by decide +kernel
theorem dX7_lie_98 : decode cX7_lie 98 = .ok (.iload_n 1, 1) := by decide +kernel
theorem dX7_lie_99 : decode cX7_lie 99 = .ok (.aload_n 0, 1) := by decide +kernel
theorem dX7_lie_100 : decode cX7_lie 100 = .ok (.getfield 16, 3) := by decide +kernel
theorem dX7_lie_103 : decode cX7_lie 103 = .ok (.invokevirtual 187, 3) := by decide +kernel
theorem dX7_lie_106 : decode cX7_lie 106 = .ok (.invokevirtual 210, 3) := by decide +kernel
theorem dX7_lie_109 : decode cX7_lie 109 = .ok (.iload_n 2, 1) := by decide +kernel
theorem dX7_lie_110 : decode cX7_lie 110 = .ok (.if_icmp .ge 18, 3) := by decide +kernel
theorem dX7_lie_113 : decode cX7_lie 113 = .ok (.aload_n 0, 1) := by decide +kernel
theorem dX7_lie_114 : decode cX7_lie 114 = .ok (.getfield 61, 3) := by decide +kernel
theorem dX7_lie_117 : decode cX7_lie 117 = .ok (.aload_n 0, 1) := by decide +kernel
theorem dX7_lie_118 : decode cX7_lie 118 = .ok (.getfield 12, 3) := by decide +kernel
theorem dX7_lie_121 : decode cX7_lie 121 = .ok (.getfield 108, 3) := by decide +kernel
theorem dX7_lie_124 : decode cX7_lie 124 = .ok (.invokestatic 224, 3) := by decide +kernel
theorem dX7_lie_127 : decode cX7_lie 127 = .ok (.ireturn, 1) := by decide +kernel
theorem dX7_lie_128 : decode cX7_lie 128 = .ok (.iinc 4 1, 3) := by decide +kernel
theorem dX7_lie_131 : decode cX7_lie 131 = .ok (.goto (-71), 3) := by decide +kernel
theorem dX7_lie_134 : decode cX7_lie 134 = .ok (.iconst (-1), 1) := by decide +kernel
theorem dX7_lie_135 : decode cX7_lie 135 = .ok (.ireturn, 1) := by decide +kernel
theorem dX7_packed_0 : decode cX7_packed 0 = .ok (.iconst 0, 1) := by decide +kernel
theorem dX7_packed_1 : decode cX7_packed 1 = .ok (.istore_n 2, 1) := by decide +kernel
theorem dX7_packed_2 : decode cX7_packed 2 = .ok (.iconst 0, 1) := by decide +kernel
theorem dX7_packed_3 : decode cX7_packed 3 = .ok (.istore_n 3, 1) := by decide +kernel
theorem dX7_packed_4 : decode cX7_packed 4 = .ok (.iload_n 3, 1) := by decide +kernel
theorem dX7_packed_5 : decode cX7_packed 5 = .ok (.iload_n 1, 1) := by decide +kernel
theorem dX7_packed_6 : decode cX7_packed 6 = .ok (.if_icmp .ge 25, 3) := by decide +kernel
theorem dX7_packed_9 : decode cX7_packed 9 = .ok (.iload_n 3, 1) := by decide +kernel
theorem dX7_packed_10 : decode cX7_packed 10 = .ok (.aload_n 0, 1) := by decide +kernel
theorem dX7_packed_11 : decode cX7_packed 11 = .ok (.arraylength, 1) := by decide +kernel
theorem dX7_packed_12 : decode cX7_packed 12 = .ok (.if_icmp .ge 19, 3) := by decide +kernel
theorem dX7_packed_15 : decode cX7_packed 15 = .ok (.iload_n 2, 1) := by decide +kernel
theorem dX7_packed_16 : decode cX7_packed 16 = .ok (.aload_n 0, 1) := by decide +kernel
theorem dX7_packed_17 : decode cX7_packed 17 = .ok (.iload_n 3, 1) := by decide +kernel
theorem dX7_packed_18 : decode cX7_packed 18 = .ok (.iaload, 1) := by decide +kernel
theorem dX7_packed_19 : decode cX7_packed 19 = .ok (.iconst 4, 1) := by decide +kernel
theorem dX7_packed_20 : decode cX7_packed 20 = .ok (.iload_n 3, 1) := by decide +kernel
theorem dX7_packed_21 : decode cX7_packed 21 = .ok (.imul, 1) := by decide +kernel
theorem dX7_packed_22 : decode cX7_packed 22 = .ok (.ishl, 1) := by decide +kernel
theorem dX7_packed_23 : decode cX7_packed 23 = .ok (.ior, 1) := by decide +kernel
theorem dX7_packed_24 : decode cX7_packed 24 = .ok (.istore_n 2, 1) := by decide +kernel
theorem dX7_packed_25 : decode cX7_packed 25 = .ok (.iinc 3 1, 3) := by decide +kernel
theorem dX7_packed_28 : decode cX7_packed 28 = .ok (.goto (-24), 3) := by decide +kernel
theorem dX7_packed_31 : decode cX7_packed 31 = .ok (.iload_n 2, 1) := by decide +kernel
theorem dX7_packed_32 : decode cX7_packed 32 = .ok (.ireturn, 1) := by decide +kernel
theorem dX7_nthOrder_0 : decode cX7_nthOrder 0 = .ok (.iconst 0, 1) := by decide +kernel
theorem dX7_nthOrder_1 : decode cX7_nthOrder 1 = .ok (.istore_n 3, 1) := by decide +kernel
theorem dX7_nthOrder_2 : decode cX7_nthOrder 2 = .ok (.iload_n 0, 1) := by decide +kernel
theorem dX7_nthOrder_3 : decode cX7_nthOrder 3 = .ok (.istore 4, 2) := by decide +kernel
theorem dX7_nthOrder_5 : decode cX7_nthOrder 5 = .ok (.iconst 0, 1) := by decide +kernel
theorem dX7_nthOrder_6 : decode cX7_nthOrder 6 = .ok (.istore 5, 2) := by decide +kernel
theorem dX7_nthOrder_8 : decode cX7_nthOrder 8 = .ok (.iload 5, 2) := by decide +kernel
theorem dX7_nthOrder_10 : decode cX7_nthOrder 10 = .ok (.iload_n 1, 1) := by decide +kernel
theorem dX7_nthOrder_11 : decode cX7_nthOrder 11 = .ok (.if_icmp .ge 59, 3) := by decide +kernel
theorem dX7_nthOrder_14 : decode cX7_nthOrder 14 = .ok (.iload 5, 2) := by decide +kernel
theorem dX7_nthOrder_16 : decode cX7_nthOrder 16 = .ok (.aload_n 2, 1) := by decide +kernel
theorem dX7_nthOrder_17 : decode cX7_nthOrder 17 = .ok (.arraylength, 1) := by decide +kernel
theorem dX7_nthOrder_18 : decode cX7_nthOrder 18 = .ok (.if_icmp .ge 52, 3) := by decide +kernel
theorem dX7_nthOrder_21 : decode cX7_nthOrder 21 = .ok (.iload_n 1, 1) := by decide +kernel
theorem dX7_nthOrder_22 : decode cX7_nthOrder 22 = .ok (.iconst 1, 1) := by decide +kernel
theorem dX7_nthOrder_23 : decode cX7_nthOrder 23 = .ok (.isub, 1) := by decide +kernel
theorem dX7_nthOrder_24 : decode cX7_nthOrder 24 = .ok (.iload 5, 2) := by decide +kernel
theorem dX7_nthOrder_26 : decode cX7_nthOrder 26 = .ok (.isub, 1) := by decide +kernel
theorem dX7_nthOrder_27 : decode cX7_nthOrder 27 = .ok (.invokestatic 228, 3) := by decide +kernel
theorem dX7_nthOrder_30 : decode cX7_nthOrder 30 = .ok (.istore 6, 2) := by decide +kernel
theorem dX7_nthOrder_32 : decode cX7_nthOrder 32 = .ok (.iload_n 3, 1) := by decide +kernel
theorem dX7_nthOrder_33 : decode cX7_nthOrder 33 = .ok (.iload 4, 2) := by decide +kernel
theorem dX7_nthOrder_35 : decode cX7_nthOrder 35 = .ok (.iload 6, 2) := by decide +kernel
theorem dX7_nthOrder_37 : decode cX7_nthOrder 37 = .ok (.idiv, 1) := by decide +kernel
theorem dX7_nthOrder_38 : decode cX7_nthOrder 38 = .ok (.iload_n 1, 1) := by decide +kernel
theorem dX7_nthOrder_39 : decode cX7_nthOrder 39 = .ok (.invokestatic 231, 3) := by decide +kernel
theorem dX7_nthOrder_42 : decode cX7_nthOrder 42 = .ok (.istore 7, 2) := by decide +kernel
theorem dX7_nthOrder_44 : decode cX7_nthOrder 44 = .ok (.aload_n 2, 1) := by decide +kernel
theorem dX7_nthOrder_45 : decode cX7_nthOrder 45 = .ok (.iload 5, 2) := by decide +kernel
theorem dX7_nthOrder_47 : decode cX7_nthOrder 47 = .ok (.iload 7, 2) := by decide +kernel
theorem dX7_nthOrder_49 : decode cX7_nthOrder 49 = .ok (.iastore, 1) := by decide +kernel
theorem dX7_nthOrder_50 : decode cX7_nthOrder 50 = .ok (.iload_n 3, 1) := by decide +kernel
theorem dX7_nthOrder_51 : decode cX7_nthOrder 51 = .ok (.iconst 1, 1) := by decide +kernel
theorem dX7_nthOrder_52 : decode cX7_nthOrder 52 = .ok (.iload 7, 2) := by decide +kernel
theorem dX7_nthOrder_54 : decode cX7_nthOrder 54 = .ok (.ishl, 1) := by decide +kernel
theorem dX7_nthOrder_55 : decode cX7_nthOrder 55 = .ok (.ior, 1) := by decide +kernel
theorem dX7_nthOrder_56 : decode cX7_nthOrder 56 = .ok (.istore_n 3, 1) := by decide +kernel
theorem dX7_nthOrder_57 : decode cX7_nthOrder 57 = .ok (.iload 4, 2) := by decide +kernel
theorem dX7_nthOrder_59 : decode cX7_nthOrder 59 = .ok (.iload 6, 2) := by decide +kernel
theorem dX7_nthOrder_61 : decode cX7_nthOrder 61 = .ok (.irem, 1) := by decide +kernel
theorem dX7_nthOrder_62 : decode cX7_nthOrder 62 = .ok (.istore 4, 2) := by decide +kernel
theorem dX7_nthOrder_64 : decode cX7_nthOrder 64 = .ok (.iinc 5 1, 3) := by decide +kernel
theorem dX7_nthOrder_67 : decode cX7_nthOrder 67 = .ok (.goto (-59), 3) := by decide +kernel
theorem dX7_nthOrder_70 : decode cX7_nthOrder 70 = .ok (.return_, 1) := by decide +kernel
theorem dX7_nthUnused_0 : decode cX7_nthUnused 0 = .ok (.iload_n 1, 1) := by decide +kernel
theorem dX7_nthUnused_1 : decode cX7_nthUnused 1 = .ok (.istore_n 3, 1) := by decide +kernel
theorem dX7_nthUnused_2 : decode cX7_nthUnused 2 = .ok (.iconst 0, 1) := by decide +kernel
theorem dX7_nthUnused_3 : decode cX7_nthUnused 3 = .ok (.istore 4, 2) := by decide +kernel
theorem dX7_nthUnused_5 : decode cX7_nthUnused 5 = .ok (.iload 4, 2) := by decide +kernel
theorem dX7_nthUnused_7 : decode cX7_nthUnused 7 = .ok (.iload_n 2, 1) := by decide +kernel
theorem dX7_nthUnused_8 : decode cX7_nthUnused 8 = .ok (.if_icmp .ge 28, 3) := by decide +kernel
theorem dX7_nthUnused_11 : decode cX7_nthUnused 11 = .ok (.iload_n 0, 1) := by decide +kernel
theorem dX7_nthUnused_12 : decode cX7_nthUnused 12 = .ok (.iload 4, 2) := by decide +kernel
theorem dX7_nthUnused_14 : decode cX7_nthUnused 14 = .ok (.ishr, 1) := by decide +kernel
theorem dX7_nthUnused_15 : decode cX7_nthUnused 15 = .ok (.iconst 1, 1) := by decide +kernel
theorem dX7_nthUnused_16 : decode cX7_nthUnused 16 = .ok (.iand, 1) := by decide +kernel
theorem dX7_nthUnused_17 : decode cX7_nthUnused 17 = .ok (.ifCond .ne 13, 3) := by decide +kernel
theorem dX7_nthUnused_20 : decode cX7_nthUnused 20 = .ok (.iload_n 3, 1) := by decide +kernel
theorem dX7_nthUnused_21 : decode cX7_nthUnused 21 = .ok (.ifCond .ne 6, 3) := by decide +kernel
theorem dX7_nthUnused_24 : decode cX7_nthUnused 24 = .ok (.iload 4, 2) := by decide +kernel
theorem dX7_nthUnused_26 : decode cX7_nthUnused 26 = .ok (.ireturn, 1) := by decide +kernel
theorem dX7_nthUnused_27 : decode cX7_nthUnused 27 = .ok (.iinc 3 (-1), 3) := by decide +kernel
theorem dX7_nthUnused_30 : decode cX7_nthUnused 30 = .ok (.iinc 4 1, 3) := by decide +kernel
theorem dX7_nthUnused_33 : decode cX7_nthUnused 33 = .ok (.goto (-28), 3) := by decide +kernel
theorem dX7_nthUnused_36 : decode cX7_nthUnused 36 = .ok (.iconst 0, 1) := by decide +kernel
theorem dX7_nthUnused_37 : decode cX7_nthUnused 37 = .ok (.ireturn, 1) := by decide +kernel
theorem dX7_factorial_0 : decode cX7_factorial 0 = .ok (.iload_n 0, 1) := by decide +kernel
theorem dX7_factorial_1 : decode cX7_factorial 1 = .ok (.ifCond .lt 23, 3) := by decide +kernel
theorem dX7_factorial_4 : decode cX7_factorial 4 = .ok (.iload_n 0, 1) := by decide +kernel
theorem dX7_factorial_5 : decode cX7_factorial 5 = .ok (.getstatic 213, 3) := by decide +kernel
theorem dX7_factorial_8 : decode cX7_factorial 8 = .ok (.arraylength, 1) := by decide +kernel
theorem dX7_factorial_9 : decode cX7_factorial 9 = .ok (.if_icmp .ge 15, 3) := by decide +kernel
theorem dX7_factorial_12 : decode cX7_factorial 12 = .ok (.iconst 1, 1) := by decide +kernel
theorem dX7_factorial_13 : decode cX7_factorial 13 = .ok (.getstatic 213, 3) := by decide +kernel
theorem dX7_factorial_16 : decode cX7_factorial 16 = .ok (.iload_n 0, 1) := by decide +kernel
theorem dX7_factorial_17 : decode cX7_factorial 17 = .ok (.iaload, 1) := by decide +kernel
theorem dX7_factorial_18 : decode cX7_factorial 18 = .ok (.invokestatic 234, 3) := by decide +kernel
theorem dX7_factorial_21 : decode cX7_factorial 21 = .ok (.goto 4, 3) := by decide +kernel
theorem dX7_factorial_24 : decode cX7_factorial 24 = .ok (.iconst 1, 1) := by decide +kernel
theorem dX7_factorial_25 : decode cX7_factorial 25 = .ok (.ireturn, 1) := by decide +kernel
theorem dX7_trades_0 : decode cX7_trades 0 = .ok (.iload_n 1, 1) := by decide +kernel
theorem dX7_trades_1 : decode cX7_trades 1 = .ok (.ifCond .eq 18, 3) := by decide +kernel
theorem dX7_trades_4 : decode cX7_trades 4 = .ok (.iload_n 1, 1) := by decide +kernel
theorem dX7_trades_5 : decode cX7_trades 5 = .ok (.iconst 1, 1) := by decide +kernel
theorem dX7_trades_6 : decode cX7_trades 6 = .ok (.if_icmp .eq 13, 3) := by decide +kernel
theorem dX7_trades_9 : decode cX7_trades 9 = .ok (.new 126, 3) := by decide +kernel
theorem dX7_trades_12 : decode cX7_trades 12 = .ok (.dup, 1) := by decide +kernel
theorem dX7_trades_13 : decode cX7_trades 13 = .ok (.ldc 239, 2) := by decide +kernel
theorem dX7_trades_15 : decode cX7_trades 15 = .ok (.invokespecial 130, 3) := by decide +kernel
theorem dX7_trades_18 : decode cX7_trades 18 = .ok (.athrow, 1) := by decide +kernel
theorem dX7_trades_19 : decode cX7_trades 19 = .ok (.iconst (-1), 1) := by decide +kernel
theorem dX7_trades_20 : decode cX7_trades 20 = .ok (.istore_n 2, 1) := by decide +kernel
theorem dX7_trades_21 : decode cX7_trades 21 = .ok (.iconst 0, 1) := by decide +kernel
theorem dX7_trades_22 : decode cX7_trades 22 = .ok (.istore_n 3, 1) := by decide +kernel
theorem dX7_trades_23 : decode cX7_trades 23 = .ok (.aload_n 0, 1) := by decide +kernel
theorem dX7_trades_24 : decode cX7_trades 24 = .ok (.getfield 12, 3) := by decide +kernel
theorem dX7_trades_27 : decode cX7_trades 27 = .ok (.invokevirtual 187, 3) := by decide +kernel
theorem dX7_trades_30 : decode cX7_trades 30 = .ok (.istore 4, 2) := by decide +kernel
theorem dX7_trades_32 : decode cX7_trades 32 = .ok (.aload_n 0, 1) := by decide +kernel
theorem dX7_trades_33 : decode cX7_trades 33 = .ok (.getfield 16, 3) := by decide +kernel
theorem dX7_trades_36 : decode cX7_trades 36 = .ok (.aload_n 0, 1) := by decide +kernel
theorem dX7_trades_37 : decode cX7_trades 37 = .ok (.getfield 12, 3) := by decide +kernel
theorem dX7_trades_40 : decode cX7_trades 40 = .ok (.invokevirtual 91, 3) := by decide +kernel
theorem dX7_trades_43 : decode cX7_trades 43 = .ok (.iconst 0, 1) := by decide +kernel
theorem dX7_trades_44 : decode cX7_trades 44 = .ok (.istore 5, 2) := by decide +kernel
theorem dX7_trades_46 : decode cX7_trades 46 = .ok (.iload 5, 2) := by decide +kernel
theorem dX7_trades_48 : decode cX7_trades 48 = .ok (.aload_n 0, 1) := by decide +kernel
theorem dX7_trades_49 : decode cX7_trades 49 = .ok (.getfield 12, 3) := by decide +kernel
theorem dX7_trades_52 : decode cX7_trades 52 = .ok (.getfield 114, 3) := by decide +kernel
theorem dX7_trades_55 : decode cX7_trades 55 = .ok (.if_icmp .ge 66, 3) := by decide +kernel
theorem dX7_trades_58 : decode cX7_trades 58 = .ok (.iload 5, 2) := by decide +kernel
theorem dX7_trades_60 : decode cX7_trades 60 = .ok (.iconst 1, 1) := by decide +kernel
theorem dX7_trades_61 : decode cX7_trades 61 = .ok (.iadd, 1) := by decide +kernel
theorem dX7_trades_62 : decode cX7_trades 62 = .ok (.istore 6, 2) := by decide +kernel
theorem dX7_trades_64 : decode cX7_trades 64 = .ok (.iload 6, 2) := by decide +kernel
theorem dX7_trades_66 : decode cX7_trades 66 = .ok (.aload_n 0, 1) := by decide +kernel
theorem dX7_trades_67 : decode cX7_trades 67 = .ok (.getfield 12, 3) := by decide +kernel
theorem dX7_trades_70 : decode cX7_trades 70 = .ok (.getfield 114, 3) := by decide +kernel
theorem dX7_trades_73 : decode cX7_trades 73 = .ok (.if_icmp .ge 42, 3) := by decide +kernel
theorem dX7_trades_76 : decode cX7_trades 76 = .ok (.aload_n 0, 1) := by decide +kernel
theorem dX7_trades_77 : decode cX7_trades 77 = .ok (.iload 5, 2) := by decide +kernel
theorem dX7_trades_79 : decode cX7_trades 79 = .ok (.iload 6, 2) := by decide +kernel
theorem dX7_trades_81 : decode cX7_trades 81 = .ok (.iload 4, 2) := by decide +kernel
theorem dX7_trades_83 : decode cX7_trades 83 = .ok (.invokevirtual 241, 3) := by decide +kernel
theorem dX7_trades_86 : decode cX7_trades 86 = .ok (.ifCond .eq 23, 3) := by decide +kernel
theorem dX7_trades_89 : decode cX7_trades 89 = .ok (.iload_n 3, 1) := by decide +kernel
theorem dX7_trades_90 : decode cX7_trades 90 = .ok (.ifCond .ne 14, 3) := by decide +kernel
theorem dX7_trades_93 : decode cX7_trades 93 = .ok (.bipush 8, 2) := by decide +kernel
theorem dX7_trades_95 : decode cX7_trades 95 = .ok (.iload 5, 2) := by decide +kernel
theorem dX7_trades_97 : decode cX7_trades 97 = .ok (.imul, 1) := by decide +kernel
theorem dX7_trades_98 : decode cX7_trades 98 = .ok (.iload 6, 2) := by decide +kernel
theorem dX7_trades_100 : decode cX7_trades 100 = .ok (.iadd, 1) := by decide +kernel
theorem dX7_trades_101 : decode cX7_trades 101 = .ok (.goto 4, 3) := by decide +kernel
theorem dX7_trades_104 : decode cX7_trades 104 = .ok (.iload_n 2, 1) := by decide +kernel
theorem dX7_trades_105 : decode cX7_trades 105 = .ok (.istore_n 2, 1) := by decide +kernel
theorem dX7_trades_106 : decode cX7_trades 106 = .ok (.iinc 3 1, 3) := by decide +kernel
theorem dX7_trades_109 : decode cX7_trades 109 = .ok (.iinc 6 1, 3) := by decide +kernel
theorem dX7_trades_112 : decode cX7_trades 112 = .ok (.goto (-48), 3) := by decide +kernel
theorem dX7_trades_115 : decode cX7_trades 115 = .ok (.iinc 5 1, 3) := by decide +kernel
theorem dX7_trades_118 : decode cX7_trades 118 = .ok (.goto (-72), 3) := by decide +kernel
theorem dX7_trades_121 : decode cX7_trades 121 = .ok (.iload_n 1, 1) := by decide +kernel
theorem dX7_trades_122 : decode cX7_trades 122 = .ok (.ifCond .ne 7, 3) := by decide +kernel
theorem dX7_trades_125 : decode cX7_trades 125 = .ok (.iload_n 3, 1) := by decide +kernel
theorem dX7_trades_126 : decode cX7_trades 126 = .ok (.goto 4, 3) := by decide +kernel
theorem dX7_trades_129 : decode cX7_trades 129 = .ok (.iload_n 2, 1) := by decide +kernel
theorem dX7_trades_130 : decode cX7_trades 130 = .ok (.ireturn, 1) := by decide +kernel
theorem dX7_tradePays_0 : decode cX7_tradePays 0 = .ok (.aload_n 0, 1) := by decide +kernel
theorem dX7_tradePays_1 : decode cX7_tradePays 1 = .ok (.getfield 12, 3) := by decide +kernel
theorem dX7_tradePays_4 : decode cX7_tradePays 4 = .ok (.getfield 143, 3) := by decide +kernel
theorem dX7_tradePays_7 : decode cX7_tradePays 7 = .ok (.iload_n 1, 1) := by decide +kernel
theorem dX7_tradePays_8 : decode cX7_tradePays 8 = .ok (.iaload, 1) := by decide +kernel
theorem dX7_tradePays_9 : decode cX7_tradePays 9 = .ok (.istore 4, 2) := by decide +kernel
theorem dX7_tradePays_11 : decode cX7_tradePays 11 = .ok (.aload_n 0, 1) := by decide +kernel
theorem dX7_tradePays_12 : decode cX7_tradePays 12 = .ok (.getfield 12, 3) := by decide +kernel
theorem dX7_tradePays_15 : decode cX7_tradePays 15 = .ok (.getfield 143, 3) := by decide +kernel
theorem dX7_tradePays_18 : decode cX7_tradePays 18 = .ok (.iload_n 2, 1) := by decide +kernel
theorem dX7_tradePays_19 : decode cX7_tradePays 19 = .ok (.iaload, 1) := by decide +kernel
theorem dX7_tradePays_20 : decode cX7_tradePays 20 = .ok (.istore 5, 2) := by decide +kernel
theorem dX7_tradePays_22 : decode cX7_tradePays 22 = .ok (.iload 4, 2) := by decide +kernel
theorem dX7_tradePays_24 : decode cX7_tradePays 24 = .ok (.iload 5, 2) := by decide +kernel
theorem dX7_tradePays_26 : decode cX7_tradePays 26 = .ok (.if_icmp .ne 5, 3) := by decide +kernel
theorem dX7_tradePays_29 : decode cX7_tradePays 29 = .ok (.iconst 0, 1) := by decide +kernel
theorem dX7_tradePays_30 : decode cX7_tradePays 30 = .ok (.ireturn, 1) := by decide +kernel
theorem dX7_tradePays_31 : decode cX7_tradePays 31 = .ok (.aload_n 0, 1) := by decide +kernel
theorem dX7_tradePays_32 : decode cX7_tradePays 32 = .ok (.getfield 16, 3) := by decide +kernel
theorem dX7_tradePays_35 : decode cX7_tradePays 35 = .ok (.getfield 143, 3) := by decide +kernel
theorem dX7_tradePays_38 : decode cX7_tradePays 38 = .ok (.iload_n 1, 1) := by decide +kernel
theorem dX7_tradePays_39 : decode cX7_tradePays 39 = .ok (.iload 5, 2) := by decide +kernel
theorem dX7_tradePays_41 : decode cX7_tradePays 41 = .ok (.iastore, 1) := by decide +kernel
theorem dX7_tradePays_42 : decode cX7_tradePays 42 = .ok (.aload_n 0, 1) := by decide +kernel
theorem dX7_tradePays_43 : decode cX7_tradePays 43 = .ok (.getfield 16, 3) := by decide +kernel
theorem dX7_tradePays_46 : decode cX7_tradePays 46 = .ok (.getfield 143, 3) := by decide +kernel
theorem dX7_tradePays_49 : decode cX7_tradePays 49 = .ok (.iload_n 2, 1) := by decide +kernel
theorem dX7_tradePays_50 : decode cX7_tradePays 50 = .ok (.iload 4, 2) := by decide +kernel
theorem dX7_tradePays_52 : decode cX7_tradePays 52 = .ok (.iastore, 1) := by decide +kernel
theorem dX7_tradePays_53 : decode cX7_tradePays 53 = .ok (.aload_n 0, 1) := by decide +kernel
theorem dX7_tradePays_54 : decode cX7_tradePays 54 = .ok (.getfield 16, 3) := by decide +kernel
theorem dX7_tradePays_57 : decode cX7_tradePays 57 = .ok (.invokevirtual 187, 3) := by decide +kernel
theorem dX7_tradePays_60 : decode cX7_tradePays 60 = .ok (.istore 6, 2) := by decide +kernel
theorem dX7_tradePays_62 : decode cX7_tradePays 62 = .ok (.aload_n 0, 1) := by decide +kernel
theorem dX7_tradePays_63 : decode cX7_tradePays 63 = .ok (.getfield 16, 3) := by decide +kernel
theorem dX7_tradePays_66 : decode cX7_tradePays 66 = .ok (.getfield 143, 3) := by decide +kernel
theorem dX7_tradePays_69 : decode cX7_tradePays 69 = .ok (.iload_n 1, 1) := by decide +kernel
theorem dX7_tradePays_70 : decode cX7_tradePays 70 = .ok (.iload 4, 2) := by decide +kernel
theorem dX7_tradePays_72 : decode cX7_tradePays 72 = .ok (.iastore, 1) := by decide +kernel
theorem dX7_tradePays_73 : decode cX7_tradePays 73 = .ok (.aload_n 0, 1) := by decide +kernel
theorem dX7_tradePays_74 : decode cX7_tradePays 74 = .ok (.getfield 16, 3) := by decide +kernel
theorem dX7_tradePays_77 : decode cX7_tradePays 77 = .ok (.getfield 143, 3) := by decide +kernel
theorem dX7_tradePays_80 : decode cX7_tradePays 80 = .ok (.iload_n 2, 1) := by decide +kernel
theorem dX7_tradePays_81 : decode cX7_tradePays 81 = .ok (.iload 5, 2) := by decide +kernel
theorem dX7_tradePays_83 : decode cX7_tradePays 83 = .ok (.iastore, 1) := by decide +kernel
theorem dX7_tradePays_84 : decode cX7_tradePays 84 = .ok (.aload_n 0, 1) := by decide +kernel
theorem dX7_tradePays_85 : decode cX7_tradePays 85 = .ok (.getfield 12, 3) := by decide +kernel
theorem dX7_tradePays_88 : decode cX7_tradePays 88 = .ok (.iload 4, 2) := by decide +kernel
theorem dX7_tradePays_90 : decode cX7_tradePays 90 = .ok (.iload 6, 2) := by decide +kernel
theorem dX7_tradePays_92 : decode cX7_tradePays 92 = .ok (.invokevirtual 210, 3) := by decide +kernel
theorem dX7_tradePays_95 : decode cX7_tradePays 95 = .ok (.aload_n 0, 1) := by decide +kernel
theorem dX7_tradePays_96 : decode cX7_tradePays 96 = .ok (.getfield 12, 3) := by decide +kernel
theorem dX7_tradePays_99 : decode cX7_tradePays 99 = .ok (.iload 4, 2) := by decide +kernel
theorem dX7_tradePays_101 : decode cX7_tradePays 101 = .ok (.iload_n 3, 1) := by decide +kernel
theorem dX7_tradePays_102 : decode cX7_tradePays 102 = .ok (.invokevirtual 210, 3) := by decide +kernel
theorem dX7_tradePays_105 : decode cX7_tradePays 105 = .ok (.if_icmp .ge 31, 3) := by decide +kernel
theorem dX7_tradePays_108 : decode cX7_tradePays 108 = .ok (.aload_n 0, 1) := by decide +kernel
theorem dX7_tradePays_109 : decode cX7_tradePays 109 = .ok (.getfield 12, 3) := by decide +kernel
theorem dX7_tradePays_112 : decode cX7_tradePays 112 = .ok (.iload 5, 2) := by decide +kernel
theorem dX7_tradePays_114 : decode cX7_tradePays 114 = .ok (.iload 6, 2) := by decide +kernel
theorem dX7_tradePays_116 : decode cX7_tradePays 116 = .ok (.invokevirtual 210, 3) := by decide +kernel
theorem dX7_tradePays_119 : decode cX7_tradePays 119 = .ok (.aload_n 0, 1) := by decide +kernel
theorem dX7_tradePays_120 : decode cX7_tradePays 120 = .ok (.getfield 12, 3) := by decide +kernel
theorem dX7_tradePays_123 : decode cX7_tradePays 123 = .ok (.iload 5, 2) := by decide +kernel
theorem dX7_tradePays_125 : decode cX7_tradePays 125 = .ok (.iload_n 3, 1) := by decide +kernel
theorem dX7_tradePays_126 : decode cX7_tradePays 126 = .ok (.invokevirtual 210, 3) := by decide +kernel
theorem dX7_tradePays_129 : decode cX7_tradePays 129 = .ok (.if_icmp .ge 7, 3) := by decide +kernel
theorem dX7_tradePays_132 : decode cX7_tradePays 132 = .ok (.iconst 1, 1) := by decide +kernel
theorem dX7_tradePays_133 : decode cX7_tradePays 133 = .ok (.goto 4, 3) := by decide +kernel
theorem dX7_tradePays_136 : decode cX7_tradePays 136 = .ok (.iconst 0, 1) := by decide +kernel
theorem dX7_tradePays_137 : decode cX7_tradePays 137 = .ok (.ireturn, 1) := by decide +kernel
theorem dX7_grumble_0 : decode cX7_grumble 0 = .ok (.aload_n 0, 1) := by decide +kernel
theorem dX7_grumble_1 : decode cX7_grumble 1 = .ok (.iload_n 1, 1) := by decide +kernel
theorem dX7_grumble_2 : decode cX7_grumble 2 = .ok (.invokevirtual 134, 3) := by decide +kernel
theorem dX7_grumble_5 : decode cX7_grumble 5 = .ok (.iload_n 2, 1) := by decide +kernel
theorem dX7_grumble_6 : decode cX7_grumble 6 = .ok (.lookupswitch 44 #[(0, 26), (1, 35)], 26) := by decide +kernel
theorem dX7_grumble_32 : decode cX7_grumble 32 = .ok (.aload_n 0, 1) := by decide +kernel
theorem dX7_grumble_33 : decode cX7_grumble 33 = .ok (.getfield 12, 3) := by decide +kernel
theorem dX7_grumble_36 : decode cX7_grumble 36 = .ok (.iload_n 1, 1) := by decide +kernel
theorem dX7_grumble_37 : decode cX7_grumble 37 = .ok (.invokevirtual 245, 3) := by decide +kernel
theorem dX7_grumble_40 : decode cX7_grumble 40 = .ok (.ireturn, 1) := by decide +kernel
theorem dX7_grumble_41 : decode cX7_grumble 41 = .ok (.aload_n 0, 1) := by decide +kernel
theorem dX7_grumble_42 : decode cX7_grumble 42 = .ok (.getfield 12, 3) := by decide +kernel
theorem dX7_grumble_45 : decode cX7_grumble 45 = .ok (.iload_n 1, 1) := by decide +kernel
theorem dX7_grumble_46 : decode cX7_grumble 46 = .ok (.invokevirtual 248, 3) := by decide +kernel
theorem dX7_grumble_49 : decode cX7_grumble 49 = .ok (.ireturn, 1) := by decide +kernel
theorem dX7_grumble_50 : decode cX7_grumble 50 = .ok (.new 126, 3) := by decide +kernel
theorem dX7_grumble_53 : decode cX7_grumble 53 = .ok (.dup, 1) := by decide +kernel
theorem dX7_grumble_54 : decode cX7_grumble 54 = .ok (.ldc 251, 2) := by decide +kernel
theorem dX7_grumble_56 : decode cX7_grumble 56 = .ok (.invokespecial 130, 3) := by decide +kernel
theorem dX7_grumble_59 : decode cX7_grumble 59 = .ok (.athrow, 1) := by decide +kernel
theorem dX7_least_0 : decode cX7_least 0 = .ok (.aload_n 0, 1) := by decide +kernel
theorem dX7_least_1 : decode cX7_least 1 = .ok (.invokevirtual 253, 3) := by decide +kernel
theorem dX7_least_4 : decode cX7_least 4 = .ok (.ireturn, 1) := by decide +kernel
theorem dX7_leastGrumbled_0 : decode cX7_leastGrumbled 0 = .ok (.aload_n 0, 1) := by decide +kernel
theorem dX7_leastGrumbled_1 : decode cX7_leastGrumbled 1 = .ok (.getfield 29, 3) := by decide +kernel
theorem dX7_leastGrumbled_4 : decode cX7_leastGrumbled 4 = .ok (.aload_n 0, 1) := by decide +kernel
theorem dX7_leastGrumbled_5 : decode cX7_leastGrumbled 5 = .ok (.getfield 12, 3) := by decide +kernel
theorem dX7_leastGrumbled_8 : decode cX7_leastGrumbled 8 = .ok (.invokevirtual 168, 3) := by decide +kernel
theorem dX7_leastGrumbled_11 : decode cX7_leastGrumbled 11 = .ok (.istore_n 1, 1) := by decide +kernel
theorem dX7_leastGrumbled_12 : decode cX7_leastGrumbled 12 = .ok (.iload_n 1, 1) := by decide +kernel
theorem dX7_leastGrumbled_13 : decode cX7_leastGrumbled 13 = .ok (.ifCond .ne 13, 3) := by decide +kernel
theorem dX7_leastGrumbled_16 : decode cX7_leastGrumbled 16 = .ok (.aload_n 0, 1) := by decide +kernel
theorem dX7_leastGrumbled_17 : decode cX7_leastGrumbled 17 = .ok (.getfield 12, 3) := by decide +kernel
theorem dX7_leastGrumbled_20 : decode cX7_leastGrumbled 20 = .ok (.invokevirtual 175, 3) := by decide +kernel
theorem dX7_leastGrumbled_23 : decode cX7_leastGrumbled 23 = .ok (.goto 4, 3) := by decide +kernel
theorem dX7_leastGrumbled_26 : decode cX7_leastGrumbled 26 = .ok (.iload_n 1, 1) := by decide +kernel
theorem dX7_leastGrumbled_27 : decode cX7_leastGrumbled 27 = .ok (.istore_n 2, 1) := by decide +kernel
theorem dX7_leastGrumbled_28 : decode cX7_leastGrumbled 28 = .ok (.iconst (-1), 1) := by decide +kernel
theorem dX7_leastGrumbled_29 : decode cX7_leastGrumbled 29 = .ok (.istore_n 3, 1) := by decide +kernel
theorem dX7_leastGrumbled_30 : decode cX7_leastGrumbled 30 = .ok (.iconst 0, 1) := by decide +kernel
theorem dX7_leastGrumbled_31 : decode cX7_leastGrumbled 31 = .ok (.istore 4, 2) := by decide +kernel
theorem dX7_leastGrumbled_33 : decode cX7_leastGrumbled 33 = .ok (.iload 4, 2) := by decide +kernel
theorem dX7_leastGrumbled_35 : decode cX7_leastGrumbled 35 = .ok (.aload_n 0, 1) := by decide +kernel
theorem dX7_leastGrumbled_36 : decode cX7_leastGrumbled 36 = .ok (.getfield 12, 3) := by decide +kernel
theorem dX7_leastGrumbled_39 : decode cX7_leastGrumbled 39 = .ok (.getfield 108, 3) := by decide +kernel
theorem dX7_leastGrumbled_42 : decode cX7_leastGrumbled 42 = .ok (.if_icmp .ge 37, 3) := by decide +kernel
theorem dX7_leastGrumbled_45 : decode cX7_leastGrumbled 45 = .ok (.iload_n 2, 1) := by decide +kernel
theorem dX7_leastGrumbled_46 : decode cX7_leastGrumbled 46 = .ok (.iload 4, 2) := by decide +kernel
theorem dX7_leastGrumbled_48 : decode cX7_leastGrumbled 48 = .ok (.ishr, 1) := by decide +kernel
theorem dX7_leastGrumbled_49 : decode cX7_leastGrumbled 49 = .ok (.iconst 1, 1) := by decide +kernel
theorem dX7_leastGrumbled_50 : decode cX7_leastGrumbled 50 = .ok (.iand, 1) := by decide +kernel
theorem dX7_leastGrumbled_51 : decode cX7_leastGrumbled 51 = .ok (.iconst 1, 1) := by decide +kernel
theorem dX7_leastGrumbled_52 : decode cX7_leastGrumbled 52 = .ok (.if_icmp .ne 21, 3) := by decide +kernel
theorem dX7_leastGrumbled_55 : decode cX7_leastGrumbled 55 = .ok (.iload_n 3, 1) := by decide +kernel
theorem dX7_leastGrumbled_56 : decode cX7_leastGrumbled 56 = .ok (.iconst (-1), 1) := by decide +kernel
theorem dX7_leastGrumbled_57 : decode cX7_leastGrumbled 57 = .ok (.if_icmp .eq 13, 3) := by decide +kernel
theorem dX7_leastGrumbled_60 : decode cX7_leastGrumbled 60 = .ok (.aload_n 0, 1) := by decide +kernel
theorem dX7_leastGrumbled_61 : decode cX7_leastGrumbled 61 = .ok (.iload 4, 2) := by decide +kernel
theorem dX7_leastGrumbled_63 : decode cX7_leastGrumbled 63 = .ok (.iload_n 3, 1) := by decide +kernel
theorem dX7_leastGrumbled_64 : decode cX7_leastGrumbled 64 = .ok (.invokevirtual 256, 3) := by decide +kernel
theorem dX7_leastGrumbled_67 : decode cX7_leastGrumbled 67 = .ok (.ifCond .eq 6, 3) := by decide +kernel
theorem dX7_leastGrumbled_70 : decode cX7_leastGrumbled 70 = .ok (.iload 4, 2) := by decide +kernel
theorem dX7_leastGrumbled_72 : decode cX7_leastGrumbled 72 = .ok (.istore_n 3, 1) := by decide +kernel
theorem dX7_leastGrumbled_73 : decode cX7_leastGrumbled 73 = .ok (.iinc 4 1, 3) := by decide +kernel
theorem dX7_leastGrumbled_76 : decode cX7_leastGrumbled 76 = .ok (.goto (-43), 3) := by decide +kernel
theorem dX7_leastGrumbled_79 : decode cX7_leastGrumbled 79 = .ok (.iload_n 3, 1) := by decide +kernel
theorem dX7_leastGrumbled_80 : decode cX7_leastGrumbled 80 = .ok (.ireturn, 1) := by decide +kernel
theorem dX7_grumblesLess_0 : decode cX7_grumblesLess 0 = .ok (.aload_n 0, 1) := by decide +kernel
theorem dX7_grumblesLess_1 : decode cX7_grumblesLess 1 = .ok (.getfield 12, 3) := by decide +kernel
theorem dX7_grumblesLess_4 : decode cX7_grumblesLess 4 = .ok (.iload_n 1, 1) := by decide +kernel
theorem dX7_grumblesLess_5 : decode cX7_grumblesLess 5 = .ok (.invokevirtual 245, 3) := by decide +kernel
theorem dX7_grumblesLess_8 : decode cX7_grumblesLess 8 = .ok (.istore_n 3, 1) := by decide +kernel
theorem dX7_grumblesLess_9 : decode cX7_grumblesLess 9 = .ok (.aload_n 0, 1) := by decide +kernel
theorem dX7_grumblesLess_10 : decode cX7_grumblesLess 10 = .ok (.getfield 12, 3) := by decide +kernel
theorem dX7_grumblesLess_13 : decode cX7_grumblesLess 13 = .ok (.iload_n 2, 1) := by decide +kernel
theorem dX7_grumblesLess_14 : decode cX7_grumblesLess 14 = .ok (.invokevirtual 245, 3) := by decide +kernel
theorem dX7_grumblesLess_17 : decode cX7_grumblesLess 17 = .ok (.istore 4, 2) := by decide +kernel
theorem dX7_grumblesLess_19 : decode cX7_grumblesLess 19 = .ok (.iload_n 3, 1) := by decide +kernel
theorem dX7_grumblesLess_20 : decode cX7_grumblesLess 20 = .ok (.iload 4, 2) := by decide +kernel
theorem dX7_grumblesLess_22 : decode cX7_grumblesLess 22 = .ok (.if_icmp .lt 28, 3) := by decide +kernel
theorem dX7_grumblesLess_25 : decode cX7_grumblesLess 25 = .ok (.iload_n 3, 1) := by decide +kernel
theorem dX7_grumblesLess_26 : decode cX7_grumblesLess 26 = .ok (.iload 4, 2) := by decide +kernel
theorem dX7_grumblesLess_28 : decode cX7_grumblesLess 28 = .ok (.if_icmp .ne 26, 3) := by decide +kernel
theorem dX7_grumblesLess_31 : decode cX7_grumblesLess 31 = .ok (.aload_n 0, 1) := by decide +kernel
theorem dX7_grumblesLess_32 : decode cX7_grumblesLess 32 = .ok (.getfield 12, 3) := by decide +kernel
theorem dX7_grumblesLess_35 : decode cX7_grumblesLess 35 = .ok (.iload_n 1, 1) := by decide +kernel
theorem dX7_grumblesLess_36 : decode cX7_grumblesLess 36 = .ok (.invokevirtual 248, 3) := by decide +kernel
theorem dX7_grumblesLess_39 : decode cX7_grumblesLess 39 = .ok (.aload_n 0, 1) := by decide +kernel
theorem dX7_grumblesLess_40 : decode cX7_grumblesLess 40 = .ok (.getfield 12, 3) := by decide +kernel
theorem dX7_grumblesLess_43 : decode cX7_grumblesLess 43 = .ok (.iload_n 2, 1) := by decide +kernel
theorem dX7_grumblesLess_44 : decode cX7_grumblesLess 44 = .ok (.invokevirtual 248, 3) := by decide +kernel
theorem dX7_grumblesLess_47 : decode cX7_grumblesLess 47 = .ok (.if_icmp .ge 7, 3) := by decide +kernel
theorem dX7_grumblesLess_50 : decode cX7_grumblesLess 50 = .ok (.iconst 1, 1) := by decide +kernel
theorem dX7_grumblesLess_51 : decode cX7_grumblesLess 51 = .ok (.goto 4, 3) := by decide +kernel
theorem dX7_grumblesLess_54 : decode cX7_grumblesLess 54 = .ok (.iconst 0, 1) := by decide +kernel
theorem dX7_grumblesLess_55 : decode cX7_grumblesLess 55 = .ok (.ireturn, 1) := by decide +kernel
theorem dX7_heads_0 : decode cX7_heads 0 = .ok (.aload_n 0, 1) := by decide +kernel
theorem dX7_heads_1 : decode cX7_heads 1 = .ok (.iload_n 1, 1) := by decide +kernel
theorem dX7_heads_2 : decode cX7_heads 2 = .ok (.invokevirtual 134, 3) := by decide +kernel
theorem dX7_heads_5 : decode cX7_heads 5 = .ok (.aload_n 0, 1) := by decide +kernel
theorem dX7_heads_6 : decode cX7_heads 6 = .ok (.getfield 12, 3) := by decide +kernel
theorem dX7_heads_9 : decode cX7_heads 9 = .ok (.iload_n 1, 1) := by decide +kernel
theorem dX7_heads_10 : decode cX7_heads 10 = .ok (.invokevirtual 260, 3) := by decide +kernel
theorem dX7_heads_13 : decode cX7_heads 13 = .ok (.ireturn, 1) := by decide +kernel
theorem dX7_head_0 : decode cX7_head 0 = .ok (.iload_n 1, 1) := by decide +kernel
theorem dX7_head_1 : decode cX7_head 1 = .ok (.lookupswitch 62 #[(0, 27), (1, 35)], 27) := by decide +kernel
theorem dX7_head_28 : decode cX7_head 28 = .ok (.aload_n 0, 1) := by decide +kernel
theorem dX7_head_29 : decode cX7_head 29 = .ok (.getfield 12, 3) := by decide +kernel
theorem dX7_head_32 : decode cX7_head 32 = .ok (.invokevirtual 263, 3) := by decide +kernel
theorem dX7_head_35 : decode cX7_head 35 = .ok (.ireturn, 1) := by decide +kernel
theorem dX7_head_36 : decode cX7_head 36 = .ok (.aload_n 0, 1) := by decide +kernel
theorem dX7_head_37 : decode cX7_head 37 = .ok (.getfield 12, 3) := by decide +kernel
theorem dX7_head_40 : decode cX7_head 40 = .ok (.aload_n 0, 1) := by decide +kernel
theorem dX7_head_41 : decode cX7_head 41 = .ok (.getfield 12, 3) := by decide +kernel
theorem dX7_head_44 : decode cX7_head 44 = .ok (.invokevirtual 263, 3) := by decide +kernel
theorem dX7_head_47 : decode cX7_head 47 = .ok (.invokevirtual 245, 3) := by decide +kernel
theorem dX7_head_50 : decode cX7_head 50 = .ok (.aload_n 0, 1) := by decide +kernel
theorem dX7_head_51 : decode cX7_head 51 = .ok (.getfield 12, 3) := by decide +kernel
theorem dX7_head_54 : decode cX7_head 54 = .ok (.aload_n 0, 1) := by decide +kernel
theorem dX7_head_55 : decode cX7_head 55 = .ok (.invokevirtual 253, 3) := by decide +kernel
theorem dX7_head_58 : decode cX7_head 58 = .ok (.invokevirtual 245, 3) := by decide +kernel
theorem dX7_head_61 : decode cX7_head 61 = .ok (.isub, 1) := by decide +kernel
theorem dX7_head_62 : decode cX7_head 62 = .ok (.ireturn, 1) := by decide +kernel
theorem dX7_head_63 : decode cX7_head 63 = .ok (.new 126, 3) := by decide +kernel
theorem dX7_head_66 : decode cX7_head 66 = .ok (.dup, 1) := by decide +kernel
theorem dX7_head_67 : decode cX7_head 67 = .ok (.ldc_w 266, 3) := by decide +kernel
theorem dX7_head_70 : decode cX7_head 70 = .ok (.invokespecial 130, 3) := by decide +kernel
theorem dX7_head_73 : decode cX7_head 73 = .ok (.athrow, 1) := by decide +kernel
theorem dX7_copy_0 : decode cX7_copy 0 = .ok (.aload_n 0, 1) := by decide +kernel
theorem dX7_copy_1 : decode cX7_copy 1 = .ok (.iload_n 1, 1) := by decide +kernel
theorem dX7_copy_2 : decode cX7_copy 2 = .ok (.invokevirtual 134, 3) := by decide +kernel
theorem dX7_copy_5 : decode cX7_copy 5 = .ok (.aload_n 0, 1) := by decide +kernel
theorem dX7_copy_6 : decode cX7_copy 6 = .ok (.getfield 12, 3) := by decide +kernel
theorem dX7_copy_9 : decode cX7_copy 9 = .ok (.getfield 108, 3) := by decide +kernel
theorem dX7_copy_12 : decode cX7_copy 12 = .ok (.bipush 9, 2) := by decide +kernel
theorem dX7_copy_14 : decode cX7_copy 14 = .ok (.if_icmp .lt 5, 3) := by decide +kernel
theorem dX7_copy_17 : decode cX7_copy 17 = .ok (.iconst (-1), 1) := by decide +kernel
theorem dX7_copy_18 : decode cX7_copy 18 = .ok (.ireturn, 1) := by decide +kernel
theorem dX7_copy_19 : decode cX7_copy 19 = .ok (.aload_n 0, 1) := by decide +kernel
theorem dX7_copy_20 : decode cX7_copy 20 = .ok (.getfield 16, 3) := by decide +kernel
theorem dX7_copy_23 : decode cX7_copy 23 = .ok (.aload_n 0, 1) := by decide +kernel
theorem dX7_copy_24 : decode cX7_copy 24 = .ok (.getfield 12, 3) := by decide +kernel
theorem dX7_copy_27 : decode cX7_copy 27 = .ok (.invokevirtual 91, 3) := by decide +kernel
theorem dX7_copy_30 : decode cX7_copy 30 = .ok (.aload_n 0, 1) := by decide +kernel
theorem dX7_copy_31 : decode cX7_copy 31 = .ok (.getfield 16, 3) := by decide +kernel
theorem dX7_copy_34 : decode cX7_copy 34 = .ok (.iload_n 1, 1) := by decide +kernel
theorem dX7_copy_35 : decode cX7_copy 35 = .ok (.invokevirtual 268, 3) := by decide +kernel
theorem dX7_copy_38 : decode cX7_copy 38 = .ok (.aload_n 0, 1) := by decide +kernel
theorem dX7_copy_39 : decode cX7_copy 39 = .ok (.getfield 29, 3) := by decide +kernel
theorem dX7_copy_42 : decode cX7_copy 42 = .ok (.aload_n 0, 1) := by decide +kernel
theorem dX7_copy_43 : decode cX7_copy 43 = .ok (.getfield 16, 3) := by decide +kernel
theorem dX7_copy_46 : decode cX7_copy 46 = .ok (.invokevirtual 168, 3) := by decide +kernel
theorem dX7_copy_49 : decode cX7_copy 49 = .ok (.ireturn, 1) := by decide +kernel
theorem dX7_without_0 : decode cX7_without 0 = .ok (.aload_n 0, 1) := by decide +kernel
theorem dX7_without_1 : decode cX7_without 1 = .ok (.iload_n 1, 1) := by decide +kernel
theorem dX7_without_2 : decode cX7_without 2 = .ok (.invokevirtual 131, 3) := by decide +kernel
theorem dX7_without_5 : decode cX7_without 5 = .ok (.aload_n 0, 1) := by decide +kernel
theorem dX7_without_6 : decode cX7_without 6 = .ok (.getfield 16, 3) := by decide +kernel
theorem dX7_without_9 : decode cX7_without 9 = .ok (.aload_n 0, 1) := by decide +kernel
theorem dX7_without_10 : decode cX7_without 10 = .ok (.getfield 12, 3) := by decide +kernel
theorem dX7_without_13 : decode cX7_without 13 = .ok (.invokevirtual 91, 3) := by decide +kernel
theorem dX7_without_16 : decode cX7_without 16 = .ok (.aload_n 0, 1) := by decide +kernel
theorem dX7_without_17 : decode cX7_without 17 = .ok (.getfield 16, 3) := by decide +kernel
theorem dX7_without_20 : decode cX7_without 20 = .ok (.iload_n 1, 1) := by decide +kernel
theorem dX7_without_21 : decode cX7_without 21 = .ok (.invokevirtual 271, 3) := by decide +kernel
theorem dX7_without_24 : decode cX7_without 24 = .ok (.aload_n 0, 1) := by decide +kernel
theorem dX7_without_25 : decode cX7_without 25 = .ok (.getfield 29, 3) := by decide +kernel
theorem dX7_without_28 : decode cX7_without 28 = .ok (.aload_n 0, 1) := by decide +kernel
theorem dX7_without_29 : decode cX7_without 29 = .ok (.getfield 16, 3) := by decide +kernel
theorem dX7_without_32 : decode cX7_without 32 = .ok (.invokevirtual 168, 3) := by decide +kernel
theorem dX7_without_35 : decode cX7_without 35 = .ok (.ireturn, 1) := by decide +kernel
theorem dX7_add_0 : decode cX7_add 0 = .ok (.aload_n 0, 1) := by decide +kernel
theorem dX7_add_1 : decode cX7_add 1 = .ok (.iload_n 1, 1) := by decide +kernel
theorem dX7_add_2 : decode cX7_add 2 = .ok (.invokevirtual 134, 3) := by decide +kernel
theorem dX7_add_5 : decode cX7_add 5 = .ok (.aload_n 0, 1) := by decide +kernel
theorem dX7_add_6 : decode cX7_add 6 = .ok (.getfield 12, 3) := by decide +kernel
theorem dX7_add_9 : decode cX7_add 9 = .ok (.getfield 108, 3) := by decide +kernel
theorem dX7_add_12 : decode cX7_add 12 = .ok (.bipush 9, 2) := by decide +kernel
theorem dX7_add_14 : decode cX7_add 14 = .ok (.if_icmp .lt 5, 3) := by decide +kernel
theorem dX7_add_17 : decode cX7_add 17 = .ok (.iconst (-1), 1) := by decide +kernel
theorem dX7_add_18 : decode cX7_add 18 = .ok (.ireturn, 1) := by decide +kernel
theorem dX7_add_19 : decode cX7_add 19 = .ok (.aload_n 0, 1) := by decide +kernel
theorem dX7_add_20 : decode cX7_add 20 = .ok (.getfield 12, 3) := by decide +kernel
theorem dX7_add_23 : decode cX7_add 23 = .ok (.iload_n 1, 1) := by decide +kernel
theorem dX7_add_24 : decode cX7_add 24 = .ok (.invokevirtual 268, 3) := by decide +kernel
theorem dX7_add_27 : decode cX7_add 27 = .ok (.aload_n 0, 1) := by decide +kernel
theorem dX7_add_28 : decode cX7_add 28 = .ok (.invokevirtual 95, 3) := by decide +kernel
theorem dX7_add_31 : decode cX7_add 31 = .ok (.aload_n 0, 1) := by decide +kernel
theorem dX7_add_32 : decode cX7_add 32 = .ok (.getfield 12, 3) := by decide +kernel
theorem dX7_add_35 : decode cX7_add 35 = .ok (.getfield 108, 3) := by decide +kernel
theorem dX7_add_38 : decode cX7_add 38 = .ok (.iconst 1, 1) := by decide +kernel
theorem dX7_add_39 : decode cX7_add 39 = .ok (.isub, 1) := by decide +kernel
theorem dX7_add_40 : decode cX7_add 40 = .ok (.ireturn, 1) := by decide +kernel
theorem dX7_ties_0 : decode cX7_ties 0 = .ok (.iload_n 1, 1) := by decide +kernel
theorem dX7_ties_1 : decode cX7_ties 1 = .ok (.ifCond .lt 8, 3) := by decide +kernel
theorem dX7_ties_4 : decode cX7_ties 4 = .ok (.iload_n 1, 1) := by decide +kernel
theorem dX7_ties_5 : decode cX7_ties 5 = .ok (.iconst 3, 1) := by decide +kernel
theorem dX7_ties_6 : decode cX7_ties 6 = .ok (.if_icmp .le 14, 3) := by decide +kernel
theorem dX7_ties_9 : decode cX7_ties 9 = .ok (.new 126, 3) := by decide +kernel
theorem dX7_ties_12 : decode cX7_ties 12 = .ok (.dup, 1) := by decide +kernel
theorem dX7_ties_13 : decode cX7_ties 13 = .ok (.ldc_w 274, 3) := by decide +kernel
theorem dX7_ties_16 : decode cX7_ties 16 = .ok (.invokespecial 130, 3) := by decide +kernel
theorem dX7_ties_19 : decode cX7_ties 19 = .ok (.athrow, 1) := by decide +kernel
theorem dX7_ties_20 : decode cX7_ties 20 = .ok (.aload_n 0, 1) := by decide +kernel
theorem dX7_ties_21 : decode cX7_ties 21 = .ok (.getfield 50, 3) := by decide +kernel
theorem dX7_ties_24 : decode cX7_ties 24 = .ok (.aload_n 0, 1) := by decide +kernel
theorem dX7_ties_25 : decode cX7_ties 25 = .ok (.getfield 12, 3) := by decide +kernel
theorem dX7_ties_28 : decode cX7_ties 28 = .ok (.aload_n 0, 1) := by decide +kernel
theorem dX7_ties_29 : decode cX7_ties 29 = .ok (.getfield 16, 3) := by decide +kernel
theorem dX7_ties_32 : decode cX7_ties 32 = .ok (.aload_n 0, 1) := by decide +kernel
theorem dX7_ties_33 : decode cX7_ties 33 = .ok (.getfield 29, 3) := by decide +kernel
theorem dX7_ties_36 : decode cX7_ties 36 = .ok (.invokevirtual 276, 3) := by decide +kernel
theorem dX7_ties_39 : decode cX7_ties 39 = .ok (.aload_n 0, 1) := by decide +kernel
theorem dX7_ties_40 : decode cX7_ties 40 = .ok (.getfield 50, 3) := by decide +kernel
theorem dX7_ties_43 : decode cX7_ties 43 = .ok (.invokevirtual 280, 3) := by decide +kernel
theorem dX7_ties_46 : decode cX7_ties 46 = .ok (.ifCond .eq 5, 3) := by decide +kernel
theorem dX7_ties_49 : decode cX7_ties 49 = .ok (.iconst (-1), 1) := by decide +kernel
theorem dX7_ties_50 : decode cX7_ties 50 = .ok (.ireturn, 1) := by decide +kernel
theorem dX7_ties_51 : decode cX7_ties 51 = .ok (.iload_n 1, 1) := by decide +kernel
theorem dX7_ties_52 : decode cX7_ties 52 = .ok (.tableswitch 62 0 2 #[28, 36, 44], 28) := by decide +kernel
theorem dX7_ties_80 : decode cX7_ties 80 = .ok (.aload_n 0, 1) := by decide +kernel
theorem dX7_ties_81 : decode cX7_ties 81 = .ok (.getfield 50, 3) := by decide +kernel
theorem dX7_ties_84 : decode cX7_ties 84 = .ok (.getfield 284, 3) := by decide +kernel
theorem dX7_ties_87 : decode cX7_ties 87 = .ok (.ireturn, 1) := by decide +kernel
theorem dX7_ties_88 : decode cX7_ties 88 = .ok (.aload_n 0, 1) := by decide +kernel
theorem dX7_ties_89 : decode cX7_ties 89 = .ok (.getfield 50, 3) := by decide +kernel
theorem dX7_ties_92 : decode cX7_ties 92 = .ok (.getfield 287, 3) := by decide +kernel
theorem dX7_ties_95 : decode cX7_ties 95 = .ok (.ireturn, 1) := by decide +kernel
theorem dX7_ties_96 : decode cX7_ties 96 = .ok (.aload_n 0, 1) := by decide +kernel
theorem dX7_ties_97 : decode cX7_ties 97 = .ok (.getfield 12, 3) := by decide +kernel
theorem dX7_ties_100 : decode cX7_ties 100 = .ok (.invokevirtual 175, 3) := by decide +kernel
theorem dX7_ties_103 : decode cX7_ties 103 = .ok (.aload_n 0, 1) := by decide +kernel
theorem dX7_ties_104 : decode cX7_ties 104 = .ok (.getfield 50, 3) := by decide +kernel
theorem dX7_ties_107 : decode cX7_ties 107 = .ok (.getfield 290, 3) := by decide +kernel
theorem dX7_ties_110 : decode cX7_ties 110 = .ok (.iconst (-1), 1) := by decide +kernel
theorem dX7_ties_111 : decode cX7_ties 111 = .ok (.ixor, 1) := by decide +kernel
theorem dX7_ties_112 : decode cX7_ties 112 = .ok (.iand, 1) := by decide +kernel
theorem dX7_ties_113 : decode cX7_ties 113 = .ok (.ireturn, 1) := by decide +kernel
theorem dX7_ties_114 : decode cX7_ties 114 = .ok (.aload_n 0, 1) := by decide +kernel
theorem dX7_ties_115 : decode cX7_ties 115 = .ok (.getfield 50, 3) := by decide +kernel
theorem dX7_ties_118 : decode cX7_ties 118 = .ok (.getfield 290, 3) := by decide +kernel
theorem dX7_ties_121 : decode cX7_ties 121 = .ok (.aload_n 0, 1) := by decide +kernel
theorem dX7_ties_122 : decode cX7_ties 122 = .ok (.getfield 50, 3) := by decide +kernel
theorem dX7_ties_125 : decode cX7_ties 125 = .ok (.getfield 287, 3) := by decide +kernel
theorem dX7_ties_128 : decode cX7_ties 128 = .ok (.iconst (-1), 1) := by decide +kernel
theorem dX7_ties_129 : decode cX7_ties 129 = .ok (.ixor, 1) := by decide +kernel
theorem dX7_ties_130 : decode cX7_ties 130 = .ok (.iand, 1) := by decide +kernel
theorem dX7_ties_131 : decode cX7_ties 131 = .ok (.ireturn, 1) := by decide +kernel
theorem dX7_ask_0 : decode cX7_ask 0 = .ok (.aload_n 0, 1) := by decide +kernel
theorem dX7_ask_1 : decode cX7_ask 1 = .ok (.getfield 50, 3) := by decide +kernel
theorem dX7_ask_4 : decode cX7_ask 4 = .ok (.aload_n 0, 1) := by decide +kernel
theorem dX7_ask_5 : decode cX7_ask 5 = .ok (.getfield 12, 3) := by decide +kernel
theorem dX7_ask_8 : decode cX7_ask 8 = .ok (.aload_n 0, 1) := by decide +kernel
theorem dX7_ask_9 : decode cX7_ask 9 = .ok (.getfield 16, 3) := by decide +kernel
theorem dX7_ask_12 : decode cX7_ask 12 = .ok (.aload_n 0, 1) := by decide +kernel
theorem dX7_ask_13 : decode cX7_ask 13 = .ok (.getfield 29, 3) := by decide +kernel
theorem dX7_ask_16 : decode cX7_ask 16 = .ok (.invokevirtual 276, 3) := by decide +kernel
theorem dX7_ask_19 : decode cX7_ask 19 = .ok (.aload_n 0, 1) := by decide +kernel
theorem dX7_ask_20 : decode cX7_ask 20 = .ok (.getfield 50, 3) := by decide +kernel
theorem dX7_ask_23 : decode cX7_ask 23 = .ok (.invokevirtual 280, 3) := by decide +kernel
theorem dX7_ask_26 : decode cX7_ask 26 = .ok (.ifCond .eq 7, 3) := by decide +kernel
theorem dX7_ask_29 : decode cX7_ask 29 = .ok (.iconst (-1), 1) := by decide +kernel
theorem dX7_ask_30 : decode cX7_ask 30 = .ok (.goto 17, 3) := by decide +kernel
theorem dX7_ask_33 : decode cX7_ask 33 = .ok (.aload_n 0, 1) := by decide +kernel
theorem dX7_ask_34 : decode cX7_ask 34 = .ok (.getfield 50, 3) := by decide +kernel
theorem dX7_ask_37 : decode cX7_ask 37 = .ok (.aload_n 0, 1) := by decide +kernel
theorem dX7_ask_38 : decode cX7_ask 38 = .ok (.getfield 12, 3) := by decide +kernel
theorem dX7_ask_41 : decode cX7_ask 41 = .ok (.getfield 111, 3) := by decide +kernel
theorem dX7_ask_44 : decode cX7_ask 44 = .ok (.invokevirtual 293, 3) := by decide +kernel
theorem dX7_ask_47 : decode cX7_ask 47 = .ok (.ireturn, 1) := by decide +kernel
theorem dX7_row_0 : decode cX7_row 0 = .ok (.iload_n 1, 1) := by decide +kernel
theorem dX7_row_1 : decode cX7_row 1 = .ok (.ifCond .lt 26, 3) := by decide +kernel
theorem dX7_row_4 : decode cX7_row 4 = .ok (.iload_n 1, 1) := by decide +kernel
theorem dX7_row_5 : decode cX7_row 5 = .ok (.aload_n 0, 1) := by decide +kernel
theorem dX7_row_6 : decode cX7_row 6 = .ok (.getfield 12, 3) := by decide +kernel
theorem dX7_row_9 : decode cX7_row 9 = .ok (.getfield 114, 3) := by decide +kernel
theorem dX7_row_12 : decode cX7_row 12 = .ok (.if_icmp .gt 15, 3) := by decide +kernel
theorem dX7_row_15 : decode cX7_row 15 = .ok (.aload_n 0, 1) := by decide +kernel
theorem dX7_row_16 : decode cX7_row 16 = .ok (.getfield 57, 3) := by decide +kernel
theorem dX7_row_19 : decode cX7_row 19 = .ok (.getfield 120, 3) := by decide +kernel
theorem dX7_row_22 : decode cX7_row 22 = .ok (.bipush 12, 2) := by decide +kernel
theorem dX7_row_24 : decode cX7_row 24 = .ok (.if_icmp .lt 5, 3) := by decide +kernel
theorem dX7_row_27 : decode cX7_row 27 = .ok (.iconst (-1), 1) := by decide +kernel
theorem dX7_row_28 : decode cX7_row 28 = .ok (.ireturn, 1) := by decide +kernel
theorem dX7_row_29 : decode cX7_row 29 = .ok (.iconst 0, 1) := by decide +kernel
theorem dX7_row_30 : decode cX7_row 30 = .ok (.istore 4, 2) := by decide +kernel
theorem dX7_row_32 : decode cX7_row 32 = .ok (.iload 4, 2) := by decide +kernel
theorem dX7_row_34 : decode cX7_row 34 = .ok (.iload_n 1, 1) := by decide +kernel
theorem dX7_row_35 : decode cX7_row 35 = .ok (.if_icmp .ge 27, 3) := by decide +kernel
theorem dX7_row_38 : decode cX7_row 38 = .ok (.lload_n 2, 1) := by decide +kernel
theorem dX7_row_39 : decode cX7_row 39 = .ok (.iload 4, 2) := by decide +kernel
theorem dX7_row_41 : decode cX7_row 41 = .ok (.invokestatic 296, 3) := by decide +kernel
theorem dX7_row_44 : decode cX7_row 44 = .ok (.aload_n 0, 1) := by decide +kernel
theorem dX7_row_45 : decode cX7_row 45 = .ok (.getfield 12, 3) := by decide +kernel
theorem dX7_row_48 : decode cX7_row 48 = .ok (.getfield 108, 3) := by decide +kernel
theorem dX7_row_51 : decode cX7_row 51 = .ok (.if_icmp .lt 5, 3) := by decide +kernel
theorem dX7_row_54 : decode cX7_row 54 = .ok (.iconst (-1), 1) := by decide +kernel
theorem dX7_row_55 : decode cX7_row 55 = .ok (.ireturn, 1) := by decide +kernel
theorem dX7_row_56 : decode cX7_row 56 = .ok (.iinc 4 1, 3) := by decide +kernel
theorem dX7_row_59 : decode cX7_row 59 = .ok (.goto (-27), 3) := by decide +kernel
theorem dX7_row_62 : decode cX7_row 62 = .ok (.aload_n 0, 1) := by decide +kernel
theorem dX7_row_63 : decode cX7_row 63 = .ok (.getfield 57, 3) := by decide +kernel
theorem dX7_row_66 : decode cX7_row 66 = .ok (.iload_n 1, 1) := by decide +kernel
theorem dX7_row_67 : decode cX7_row 67 = .ok (.lload_n 2, 1) := by decide +kernel
theorem dX7_row_68 : decode cX7_row 68 = .ok (.invokevirtual 300, 3) := by decide +kernel
theorem dX7_row_71 : decode cX7_row 71 = .ok (.ireturn, 1) := by decide +kernel
theorem dX7_judge_0 : decode cX7_judge 0 = .ok (.aload_n 0, 1) := by decide +kernel
theorem dX7_judge_1 : decode cX7_judge 1 = .ok (.iload_n 1, 1) := by decide +kernel
theorem dX7_judge_2 : decode cX7_judge 2 = .ok (.invokevirtual 304, 3) := by decide +kernel
theorem dX7_judge_5 : decode cX7_judge 5 = .ok (.iload_n 2, 1) := by decide +kernel
theorem dX7_judge_6 : decode cX7_judge 6 = .ok (.tableswitch 81 0 3 #[30, 40, 49, 62], 30) := by decide +kernel
theorem dX7_judge_36 : decode cX7_judge 36 = .ok (.aload_n 0, 1) := by decide +kernel
theorem dX7_judge_37 : decode cX7_judge 37 = .ok (.getfield 57, 3) := by decide +kernel
theorem dX7_judge_40 : decode cX7_judge 40 = .ok (.getfield 307, 3) := by decide +kernel
theorem dX7_judge_43 : decode cX7_judge 43 = .ok (.iload_n 1, 1) := by decide +kernel
theorem dX7_judge_44 : decode cX7_judge 44 = .ok (.iaload, 1) := by decide +kernel
theorem dX7_judge_45 : decode cX7_judge 45 = .ok (.ireturn, 1) := by decide +kernel
theorem dX7_judge_46 : decode cX7_judge 46 = .ok (.aload_n 0, 1) := by decide +kernel
theorem dX7_judge_47 : decode cX7_judge 47 = .ok (.getfield 57, 3) := by decide +kernel
theorem dX7_judge_50 : decode cX7_judge 50 = .ok (.iload_n 1, 1) := by decide +kernel
theorem dX7_judge_51 : decode cX7_judge 51 = .ok (.invokevirtual 310, 3) := by decide +kernel
theorem dX7_judge_54 : decode cX7_judge 54 = .ok (.ireturn, 1) := by decide +kernel
theorem dX7_judge_55 : decode cX7_judge 55 = .ok (.aload_n 0, 1) := by decide +kernel
theorem dX7_judge_56 : decode cX7_judge 56 = .ok (.getfield 57, 3) := by decide +kernel
theorem dX7_judge_59 : decode cX7_judge 59 = .ok (.iload_n 1, 1) := by decide +kernel
theorem dX7_judge_60 : decode cX7_judge 60 = .ok (.aload_n 0, 1) := by decide +kernel
theorem dX7_judge_61 : decode cX7_judge 61 = .ok (.getfield 12, 3) := by decide +kernel
theorem dX7_judge_64 : decode cX7_judge 64 = .ok (.invokevirtual 313, 3) := by decide +kernel
theorem dX7_judge_67 : decode cX7_judge 67 = .ok (.ireturn, 1) := by decide +kernel
theorem dX7_judge_68 : decode cX7_judge 68 = .ok (.aload_n 0, 1) := by decide +kernel
theorem dX7_judge_69 : decode cX7_judge 69 = .ok (.getfield 12, 3) := by decide +kernel
theorem dX7_judge_72 : decode cX7_judge 72 = .ok (.invokevirtual 175, 3) := by decide +kernel
theorem dX7_judge_75 : decode cX7_judge 75 = .ok (.aload_n 0, 1) := by decide +kernel
theorem dX7_judge_76 : decode cX7_judge 76 = .ok (.getfield 57, 3) := by decide +kernel
theorem dX7_judge_79 : decode cX7_judge 79 = .ok (.iload_n 1, 1) := by decide +kernel
theorem dX7_judge_80 : decode cX7_judge 80 = .ok (.invokevirtual 317, 3) := by decide +kernel
theorem dX7_judge_83 : decode cX7_judge 83 = .ok (.iconst (-1), 1) := by decide +kernel
theorem dX7_judge_84 : decode cX7_judge 84 = .ok (.ixor, 1) := by decide +kernel
theorem dX7_judge_85 : decode cX7_judge 85 = .ok (.iand, 1) := by decide +kernel
theorem dX7_judge_86 : decode cX7_judge 86 = .ok (.ireturn, 1) := by decide +kernel
theorem dX7_judge_87 : decode cX7_judge 87 = .ok (.new 126, 3) := by decide +kernel
theorem dX7_judge_90 : decode cX7_judge 90 = .ok (.dup, 1) := by decide +kernel
theorem dX7_judge_91 : decode cX7_judge 91 = .ok (.ldc_w 320, 3) := by decide +kernel
theorem dX7_judge_94 : decode cX7_judge 94 = .ok (.invokespecial 130, 3) := by decide +kernel
theorem dX7_judge_97 : decode cX7_judge 97 = .ok (.athrow, 1) := by decide +kernel
theorem dX7_hold_0 : decode cX7_hold 0 = .ok (.iload_n 2, 1) := by decide +kernel
theorem dX7_hold_1 : decode cX7_hold 1 = .ok (.tableswitch 46 0 2 #[27, 35, 43], 27) := by decide +kernel
theorem dX7_hold_28 : decode cX7_hold 28 = .ok (.aload_n 0, 1) := by decide +kernel
theorem dX7_hold_29 : decode cX7_hold 29 = .ok (.iload_n 3, 1) := by decide +kernel
theorem dX7_hold_30 : decode cX7_hold 30 = .ok (.invokevirtual 134, 3) := by decide +kernel
theorem dX7_hold_33 : decode cX7_hold 33 = .ok (.goto 25, 3) := by decide +kernel
theorem dX7_hold_36 : decode cX7_hold 36 = .ok (.aload_n 0, 1) := by decide +kernel
theorem dX7_hold_37 : decode cX7_hold 37 = .ok (.iload_n 3, 1) := by decide +kernel
theorem dX7_hold_38 : decode cX7_hold 38 = .ok (.invokevirtual 304, 3) := by decide +kernel
theorem dX7_hold_41 : decode cX7_hold 41 = .ok (.goto 17, 3) := by decide +kernel
theorem dX7_hold_44 : decode cX7_hold 44 = .ok (.goto 14, 3) := by decide +kernel
theorem dX7_hold_47 : decode cX7_hold 47 = .ok (.new 126, 3) := by decide +kernel
theorem dX7_hold_50 : decode cX7_hold 50 = .ok (.dup, 1) := by decide +kernel
theorem dX7_hold_51 : decode cX7_hold 51 = .ok (.ldc_w 322, 3) := by decide +kernel
theorem dX7_hold_54 : decode cX7_hold 54 = .ok (.invokespecial 130, 3) := by decide +kernel
theorem dX7_hold_57 : decode cX7_hold 57 = .ok (.athrow, 1) := by decide +kernel
theorem dX7_hold_58 : decode cX7_hold 58 = .ok (.iload_n 1, 1) := by decide +kernel
theorem dX7_hold_59 : decode cX7_hold 59 = .ok (.ifCond .lt 9, 3) := by decide +kernel
theorem dX7_hold_62 : decode cX7_hold 62 = .ok (.iload_n 1, 1) := by decide +kernel
theorem dX7_hold_63 : decode cX7_hold 63 = .ok (.bipush 8, 2) := by decide +kernel
theorem dX7_hold_65 : decode cX7_hold 65 = .ok (.if_icmp .lt 5, 3) := by decide +kernel
theorem dX7_hold_68 : decode cX7_hold 68 = .ok (.iconst 0, 1) := by decide +kernel
theorem dX7_hold_69 : decode cX7_hold 69 = .ok (.ireturn, 1) := by decide +kernel
theorem dX7_hold_70 : decode cX7_hold 70 = .ok (.aload_n 0, 1) := by decide +kernel
theorem dX7_hold_71 : decode cX7_hold 71 = .ok (.getfield 57, 3) := by decide +kernel
theorem dX7_hold_74 : decode cX7_hold 74 = .ok (.getfield 324, 3) := by decide +kernel
theorem dX7_hold_77 : decode cX7_hold 77 = .ok (.iload_n 1, 1) := by decide +kernel
theorem dX7_hold_78 : decode cX7_hold 78 = .ok (.iload_n 2, 1) := by decide +kernel
theorem dX7_hold_79 : decode cX7_hold 79 = .ok (.iastore, 1) := by decide +kernel
theorem dX7_hold_80 : decode cX7_hold 80 = .ok (.aload_n 0, 1) := by decide +kernel
theorem dX7_hold_81 : decode cX7_hold 81 = .ok (.getfield 57, 3) := by decide +kernel
theorem dX7_hold_84 : decode cX7_hold 84 = .ok (.getfield 327, 3) := by decide +kernel
theorem dX7_hold_87 : decode cX7_hold 87 = .ok (.iload_n 1, 1) := by decide +kernel
theorem dX7_hold_88 : decode cX7_hold 88 = .ok (.iload_n 3, 1) := by decide +kernel
theorem dX7_hold_89 : decode cX7_hold 89 = .ok (.iastore, 1) := by decide +kernel
theorem dX7_hold_90 : decode cX7_hold 90 = .ok (.iconst 1, 1) := by decide +kernel
theorem dX7_hold_91 : decode cX7_hold 91 = .ok (.ireturn, 1) := by decide +kernel
theorem dX7_held_0 : decode cX7_held 0 = .ok (.iload_n 2, 1) := by decide +kernel
theorem dX7_held_1 : decode cX7_held 1 = .ok (.ifCond .eq 19, 3) := by decide +kernel
theorem dX7_held_4 : decode cX7_held 4 = .ok (.iload_n 2, 1) := by decide +kernel
theorem dX7_held_5 : decode cX7_held 5 = .ok (.iconst 1, 1) := by decide +kernel
theorem dX7_held_6 : decode cX7_held 6 = .ok (.if_icmp .eq 14, 3) := by decide +kernel
theorem dX7_held_9 : decode cX7_held 9 = .ok (.new 126, 3) := by decide +kernel
theorem dX7_held_12 : decode cX7_held 12 = .ok (.dup, 1) := by decide +kernel
theorem dX7_held_13 : decode cX7_held 13 = .ok (.ldc_w 322, 3) := by decide +kernel
theorem dX7_held_16 : decode cX7_held 16 = .ok (.invokespecial 130, 3) := by decide +kernel
theorem dX7_held_19 : decode cX7_held 19 = .ok (.athrow, 1) := by decide +kernel
theorem dX7_held_20 : decode cX7_held 20 = .ok (.aload_n 0, 1) := by decide +kernel
theorem dX7_held_21 : decode cX7_held 21 = .ok (.iload_n 1, 1) := by decide +kernel
theorem dX7_held_22 : decode cX7_held 22 = .ok (.invokevirtual 330, 3) := by decide +kernel
theorem dX7_held_25 : decode cX7_held 25 = .ok (.aload_n 0, 1) := by decide +kernel
theorem dX7_held_26 : decode cX7_held 26 = .ok (.getfield 57, 3) := by decide +kernel
theorem dX7_held_29 : decode cX7_held 29 = .ok (.iload_n 1, 1) := by decide +kernel
theorem dX7_held_30 : decode cX7_held 30 = .ok (.iload_n 2, 1) := by decide +kernel
theorem dX7_held_31 : decode cX7_held 31 = .ok (.invokevirtual 333, 3) := by decide +kernel
theorem dX7_held_34 : decode cX7_held 34 = .ok (.istore_n 3, 1) := by decide +kernel
theorem dX7_held_35 : decode cX7_held 35 = .ok (.iload_n 3, 1) := by decide +kernel
theorem dX7_held_36 : decode cX7_held 36 = .ok (.ifCond .ne 18, 3) := by decide +kernel
theorem dX7_held_39 : decode cX7_held 39 = .ok (.bipush 10, 2) := by decide +kernel
theorem dX7_held_41 : decode cX7_held 41 = .ok (.aload_n 0, 1) := by decide +kernel
theorem dX7_held_42 : decode cX7_held 42 = .ok (.getfield 57, 3) := by decide +kernel
theorem dX7_held_45 : decode cX7_held 45 = .ok (.getfield 327, 3) := by decide +kernel
theorem dX7_held_48 : decode cX7_held 48 = .ok (.iload_n 1, 1) := by decide +kernel
theorem dX7_held_49 : decode cX7_held 49 = .ok (.iaload, 1) := by decide +kernel
theorem dX7_held_50 : decode cX7_held 50 = .ok (.iadd, 1) := by decide +kernel
theorem dX7_held_51 : decode cX7_held 51 = .ok (.goto 4, 3) := by decide +kernel
theorem dX7_held_54 : decode cX7_held 54 = .ok (.iload_n 3, 1) := by decide +kernel
theorem dX7_held_55 : decode cX7_held 55 = .ok (.ireturn, 1) := by decide +kernel
theorem dX7_left_0 : decode cX7_left 0 = .ok (.aload_n 0, 1) := by decide +kernel
theorem dX7_left_1 : decode cX7_left 1 = .ok (.iload_n 1, 1) := by decide +kernel
theorem dX7_left_2 : decode cX7_left 2 = .ok (.invokevirtual 330, 3) := by decide +kernel
theorem dX7_left_5 : decode cX7_left 5 = .ok (.aload_n 0, 1) := by decide +kernel
theorem dX7_left_6 : decode cX7_left 6 = .ok (.iload_n 2, 1) := by decide +kernel
theorem dX7_left_7 : decode cX7_left 7 = .ok (.invokevirtual 330, 3) := by decide +kernel
theorem dX7_left_10 : decode cX7_left 10 = .ok (.aload_n 0, 1) := by decide +kernel
theorem dX7_left_11 : decode cX7_left 11 = .ok (.getfield 57, 3) := by decide +kernel
theorem dX7_left_14 : decode cX7_left 14 = .ok (.iload_n 1, 1) := by decide +kernel
theorem dX7_left_15 : decode cX7_left 15 = .ok (.iconst 0, 1) := by decide +kernel
theorem dX7_left_16 : decode cX7_left 16 = .ok (.invokevirtual 333, 3) := by decide +kernel
theorem dX7_left_19 : decode cX7_left 19 = .ok (.istore_n 3, 1) := by decide +kernel
theorem dX7_left_20 : decode cX7_left 20 = .ok (.aload_n 0, 1) := by decide +kernel
theorem dX7_left_21 : decode cX7_left 21 = .ok (.getfield 57, 3) := by decide +kernel
theorem dX7_left_24 : decode cX7_left 24 = .ok (.iload_n 2, 1) := by decide +kernel
theorem dX7_left_25 : decode cX7_left 25 = .ok (.iconst 1, 1) := by decide +kernel
theorem dX7_left_26 : decode cX7_left 26 = .ok (.invokevirtual 333, 3) := by decide +kernel
theorem dX7_left_29 : decode cX7_left 29 = .ok (.istore 4, 2) := by decide +kernel
theorem dX7_left_31 : decode cX7_left 31 = .ok (.iload_n 3, 1) := by decide +kernel
theorem dX7_left_32 : decode cX7_left 32 = .ok (.ifCond .eq 15, 3) := by decide +kernel
theorem dX7_left_35 : decode cX7_left 35 = .ok (.iload 4, 2) := by decide +kernel
theorem dX7_left_37 : decode cX7_left 37 = .ok (.ifCond .eq 10, 3) := by decide +kernel
theorem dX7_left_40 : decode cX7_left 40 = .ok (.iload_n 3, 1) := by decide +kernel
theorem dX7_left_41 : decode cX7_left 41 = .ok (.iload 4, 2) := by decide +kernel
theorem dX7_left_43 : decode cX7_left 43 = .ok (.invokestatic 336, 3) := by decide +kernel
theorem dX7_left_46 : decode cX7_left 46 = .ok (.ireturn, 1) := by decide +kernel
theorem dX7_left_47 : decode cX7_left 47 = .ok (.iload_n 3, 1) := by decide +kernel
theorem dX7_left_48 : decode cX7_left 48 = .ok (.ifCond .ne 8, 3) := by decide +kernel
theorem dX7_left_51 : decode cX7_left 51 = .ok (.iload 4, 2) := by decide +kernel
theorem dX7_left_53 : decode cX7_left 53 = .ok (.ifCond .eq 10, 3) := by decide +kernel
theorem dX7_left_56 : decode cX7_left 56 = .ok (.iload_n 3, 1) := by decide +kernel
theorem dX7_left_57 : decode cX7_left 57 = .ok (.iload 4, 2) := by decide +kernel
theorem dX7_left_59 : decode cX7_left 59 = .ok (.invokestatic 234, 3) := by decide +kernel
theorem dX7_left_62 : decode cX7_left 62 = .ok (.ireturn, 1) := by decide +kernel
theorem dX7_left_63 : decode cX7_left 63 = .ok (.aload_n 0, 1) := by decide +kernel
theorem dX7_left_64 : decode cX7_left 64 = .ok (.getfield 57, 3) := by decide +kernel
theorem dX7_left_67 : decode cX7_left 67 = .ok (.aload_n 0, 1) := by decide +kernel
theorem dX7_left_68 : decode cX7_left 68 = .ok (.getfield 57, 3) := by decide +kernel
theorem dX7_left_71 : decode cX7_left 71 = .ok (.getfield 327, 3) := by decide +kernel
theorem dX7_left_74 : decode cX7_left 74 = .ok (.iload_n 2, 1) := by decide +kernel
theorem dX7_left_75 : decode cX7_left 75 = .ok (.iaload, 1) := by decide +kernel
theorem dX7_left_76 : decode cX7_left 76 = .ok (.invokevirtual 317, 3) := by decide +kernel
theorem dX7_left_79 : decode cX7_left 79 = .ok (.istore 5, 2) := by decide +kernel
theorem dX7_left_81 : decode cX7_left 81 = .ok (.iload 5, 2) := by decide +kernel
theorem dX7_left_83 : decode cX7_left 83 = .ok (.aload_n 0, 1) := by decide +kernel
theorem dX7_left_84 : decode cX7_left 84 = .ok (.getfield 57, 3) := by decide +kernel
theorem dX7_left_87 : decode cX7_left 87 = .ok (.getfield 327, 3) := by decide +kernel
theorem dX7_left_90 : decode cX7_left 90 = .ok (.iload_n 1, 1) := by decide +kernel
theorem dX7_left_91 : decode cX7_left 91 = .ok (.iaload, 1) := by decide +kernel
theorem dX7_left_92 : decode cX7_left 92 = .ok (.ishr, 1) := by decide +kernel
theorem dX7_left_93 : decode cX7_left 93 = .ok (.iconst 1, 1) := by decide +kernel
theorem dX7_left_94 : decode cX7_left 94 = .ok (.iand, 1) := by decide +kernel
theorem dX7_left_95 : decode cX7_left 95 = .ok (.iconst 1, 1) := by decide +kernel
theorem dX7_left_96 : decode cX7_left 96 = .ok (.if_icmp .ne 8, 3) := by decide +kernel
theorem dX7_left_99 : decode cX7_left 99 = .ok (.bipush 10, 2) := by decide +kernel
theorem dX7_left_101 : decode cX7_left 101 = .ok (.goto 5, 3) := by decide +kernel
theorem dX7_left_104 : decode cX7_left 104 = .ok (.bipush 11, 2) := by decide +kernel
theorem dX7_left_106 : decode cX7_left 106 = .ok (.ireturn, 1) := by decide +kernel
theorem dX7_needThing_0 : decode cX7_needThing 0 = .ok (.iload_n 1, 1) := by decide +kernel
theorem dX7_needThing_1 : decode cX7_needThing 1 = .ok (.ifCond .lt 14, 3) := by decide +kernel
theorem dX7_needThing_4 : decode cX7_needThing 4 = .ok (.iload_n 1, 1) := by decide +kernel
theorem dX7_needThing_5 : decode cX7_needThing 5 = .ok (.aload_n 0, 1) := by decide +kernel
theorem dX7_needThing_6 : decode cX7_needThing 6 = .ok (.getfield 12, 3) := by decide +kernel
theorem dX7_needThing_9 : decode cX7_needThing 9 = .ok (.getfield 108, 3) := by decide +kernel
theorem dX7_needThing_12 : decode cX7_needThing 12 = .ok (.if_icmp .lt 14, 3) := by decide +kernel
theorem dX7_needThing_15 : decode cX7_needThing 15 = .ok (.new 126, 3) := by decide +kernel
theorem dX7_needThing_18 : decode cX7_needThing 18 = .ok (.dup, 1) := by decide +kernel
theorem dX7_needThing_19 : decode cX7_needThing 19 = .ok (.ldc_w 339, 3) := by decide +kernel
theorem dX7_needThing_22 : decode cX7_needThing 22 = .ok (.invokespecial 130, 3) := by decide +kernel
theorem dX7_needThing_25 : decode cX7_needThing 25 = .ok (.athrow, 1) := by decide +kernel
theorem dX7_needThing_26 : decode cX7_needThing 26 = .ok (.return_, 1) := by decide +kernel
theorem dX7_needPerson_0 : decode cX7_needPerson 0 = .ok (.iload_n 1, 1) := by decide +kernel
theorem dX7_needPerson_1 : decode cX7_needPerson 1 = .ok (.ifCond .lt 14, 3) := by decide +kernel
theorem dX7_needPerson_4 : decode cX7_needPerson 4 = .ok (.iload_n 1, 1) := by decide +kernel
theorem dX7_needPerson_5 : decode cX7_needPerson 5 = .ok (.aload_n 0, 1) := by decide +kernel
theorem dX7_needPerson_6 : decode cX7_needPerson 6 = .ok (.getfield 12, 3) := by decide +kernel
theorem dX7_needPerson_9 : decode cX7_needPerson 9 = .ok (.getfield 111, 3) := by decide +kernel
theorem dX7_needPerson_12 : decode cX7_needPerson 12 = .ok (.if_icmp .lt 14, 3) := by decide +kernel
theorem dX7_needPerson_15 : decode cX7_needPerson 15 = .ok (.new 126, 3) := by decide +kernel
theorem dX7_needPerson_18 : decode cX7_needPerson 18 = .ok (.dup, 1) := by decide +kernel
theorem dX7_needPerson_19 : decode cX7_needPerson 19 = .ok (.ldc_w 341, 3) := by decide +kernel
theorem dX7_needPerson_22 : decode cX7_needPerson 22 = .ok (.invokespecial 130, 3) := by decide +kernel
theorem dX7_needPerson_25 : decode cX7_needPerson 25 = .ok (.athrow, 1) := by decide +kernel
theorem dX7_needPerson_26 : decode cX7_needPerson 26 = .ok (.return_, 1) := by decide +kernel
theorem dX7_needRow_0 : decode cX7_needRow 0 = .ok (.iload_n 1, 1) := by decide +kernel
theorem dX7_needRow_1 : decode cX7_needRow 1 = .ok (.ifCond .lt 14, 3) := by decide +kernel
theorem dX7_needRow_4 : decode cX7_needRow 4 = .ok (.iload_n 1, 1) := by decide +kernel
theorem dX7_needRow_5 : decode cX7_needRow 5 = .ok (.aload_n 0, 1) := by decide +kernel
theorem dX7_needRow_6 : decode cX7_needRow 6 = .ok (.getfield 57, 3) := by decide +kernel
theorem dX7_needRow_9 : decode cX7_needRow 9 = .ok (.getfield 120, 3) := by decide +kernel
theorem dX7_needRow_12 : decode cX7_needRow 12 = .ok (.if_icmp .lt 14, 3) := by decide +kernel
theorem dX7_needRow_15 : decode cX7_needRow 15 = .ok (.new 126, 3) := by decide +kernel
theorem dX7_needRow_18 : decode cX7_needRow 18 = .ok (.dup, 1) := by decide +kernel
theorem dX7_needRow_19 : decode cX7_needRow 19 = .ok (.ldc_w 343, 3) := by decide +kernel
theorem dX7_needRow_22 : decode cX7_needRow 22 = .ok (.invokespecial 130, 3) := by decide +kernel
theorem dX7_needRow_25 : decode cX7_needRow 25 = .ok (.athrow, 1) := by decide +kernel
theorem dX7_needRow_26 : decode cX7_needRow 26 = .ok (.return_, 1) := by decide +kernel
theorem dX7_needHolder_0 : decode cX7_needHolder 0 = .ok (.iload_n 1, 1) := by decide +kernel
theorem dX7_needHolder_1 : decode cX7_needHolder 1 = .ok (.ifCond .lt 9, 3) := by decide +kernel
theorem dX7_needHolder_4 : decode cX7_needHolder 4 = .ok (.iload_n 1, 1) := by decide +kernel
theorem dX7_needHolder_5 : decode cX7_needHolder 5 = .ok (.bipush 8, 2) := by decide +kernel
theorem dX7_needHolder_7 : decode cX7_needHolder 7 = .ok (.if_icmp .lt 14, 3) := by decide +kernel
theorem dX7_needHolder_10 : decode cX7_needHolder 10 = .ok (.new 126, 3) := by decide +kernel
theorem dX7_needHolder_13 : decode cX7_needHolder 13 = .ok (.dup, 1) := by decide +kernel
theorem dX7_needHolder_14 : decode cX7_needHolder 14 = .ok (.ldc_w 345, 3) := by decide +kernel
theorem dX7_needHolder_17 : decode cX7_needHolder 17 = .ok (.invokespecial 130, 3) := by decide +kernel
theorem dX7_needHolder_20 : decode cX7_needHolder 20 = .ok (.athrow, 1) := by decide +kernel
theorem dX7_needHolder_21 : decode cX7_needHolder 21 = .ok (.return_, 1) := by decide +kernel
theorem dJ6_bitCount_0f7a4_0 : decode cJ6_bitCount_0f7a4 0 = .ok (.iload_n 0, 1) := by decide +kernel
theorem dJ6_bitCount_0f7a4_1 : decode cJ6_bitCount_0f7a4 1 = .ok (.iload_n 0, 1) := by decide +kernel
theorem dJ6_bitCount_0f7a4_2 : decode cJ6_bitCount_0f7a4 2 = .ok (.iconst 1, 1) := by decide +kernel
theorem dJ6_bitCount_0f7a4_3 : decode cJ6_bitCount_0f7a4 3 = .ok (.iushr, 1) := by decide +kernel
theorem dJ6_bitCount_0f7a4_4 : decode cJ6_bitCount_0f7a4 4 = .ok (.ldc_w 265, 3) := by decide +kernel
theorem dJ6_bitCount_0f7a4_7 : decode cJ6_bitCount_0f7a4 7 = .ok (.iand, 1) := by decide +kernel
theorem dJ6_bitCount_0f7a4_8 : decode cJ6_bitCount_0f7a4 8 = .ok (.isub, 1) := by decide +kernel
theorem dJ6_bitCount_0f7a4_9 : decode cJ6_bitCount_0f7a4 9 = .ok (.istore_n 0, 1) := by decide +kernel
theorem dJ6_bitCount_0f7a4_10 : decode cJ6_bitCount_0f7a4 10 = .ok (.iload_n 0, 1) := by decide +kernel
theorem dJ6_bitCount_0f7a4_11 : decode cJ6_bitCount_0f7a4 11 = .ok (.ldc_w 266, 3) := by decide +kernel
theorem dJ6_bitCount_0f7a4_14 : decode cJ6_bitCount_0f7a4 14 = .ok (.iand, 1) := by decide +kernel
theorem dJ6_bitCount_0f7a4_15 : decode cJ6_bitCount_0f7a4 15 = .ok (.iload_n 0, 1) := by decide +kernel
theorem dJ6_bitCount_0f7a4_16 : decode cJ6_bitCount_0f7a4 16 = .ok (.iconst 2, 1) := by decide +kernel
theorem dJ6_bitCount_0f7a4_17 : decode cJ6_bitCount_0f7a4 17 = .ok (.iushr, 1) := by decide +kernel
theorem dJ6_bitCount_0f7a4_18 : decode cJ6_bitCount_0f7a4 18 = .ok (.ldc_w 266, 3) := by decide +kernel
theorem dJ6_bitCount_0f7a4_21 : decode cJ6_bitCount_0f7a4 21 = .ok (.iand, 1) := by decide +kernel
theorem dJ6_bitCount_0f7a4_22 : decode cJ6_bitCount_0f7a4 22 = .ok (.iadd, 1) := by decide +kernel
theorem dJ6_bitCount_0f7a4_23 : decode cJ6_bitCount_0f7a4 23 = .ok (.istore_n 0, 1) := by decide +kernel
theorem dJ6_bitCount_0f7a4_24 : decode cJ6_bitCount_0f7a4 24 = .ok (.iload_n 0, 1) := by decide +kernel
theorem dJ6_bitCount_0f7a4_25 : decode cJ6_bitCount_0f7a4 25 = .ok (.iload_n 0, 1) := by decide +kernel
theorem dJ6_bitCount_0f7a4_26 : decode cJ6_bitCount_0f7a4 26 = .ok (.iconst 4, 1) := by decide +kernel
theorem dJ6_bitCount_0f7a4_27 : decode cJ6_bitCount_0f7a4 27 = .ok (.iushr, 1) := by decide +kernel
theorem dJ6_bitCount_0f7a4_28 : decode cJ6_bitCount_0f7a4 28 = .ok (.iadd, 1) := by decide +kernel
theorem dJ6_bitCount_0f7a4_29 : decode cJ6_bitCount_0f7a4 29 = .ok (.ldc_w 267, 3) := by decide +kernel
theorem dJ6_bitCount_0f7a4_32 : decode cJ6_bitCount_0f7a4 32 = .ok (.iand, 1) := by decide +kernel
theorem dJ6_bitCount_0f7a4_33 : decode cJ6_bitCount_0f7a4 33 = .ok (.istore_n 0, 1) := by decide +kernel
theorem dJ6_bitCount_0f7a4_34 : decode cJ6_bitCount_0f7a4 34 = .ok (.iload_n 0, 1) := by decide +kernel
theorem dJ6_bitCount_0f7a4_35 : decode cJ6_bitCount_0f7a4 35 = .ok (.iload_n 0, 1) := by decide +kernel
theorem dJ6_bitCount_0f7a4_36 : decode cJ6_bitCount_0f7a4 36 = .ok (.bipush 8, 2) := by decide +kernel
theorem dJ6_bitCount_0f7a4_38 : decode cJ6_bitCount_0f7a4 38 = .ok (.iushr, 1) := by decide +kernel
theorem dJ6_bitCount_0f7a4_39 : decode cJ6_bitCount_0f7a4 39 = .ok (.iadd, 1) := by decide +kernel
theorem dJ6_bitCount_0f7a4_40 : decode cJ6_bitCount_0f7a4 40 = .ok (.istore_n 0, 1) := by decide +kernel
theorem dJ6_bitCount_0f7a4_41 : decode cJ6_bitCount_0f7a4 41 = .ok (.iload_n 0, 1) := by decide +kernel
theorem dJ6_bitCount_0f7a4_42 : decode cJ6_bitCount_0f7a4 42 = .ok (.iload_n 0, 1) := by decide +kernel
theorem dJ6_bitCount_0f7a4_43 : decode cJ6_bitCount_0f7a4 43 = .ok (.bipush 16, 2) := by decide +kernel
theorem dJ6_bitCount_0f7a4_45 : decode cJ6_bitCount_0f7a4 45 = .ok (.iushr, 1) := by decide +kernel
theorem dJ6_bitCount_0f7a4_46 : decode cJ6_bitCount_0f7a4 46 = .ok (.iadd, 1) := by decide +kernel
theorem dJ6_bitCount_0f7a4_47 : decode cJ6_bitCount_0f7a4 47 = .ok (.istore_n 0, 1) := by decide +kernel
theorem dJ6_bitCount_0f7a4_48 : decode cJ6_bitCount_0f7a4 48 = .ok (.iload_n 0, 1) := by decide +kernel
theorem dJ6_bitCount_0f7a4_49 : decode cJ6_bitCount_0f7a4 49 = .ok (.bipush 63, 2) := by decide +kernel
theorem dJ6_bitCount_0f7a4_51 : decode cJ6_bitCount_0f7a4 51 = .ok (.iand, 1) := by decide +kernel
theorem dJ6_bitCount_0f7a4_52 : decode cJ6_bitCount_0f7a4 52 = .ok (.ireturn, 1) := by decide +kernel
theorem dJ9_max_7cf53_0 : decode cJ9_max_7cf53 0 = .ok (.iload_n 0, 1) := by decide +kernel
theorem dJ9_max_7cf53_1 : decode cJ9_max_7cf53 1 = .ok (.iload_n 1, 1) := by decide +kernel
theorem dJ9_max_7cf53_2 : decode cJ9_max_7cf53 2 = .ok (.if_icmp .lt 7, 3) := by decide +kernel
theorem dJ9_max_7cf53_5 : decode cJ9_max_7cf53 5 = .ok (.iload_n 0, 1) := by decide +kernel
theorem dJ9_max_7cf53_6 : decode cJ9_max_7cf53 6 = .ok (.goto 4, 3) := by decide +kernel
theorem dJ9_max_7cf53_9 : decode cJ9_max_7cf53 9 = .ok (.iload_n 1, 1) := by decide +kernel
theorem dJ9_max_7cf53_10 : decode cJ9_max_7cf53 10 = .ok (.ireturn, 1) := by decide +kernel
theorem dJ9_min_7cf53_0 : decode cJ9_min_7cf53 0 = .ok (.iload_n 0, 1) := by decide +kernel
theorem dJ9_min_7cf53_1 : decode cJ9_min_7cf53 1 = .ok (.iload_n 1, 1) := by decide +kernel
theorem dJ9_min_7cf53_2 : decode cJ9_min_7cf53 2 = .ok (.if_icmp .gt 7, 3) := by decide +kernel
theorem dJ9_min_7cf53_5 : decode cJ9_min_7cf53 5 = .ok (.iload_n 0, 1) := by decide +kernel
theorem dJ9_min_7cf53_6 : decode cJ9_min_7cf53 6 = .ok (.goto 4, 3) := by decide +kernel
theorem dJ9_min_7cf53_9 : decode cJ9_min_7cf53 9 = .ok (.iload_n 1, 1) := by decide +kernel
theorem dJ9_min_7cf53_10 : decode cJ9_min_7cf53 10 = .ok (.ireturn, 1) := by decide +kernel
theorem dJ0_length_8abf5_0 : decode cJ0_length_8abf5 0 = .ok (.aload_n 0, 1) := by decide +kernel
theorem dJ0_length_8abf5_1 : decode cJ0_length_8abf5 1 = .ok (.getfield 9, 3) := by decide +kernel
theorem dJ0_length_8abf5_4 : decode cJ0_length_8abf5 4 = .ok (.arraylength, 1) := by decide +kernel
theorem dJ0_length_8abf5_5 : decode cJ0_length_8abf5 5 = .ok (.aload_n 0, 1) := by decide +kernel
theorem dJ0_length_8abf5_6 : decode cJ0_length_8abf5 6 = .ok (.invokevirtual 335, 3) := by decide +kernel
theorem dJ0_length_8abf5_9 : decode cJ0_length_8abf5 9 = .ok (.ishr, 1) := by decide +kernel
theorem dJ0_length_8abf5_10 : decode cJ0_length_8abf5 10 = .ok (.ireturn, 1) := by decide +kernel
theorem dJ0_charAt_5068e_0 : decode cJ0_charAt_5068e 0 = .ok (.aload_n 0, 1) := by decide +kernel
theorem dJ0_charAt_5068e_1 : decode cJ0_charAt_5068e 1 = .ok (.invokevirtual 492, 3) := by decide +kernel
theorem dJ0_charAt_5068e_4 : decode cJ0_charAt_5068e 4 = .ok (.ifCond .eq 12, 3) := by decide +kernel
theorem dJ0_charAt_5068e_7 : decode cJ0_charAt_5068e 7 = .ok (.aload_n 0, 1) := by decide +kernel
theorem dJ0_charAt_5068e_8 : decode cJ0_charAt_5068e 8 = .ok (.getfield 9, 3) := by decide +kernel
theorem dJ0_charAt_5068e_11 : decode cJ0_charAt_5068e 11 = .ok (.iload_n 1, 1) := by decide +kernel
theorem dJ0_charAt_5068e_12 : decode cJ0_charAt_5068e 12 = .ok (.invokestatic 495, 3) := by decide +kernel
theorem dJ0_charAt_5068e_15 : decode cJ0_charAt_5068e 15 = .ok (.ireturn, 1) := by decide +kernel
theorem dJ0_charAt_5068e_16 : decode cJ0_charAt_5068e 16 = .ok (.aload_n 0, 1) := by decide +kernel
theorem dJ0_charAt_5068e_17 : decode cJ0_charAt_5068e 17 = .ok (.getfield 9, 3) := by decide +kernel
theorem dJ0_charAt_5068e_20 : decode cJ0_charAt_5068e 20 = .ok (.iload_n 1, 1) := by decide +kernel
theorem dJ0_charAt_5068e_21 : decode cJ0_charAt_5068e 21 = .ok (.invokestatic 498, 3) := by decide +kernel
theorem dJ0_charAt_5068e_24 : decode cJ0_charAt_5068e 24 = .ok (.ireturn, 1) := by decide +kernel
theorem dJ0_coder_7d493_0 : decode cJ0_coder_7d493 0 = .ok (.getstatic 38, 3) := by decide +kernel
theorem dJ0_coder_7d493_3 : decode cJ0_coder_7d493 3 = .ok (.ifCond .eq 10, 3) := by decide +kernel
theorem dJ0_coder_7d493_6 : decode cJ0_coder_7d493 6 = .ok (.aload_n 0, 1) := by decide +kernel
theorem dJ0_coder_7d493_7 : decode cJ0_coder_7d493 7 = .ok (.getfield 15, 3) := by decide +kernel
theorem dJ0_coder_7d493_10 : decode cJ0_coder_7d493 10 = .ok (.goto 4, 3) := by decide +kernel
theorem dJ0_coder_7d493_13 : decode cJ0_coder_7d493 13 = .ok (.iconst 1, 1) := by decide +kernel
theorem dJ0_coder_7d493_14 : decode cJ0_coder_7d493 14 = .ok (.ireturn, 1) := by decide +kernel
theorem dJ0_isLatin1_aae02_0 : decode cJ0_isLatin1_aae02 0 = .ok (.getstatic 38, 3) := by decide +kernel
theorem dJ0_isLatin1_aae02_3 : decode cJ0_isLatin1_aae02 3 = .ok (.ifCond .eq 14, 3) := by decide +kernel
theorem dJ0_isLatin1_aae02_6 : decode cJ0_isLatin1_aae02 6 = .ok (.aload_n 0, 1) := by decide +kernel
theorem dJ0_isLatin1_aae02_7 : decode cJ0_isLatin1_aae02 7 = .ok (.getfield 15, 3) := by decide +kernel
theorem dJ0_isLatin1_aae02_10 : decode cJ0_isLatin1_aae02 10 = .ok (.ifCond .ne 7, 3) := by decide +kernel
theorem dJ0_isLatin1_aae02_13 : decode cJ0_isLatin1_aae02 13 = .ok (.iconst 1, 1) := by decide +kernel
theorem dJ0_isLatin1_aae02_14 : decode cJ0_isLatin1_aae02 14 = .ok (.goto 4, 3) := by decide +kernel
theorem dJ0_isLatin1_aae02_17 : decode cJ0_isLatin1_aae02 17 = .ok (.iconst 0, 1) := by decide +kernel
theorem dJ0_isLatin1_aae02_18 : decode cJ0_isLatin1_aae02 18 = .ok (.ireturn, 1) := by decide +kernel
theorem dJ0_checkIndex_df160_0 : decode cJ0_checkIndex_df160 0 = .ok (.iload_n 0, 1) := by decide +kernel
theorem dJ0_checkIndex_df160_1 : decode cJ0_checkIndex_df160 1 = .ok (.iload_n 1, 1) := by decide +kernel
theorem dJ0_checkIndex_df160_2 : decode cJ0_checkIndex_df160 2 = .ok (.getstatic 1053, 3) := by decide +kernel
theorem dJ0_checkIndex_df160_5 : decode cJ0_checkIndex_df160 5 = .ok (.invokestatic 1059, 3) := by decide +kernel
theorem dJ0_checkIndex_df160_8 : decode cJ0_checkIndex_df160 8 = .ok (.pop, 1) := by decide +kernel
theorem dJ0_checkIndex_df160_9 : decode cJ0_checkIndex_df160 9 = .ok (.return_, 1) := by decide +kernel
theorem dJ1_charAt_3b067_0 : decode cJ1_charAt_3b067 0 = .ok (.iload_n 1, 1) := by decide +kernel
theorem dJ1_charAt_3b067_1 : decode cJ1_charAt_3b067 1 = .ok (.aload_n 0, 1) := by decide +kernel
theorem dJ1_charAt_3b067_2 : decode cJ1_charAt_3b067 2 = .ok (.arraylength, 1) := by decide +kernel
theorem dJ1_charAt_3b067_3 : decode cJ1_charAt_3b067 3 = .ok (.invokestatic 9, 3) := by decide +kernel
theorem dJ1_charAt_3b067_6 : decode cJ1_charAt_3b067 6 = .ok (.aload_n 0, 1) := by decide +kernel
theorem dJ1_charAt_3b067_7 : decode cJ1_charAt_3b067 7 = .ok (.iload_n 1, 1) := by decide +kernel
theorem dJ1_charAt_3b067_8 : decode cJ1_charAt_3b067 8 = .ok (.baload, 1) := by decide +kernel
theorem dJ1_charAt_3b067_9 : decode cJ1_charAt_3b067 9 = .ok (.sipush 255, 3) := by decide +kernel
theorem dJ1_charAt_3b067_12 : decode cJ1_charAt_3b067 12 = .ok (.iand, 1) := by decide +kernel
theorem dJ1_charAt_3b067_13 : decode cJ1_charAt_3b067 13 = .ok (.i2c, 1) := by decide +kernel
theorem dJ1_charAt_3b067_14 : decode cJ1_charAt_3b067 14 = .ok (.ireturn, 1) := by decide +kernel
theorem dJ2_getChar_3b067_0 : decode cJ2_getChar_3b067 0 = .ok (.getstatic 44, 3) := by decide +kernel
theorem dJ2_getChar_3b067_3 : decode cJ2_getChar_3b067 3 = .ok (.ifCond .ne 25, 3) := by decide +kernel
theorem dJ2_getChar_3b067_6 : decode cJ2_getChar_3b067 6 = .ok (.iload_n 1, 1) := by decide +kernel
theorem dJ2_getChar_3b067_7 : decode cJ2_getChar_3b067 7 = .ok (.ifCond .lt 11, 3) := by decide +kernel
theorem dJ2_getChar_3b067_10 : decode cJ2_getChar_3b067 10 = .ok (.iload_n 1, 1) := by decide +kernel
theorem dJ2_getChar_3b067_11 : decode cJ2_getChar_3b067 11 = .ok (.aload_n 0, 1) := by decide +kernel
theorem dJ2_getChar_3b067_12 : decode cJ2_getChar_3b067 12 = .ok (.invokestatic 48, 3) := by decide +kernel
theorem dJ2_getChar_3b067_15 : decode cJ2_getChar_3b067 15 = .ok (.if_icmp .lt 13, 3) := by decide +kernel
theorem dJ2_getChar_3b067_18 : decode cJ2_getChar_3b067 18 = .ok (.new 52, 3) := by decide +kernel
theorem dJ2_getChar_3b067_21 : decode cJ2_getChar_3b067 21 = .ok (.dup, 1) := by decide +kernel
theorem dJ2_getChar_3b067_22 : decode cJ2_getChar_3b067 22 = .ok (.ldc 54, 2) := by decide +kernel
theorem dJ2_getChar_3b067_24 : decode cJ2_getChar_3b067 24 = .ok (.invokespecial 56, 3) := by decide +kernel
theorem dJ2_getChar_3b067_27 : decode cJ2_getChar_3b067 27 = .ok (.athrow, 1) := by decide +kernel
theorem dJ2_getChar_3b067_28 : decode cJ2_getChar_3b067 28 = .ok (.iload_n 1, 1) := by decide +kernel
theorem dJ2_getChar_3b067_29 : decode cJ2_getChar_3b067 29 = .ok (.iconst 1, 1) := by decide +kernel
theorem dJ2_getChar_3b067_30 : decode cJ2_getChar_3b067 30 = .ok (.ishl, 1) := by decide +kernel
theorem dJ2_getChar_3b067_31 : decode cJ2_getChar_3b067 31 = .ok (.istore_n 1, 1) := by decide +kernel
theorem dJ2_getChar_3b067_32 : decode cJ2_getChar_3b067 32 = .ok (.aload_n 0, 1) := by decide +kernel
theorem dJ2_getChar_3b067_33 : decode cJ2_getChar_3b067 33 = .ok (.iload_n 1, 1) := by decide +kernel
theorem dJ2_getChar_3b067_34 : decode cJ2_getChar_3b067 34 = .ok (.iinc 1 1, 3) := by decide +kernel
theorem dJ2_getChar_3b067_37 : decode cJ2_getChar_3b067 37 = .ok (.baload, 1) := by decide +kernel
theorem dJ2_getChar_3b067_38 : decode cJ2_getChar_3b067 38 = .ok (.sipush 255, 3) := by decide +kernel
theorem dJ2_getChar_3b067_41 : decode cJ2_getChar_3b067 41 = .ok (.iand, 1) := by decide +kernel
theorem dJ2_getChar_3b067_42 : decode cJ2_getChar_3b067 42 = .ok (.getstatic 59, 3) := by decide +kernel
theorem dJ2_getChar_3b067_45 : decode cJ2_getChar_3b067 45 = .ok (.ishl, 1) := by decide +kernel
theorem dJ2_getChar_3b067_46 : decode cJ2_getChar_3b067 46 = .ok (.aload_n 0, 1) := by decide +kernel
theorem dJ2_getChar_3b067_47 : decode cJ2_getChar_3b067 47 = .ok (.iload_n 1, 1) := by decide +kernel
theorem dJ2_getChar_3b067_48 : decode cJ2_getChar_3b067 48 = .ok (.baload, 1) := by decide +kernel
theorem dJ2_getChar_3b067_49 : decode cJ2_getChar_3b067 49 = .ok (.sipush 255, 3) := by decide +kernel
theorem dJ2_getChar_3b067_52 : decode cJ2_getChar_3b067 52 = .ok (.iand, 1) := by decide +kernel
theorem dJ2_getChar_3b067_53 : decode cJ2_getChar_3b067 53 = .ok (.getstatic 63, 3) := by decide +kernel
theorem dJ2_getChar_3b067_56 : decode cJ2_getChar_3b067 56 = .ok (.ishl, 1) := by decide +kernel
theorem dJ2_getChar_3b067_57 : decode cJ2_getChar_3b067 57 = .ok (.ior, 1) := by decide +kernel
theorem dJ2_getChar_3b067_58 : decode cJ2_getChar_3b067 58 = .ok (.i2c, 1) := by decide +kernel
theorem dJ2_getChar_3b067_59 : decode cJ2_getChar_3b067 59 = .ok (.ireturn, 1) := by decide +kernel
theorem dJ2_length_9d52b_0 : decode cJ2_length_9d52b 0 = .ok (.aload_n 0, 1) := by decide +kernel
theorem dJ2_length_9d52b_1 : decode cJ2_length_9d52b 1 = .ok (.arraylength, 1) := by decide +kernel
theorem dJ2_length_9d52b_2 : decode cJ2_length_9d52b 2 = .ok (.iconst 1, 1) := by decide +kernel
theorem dJ2_length_9d52b_3 : decode cJ2_length_9d52b 3 = .ok (.ishr, 1) := by decide +kernel
theorem dJ2_length_9d52b_4 : decode cJ2_length_9d52b 4 = .ok (.ireturn, 1) := by decide +kernel
theorem dJ2_charAt_3b067_0 : decode cJ2_charAt_3b067 0 = .ok (.iload_n 1, 1) := by decide +kernel
theorem dJ2_charAt_3b067_1 : decode cJ2_charAt_3b067 1 = .ok (.aload_n 0, 1) := by decide +kernel
theorem dJ2_charAt_3b067_2 : decode cJ2_charAt_3b067 2 = .ok (.invokestatic 67, 3) := by decide +kernel
theorem dJ2_charAt_3b067_5 : decode cJ2_charAt_3b067 5 = .ok (.aload_n 0, 1) := by decide +kernel
theorem dJ2_charAt_3b067_6 : decode cJ2_charAt_3b067 6 = .ok (.iload_n 1, 1) := by decide +kernel
theorem dJ2_charAt_3b067_7 : decode cJ2_charAt_3b067 7 = .ok (.invokestatic 71, 3) := by decide +kernel
theorem dJ2_charAt_3b067_10 : decode cJ2_charAt_3b067 10 = .ok (.ireturn, 1) := by decide +kernel
theorem dJ2_checkIndex_2214a_0 : decode cJ2_checkIndex_2214a 0 = .ok (.iload_n 0, 1) := by decide +kernel
theorem dJ2_checkIndex_2214a_1 : decode cJ2_checkIndex_2214a 1 = .ok (.aload_n 1, 1) := by decide +kernel
theorem dJ2_checkIndex_2214a_2 : decode cJ2_checkIndex_2214a 2 = .ok (.invokestatic 48, 3) := by decide +kernel
theorem dJ2_checkIndex_2214a_5 : decode cJ2_checkIndex_2214a 5 = .ok (.invokestatic 414, 3) := by decide +kernel
theorem dJ2_checkIndex_2214a_8 : decode cJ2_checkIndex_2214a 8 = .ok (.return_, 1) := by decide +kernel
theorem dJ7_fill_d0a16_0 : decode cJ7_fill_d0a16 0 = .ok (.iconst 0, 1) := by decide +kernel
theorem dJ7_fill_d0a16_1 : decode cJ7_fill_d0a16 1 = .ok (.istore_n 3, 1) := by decide +kernel
theorem dJ7_fill_d0a16_2 : decode cJ7_fill_d0a16 2 = .ok (.aload_n 0, 1) := by decide +kernel
theorem dJ7_fill_d0a16_3 : decode cJ7_fill_d0a16 3 = .ok (.arraylength, 1) := by decide +kernel
theorem dJ7_fill_d0a16_4 : decode cJ7_fill_d0a16 4 = .ok (.istore 4, 2) := by decide +kernel
theorem dJ7_fill_d0a16_6 : decode cJ7_fill_d0a16 6 = .ok (.iload_n 3, 1) := by decide +kernel
theorem dJ7_fill_d0a16_7 : decode cJ7_fill_d0a16 7 = .ok (.iload 4, 2) := by decide +kernel
theorem dJ7_fill_d0a16_9 : decode cJ7_fill_d0a16 9 = .ok (.if_icmp .ge 13, 3) := by decide +kernel
theorem dJ7_fill_d0a16_12 : decode cJ7_fill_d0a16 12 = .ok (.aload_n 0, 1) := by decide +kernel
theorem dJ7_fill_d0a16_13 : decode cJ7_fill_d0a16 13 = .ok (.iload_n 3, 1) := by decide +kernel
theorem dJ7_fill_d0a16_14 : decode cJ7_fill_d0a16 14 = .ok (.lload_n 1, 1) := by decide +kernel
theorem dJ7_fill_d0a16_15 : decode cJ7_fill_d0a16 15 = .ok (.lastore, 1) := by decide +kernel
theorem dJ7_fill_d0a16_16 : decode cJ7_fill_d0a16 16 = .ok (.iinc 3 1, 3) := by decide +kernel
theorem dJ7_fill_d0a16_19 : decode cJ7_fill_d0a16 19 = .ok (.goto (-13), 3) := by decide +kernel
theorem dJ7_fill_d0a16_22 : decode cJ7_fill_d0a16 22 = .ok (.return_, 1) := by decide +kernel
theorem dJ7_fill_53178_0 : decode cJ7_fill_53178 0 = .ok (.iconst 0, 1) := by decide +kernel
theorem dJ7_fill_53178_1 : decode cJ7_fill_53178 1 = .ok (.istore_n 2, 1) := by decide +kernel
theorem dJ7_fill_53178_2 : decode cJ7_fill_53178 2 = .ok (.aload_n 0, 1) := by decide +kernel
theorem dJ7_fill_53178_3 : decode cJ7_fill_53178 3 = .ok (.arraylength, 1) := by decide +kernel
theorem dJ7_fill_53178_4 : decode cJ7_fill_53178 4 = .ok (.istore_n 3, 1) := by decide +kernel
theorem dJ7_fill_53178_5 : decode cJ7_fill_53178 5 = .ok (.iload_n 2, 1) := by decide +kernel
theorem dJ7_fill_53178_6 : decode cJ7_fill_53178 6 = .ok (.iload_n 3, 1) := by decide +kernel
theorem dJ7_fill_53178_7 : decode cJ7_fill_53178 7 = .ok (.if_icmp .ge 13, 3) := by decide +kernel
theorem dJ7_fill_53178_10 : decode cJ7_fill_53178 10 = .ok (.aload_n 0, 1) := by decide +kernel
theorem dJ7_fill_53178_11 : decode cJ7_fill_53178 11 = .ok (.iload_n 2, 1) := by decide +kernel
theorem dJ7_fill_53178_12 : decode cJ7_fill_53178 12 = .ok (.iload_n 1, 1) := by decide +kernel
theorem dJ7_fill_53178_13 : decode cJ7_fill_53178 13 = .ok (.iastore, 1) := by decide +kernel
theorem dJ7_fill_53178_14 : decode cJ7_fill_53178 14 = .ok (.iinc 2 1, 3) := by decide +kernel
theorem dJ7_fill_53178_17 : decode cJ7_fill_53178 17 = .ok (.goto (-12), 3) := by decide +kernel
theorem dJ7_fill_53178_20 : decode cJ7_fill_53178 20 = .ok (.return_, 1) := by decide +kernel
theorem dJ3_checkIndex_8e157_0 : decode cJ3_checkIndex_8e157 0 = .ok (.iload_n 0, 1) := by decide +kernel
theorem dJ3_checkIndex_8e157_1 : decode cJ3_checkIndex_8e157 1 = .ok (.ifCond .lt 8, 3) := by decide +kernel
theorem dJ3_checkIndex_8e157_4 : decode cJ3_checkIndex_8e157 4 = .ok (.iload_n 0, 1) := by decide +kernel
theorem dJ3_checkIndex_8e157_5 : decode cJ3_checkIndex_8e157 5 = .ok (.iload_n 1, 1) := by decide +kernel
theorem dJ3_checkIndex_8e157_6 : decode cJ3_checkIndex_8e157 6 = .ok (.if_icmp .lt 10, 3) := by decide +kernel
theorem dJ3_checkIndex_8e157_9 : decode cJ3_checkIndex_8e157 9 = .ok (.aload_n 2, 1) := by decide +kernel
theorem dJ3_checkIndex_8e157_10 : decode cJ3_checkIndex_8e157 10 = .ok (.iload_n 0, 1) := by decide +kernel
theorem dJ3_checkIndex_8e157_11 : decode cJ3_checkIndex_8e157 11 = .ok (.iload_n 1, 1) := by decide +kernel
theorem dJ3_checkIndex_8e157_12 : decode cJ3_checkIndex_8e157 12 = .ok (.invokestatic 95, 3) := by decide +kernel
theorem dJ3_checkIndex_8e157_15 : decode cJ3_checkIndex_8e157 15 = .ok (.athrow, 1) := by decide +kernel
theorem dJ3_checkIndex_8e157_16 : decode cJ3_checkIndex_8e157 16 = .ok (.iload_n 0, 1) := by decide +kernel
theorem dJ3_checkIndex_8e157_17 : decode cJ3_checkIndex_8e157 17 = .ok (.ireturn, 1) := by decide +kernel
