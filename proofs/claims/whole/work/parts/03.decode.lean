theorem dX1_init_0 : decode cX1_init 0 = .ok (.aload_n 0, 1) := by decide +kernel
theorem dX1_init_1 : decode cX1_init 1 = .ok (.invokespecial 3, 3) := by decide +kernel
theorem dX1_init_4 : decode cX1_init 4 = .ok (.aload_n 0, 1) := by decide +kernel
theorem dX1_init_5 : decode cX1_init 5 = .ok (.bipush 16, 2) := by decide +kernel
theorem dX1_init_7 : decode cX1_init 7 = .ok (.anewarray 9, 3) := by decide +kernel
theorem dX1_init_10 : decode cX1_init 10 = .ok (.putfield 11, 3) := by decide +kernel
theorem dX1_init_13 : decode cX1_init 13 = .ok (.aload_n 0, 1) := by decide +kernel
theorem dX1_init_14 : decode cX1_init 14 = .ok (.iconst 0, 1) := by decide +kernel
theorem dX1_init_15 : decode cX1_init 15 = .ok (.putfield 17, 3) := by decide +kernel
theorem dX1_init_18 : decode cX1_init 18 = .ok (.aload_n 0, 1) := by decide +kernel
theorem dX1_init_19 : decode cX1_init 19 = .ok (.iconst 0, 1) := by decide +kernel
theorem dX1_init_20 : decode cX1_init 20 = .ok (.putfield 21, 3) := by decide +kernel
theorem dX1_init_23 : decode cX1_init 23 = .ok (.aload_n 0, 1) := by decide +kernel
theorem dX1_init_24 : decode cX1_init 24 = .ok (.iconst 0, 1) := by decide +kernel
theorem dX1_init_25 : decode cX1_init 25 = .ok (.putfield 24, 3) := by decide +kernel
theorem dX1_init_28 : decode cX1_init 28 = .ok (.aload_n 0, 1) := by decide +kernel
theorem dX1_init_29 : decode cX1_init 29 = .ok (.iconst 0, 1) := by decide +kernel
theorem dX1_init_30 : decode cX1_init 30 = .ok (.putfield 27, 3) := by decide +kernel
theorem dX1_init_33 : decode cX1_init 33 = .ok (.aload_n 0, 1) := by decide +kernel
theorem dX1_init_34 : decode cX1_init 34 = .ok (.iconst 0, 1) := by decide +kernel
theorem dX1_init_35 : decode cX1_init 35 = .ok (.putfield 30, 3) := by decide +kernel
theorem dX1_init_38 : decode cX1_init 38 = .ok (.aload_n 0, 1) := by decide +kernel
theorem dX1_init_39 : decode cX1_init 39 = .ok (.iconst 0, 1) := by decide +kernel
theorem dX1_init_40 : decode cX1_init 40 = .ok (.putfield 33, 3) := by decide +kernel
theorem dX1_init_43 : decode cX1_init 43 = .ok (.aload_n 0, 1) := by decide +kernel
theorem dX1_init_44 : decode cX1_init 44 = .ok (.iconst 0, 1) := by decide +kernel
theorem dX1_init_45 : decode cX1_init 45 = .ok (.putfield 36, 3) := by decide +kernel
theorem dX1_init_48 : decode cX1_init 48 = .ok (.aload_n 0, 1) := by decide +kernel
theorem dX1_init_49 : decode cX1_init 49 = .ok (.bipush 6, 2) := by decide +kernel
theorem dX1_init_51 : decode cX1_init 51 = .ok (.newarray .int, 2) := by decide +kernel
theorem dX1_init_53 : decode cX1_init 53 = .ok (.putfield 39, 3) := by decide +kernel
theorem dX1_init_56 : decode cX1_init 56 = .ok (.iconst 0, 1) := by decide +kernel
theorem dX1_init_57 : decode cX1_init 57 = .ok (.istore_n 1, 1) := by decide +kernel
theorem dX1_init_58 : decode cX1_init 58 = .ok (.iload_n 1, 1) := by decide +kernel
theorem dX1_init_59 : decode cX1_init 59 = .ok (.aload_n 0, 1) := by decide +kernel
theorem dX1_init_60 : decode cX1_init 60 = .ok (.getfield 11, 3) := by decide +kernel
theorem dX1_init_63 : decode cX1_init 63 = .ok (.arraylength, 1) := by decide +kernel
theorem dX1_init_64 : decode cX1_init 64 = .ok (.if_icmp .ge 22, 3) := by decide +kernel
theorem dX1_init_67 : decode cX1_init 67 = .ok (.aload_n 0, 1) := by decide +kernel
theorem dX1_init_68 : decode cX1_init 68 = .ok (.getfield 11, 3) := by decide +kernel
theorem dX1_init_71 : decode cX1_init 71 = .ok (.iload_n 1, 1) := by decide +kernel
theorem dX1_init_72 : decode cX1_init 72 = .ok (.new 9, 3) := by decide +kernel
theorem dX1_init_75 : decode cX1_init 75 = .ok (.dup, 1) := by decide +kernel
theorem dX1_init_76 : decode cX1_init 76 = .ok (.invokespecial 43, 3) := by decide +kernel
theorem dX1_init_79 : decode cX1_init 79 = .ok (.aastore, 1) := by decide +kernel
theorem dX1_init_80 : decode cX1_init 80 = .ok (.iinc 1 1, 3) := by decide +kernel
theorem dX1_init_83 : decode cX1_init 83 = .ok (.goto (-25), 3) := by decide +kernel
theorem dX1_init_86 : decode cX1_init 86 = .ok (.return_, 1) := by decide +kernel
theorem dX1_copyFrom_0 : decode cX1_copyFrom 0 = .ok (.iconst 0, 1) := by decide +kernel
theorem dX1_copyFrom_1 : decode cX1_copyFrom 1 = .ok (.istore_n 2, 1) := by decide +kernel
theorem dX1_copyFrom_2 : decode cX1_copyFrom 2 = .ok (.iload_n 2, 1) := by decide +kernel
theorem dX1_copyFrom_3 : decode cX1_copyFrom 3 = .ok (.bipush 16, 2) := by decide +kernel
theorem dX1_copyFrom_5 : decode cX1_copyFrom 5 = .ok (.if_icmp .ge 24, 3) := by decide +kernel
theorem dX1_copyFrom_8 : decode cX1_copyFrom 8 = .ok (.aload_n 0, 1) := by decide +kernel
theorem dX1_copyFrom_9 : decode cX1_copyFrom 9 = .ok (.getfield 11, 3) := by decide +kernel
theorem dX1_copyFrom_12 : decode cX1_copyFrom 12 = .ok (.iload_n 2, 1) := by decide +kernel
theorem dX1_copyFrom_13 : decode cX1_copyFrom 13 = .ok (.aaload, 1) := by decide +kernel
theorem dX1_copyFrom_14 : decode cX1_copyFrom 14 = .ok (.aload_n 1, 1) := by decide +kernel
theorem dX1_copyFrom_15 : decode cX1_copyFrom 15 = .ok (.getfield 11, 3) := by decide +kernel
theorem dX1_copyFrom_18 : decode cX1_copyFrom 18 = .ok (.iload_n 2, 1) := by decide +kernel
theorem dX1_copyFrom_19 : decode cX1_copyFrom 19 = .ok (.aaload, 1) := by decide +kernel
theorem dX1_copyFrom_20 : decode cX1_copyFrom 20 = .ok (.invokevirtual 44, 3) := by decide +kernel
theorem dX1_copyFrom_23 : decode cX1_copyFrom 23 = .ok (.iinc 2 1, 3) := by decide +kernel
theorem dX1_copyFrom_26 : decode cX1_copyFrom 26 = .ok (.goto (-24), 3) := by decide +kernel
theorem dX1_copyFrom_29 : decode cX1_copyFrom 29 = .ok (.aload_n 0, 1) := by decide +kernel
theorem dX1_copyFrom_30 : decode cX1_copyFrom 30 = .ok (.aload_n 1, 1) := by decide +kernel
theorem dX1_copyFrom_31 : decode cX1_copyFrom 31 = .ok (.getfield 17, 3) := by decide +kernel
theorem dX1_copyFrom_34 : decode cX1_copyFrom 34 = .ok (.putfield 17, 3) := by decide +kernel
theorem dX1_copyFrom_37 : decode cX1_copyFrom 37 = .ok (.aload_n 0, 1) := by decide +kernel
theorem dX1_copyFrom_38 : decode cX1_copyFrom 38 = .ok (.aload_n 1, 1) := by decide +kernel
theorem dX1_copyFrom_39 : decode cX1_copyFrom 39 = .ok (.getfield 21, 3) := by decide +kernel
theorem dX1_copyFrom_42 : decode cX1_copyFrom 42 = .ok (.putfield 21, 3) := by decide +kernel
theorem dX1_copyFrom_45 : decode cX1_copyFrom 45 = .ok (.aload_n 0, 1) := by decide +kernel
theorem dX1_copyFrom_46 : decode cX1_copyFrom 46 = .ok (.aload_n 1, 1) := by decide +kernel
theorem dX1_copyFrom_47 : decode cX1_copyFrom 47 = .ok (.getfield 24, 3) := by decide +kernel
theorem dX1_copyFrom_50 : decode cX1_copyFrom 50 = .ok (.putfield 24, 3) := by decide +kernel
theorem dX1_copyFrom_53 : decode cX1_copyFrom 53 = .ok (.aload_n 0, 1) := by decide +kernel
theorem dX1_copyFrom_54 : decode cX1_copyFrom 54 = .ok (.aload_n 1, 1) := by decide +kernel
theorem dX1_copyFrom_55 : decode cX1_copyFrom 55 = .ok (.getfield 27, 3) := by decide +kernel
theorem dX1_copyFrom_58 : decode cX1_copyFrom 58 = .ok (.putfield 27, 3) := by decide +kernel
theorem dX1_copyFrom_61 : decode cX1_copyFrom 61 = .ok (.aload_n 0, 1) := by decide +kernel
theorem dX1_copyFrom_62 : decode cX1_copyFrom 62 = .ok (.aload_n 1, 1) := by decide +kernel
theorem dX1_copyFrom_63 : decode cX1_copyFrom 63 = .ok (.getfield 30, 3) := by decide +kernel
theorem dX1_copyFrom_66 : decode cX1_copyFrom 66 = .ok (.putfield 30, 3) := by decide +kernel
theorem dX1_copyFrom_69 : decode cX1_copyFrom 69 = .ok (.aload_n 0, 1) := by decide +kernel
theorem dX1_copyFrom_70 : decode cX1_copyFrom 70 = .ok (.aload_n 1, 1) := by decide +kernel
theorem dX1_copyFrom_71 : decode cX1_copyFrom 71 = .ok (.getfield 33, 3) := by decide +kernel
theorem dX1_copyFrom_74 : decode cX1_copyFrom 74 = .ok (.putfield 33, 3) := by decide +kernel
theorem dX1_copyFrom_77 : decode cX1_copyFrom 77 = .ok (.aload_n 0, 1) := by decide +kernel
theorem dX1_copyFrom_78 : decode cX1_copyFrom 78 = .ok (.aload_n 1, 1) := by decide +kernel
theorem dX1_copyFrom_79 : decode cX1_copyFrom 79 = .ok (.getfield 36, 3) := by decide +kernel
theorem dX1_copyFrom_82 : decode cX1_copyFrom 82 = .ok (.putfield 36, 3) := by decide +kernel
theorem dX1_copyFrom_85 : decode cX1_copyFrom 85 = .ok (.aload_n 1, 1) := by decide +kernel
theorem dX1_copyFrom_86 : decode cX1_copyFrom 86 = .ok (.getfield 39, 3) := by decide +kernel
theorem dX1_copyFrom_89 : decode cX1_copyFrom 89 = .ok (.iconst 0, 1) := by decide +kernel
theorem dX1_copyFrom_90 : decode cX1_copyFrom 90 = .ok (.aload_n 0, 1) := by decide +kernel
theorem dX1_copyFrom_91 : decode cX1_copyFrom 91 = .ok (.getfield 39, 3) := by decide +kernel
theorem dX1_copyFrom_94 : decode cX1_copyFrom 94 = .ok (.iconst 0, 1) := by decide +kernel
theorem dX1_copyFrom_95 : decode cX1_copyFrom 95 = .ok (.bipush 6, 2) := by decide +kernel
theorem dX1_copyFrom_97 : decode cX1_copyFrom 97 = .ok (.invokestatic 48, 3) := by decide +kernel
theorem dX1_copyFrom_100 : decode cX1_copyFrom 100 = .ok (.return_, 1) := by decide +kernel
theorem dX1_tryAdd_0 : decode cX1_tryAdd 0 = .ok (.iload_n 1, 1) := by decide +kernel
theorem dX1_tryAdd_1 : decode cX1_tryAdd 1 = .ok (.iconst 1, 1) := by decide +kernel
theorem dX1_tryAdd_2 : decode cX1_tryAdd 2 = .ok (.if_icmp .lt 16, 3) := by decide +kernel
theorem dX1_tryAdd_5 : decode cX1_tryAdd 5 = .ok (.iload_n 1, 1) := by decide +kernel
theorem dX1_tryAdd_6 : decode cX1_tryAdd 6 = .ok (.bipush 99, 2) := by decide +kernel
theorem dX1_tryAdd_8 : decode cX1_tryAdd 8 = .ok (.if_icmp .gt 10, 3) := by decide +kernel
theorem dX1_tryAdd_11 : decode cX1_tryAdd 11 = .ok (.iload_n 2, 1) := by decide +kernel
theorem dX1_tryAdd_12 : decode cX1_tryAdd 12 = .ok (.invokestatic 54, 3) := by decide +kernel
theorem dX1_tryAdd_15 : decode cX1_tryAdd 15 = .ok (.ifCond .ne 6, 3) := by decide +kernel
theorem dX1_tryAdd_18 : decode cX1_tryAdd 18 = .ok (.bipush (-3), 2) := by decide +kernel
theorem dX1_tryAdd_20 : decode cX1_tryAdd 20 = .ok (.ireturn, 1) := by decide +kernel
theorem dX1_tryAdd_21 : decode cX1_tryAdd 21 = .ok (.aload_n 0, 1) := by decide +kernel
theorem dX1_tryAdd_22 : decode cX1_tryAdd 22 = .ok (.invokevirtual 60, 3) := by decide +kernel
theorem dX1_tryAdd_25 : decode cX1_tryAdd 25 = .ok (.astore_n 3, 1) := by decide +kernel
theorem dX1_tryAdd_26 : decode cX1_tryAdd 26 = .ok (.aload_n 3, 1) := by decide +kernel
theorem dX1_tryAdd_27 : decode cX1_tryAdd 27 = .ok (.ifnonnull 6, 3) := by decide +kernel
theorem dX1_tryAdd_30 : decode cX1_tryAdd 30 = .ok (.bipush (-4), 2) := by decide +kernel
theorem dX1_tryAdd_32 : decode cX1_tryAdd 32 = .ok (.ireturn, 1) := by decide +kernel
theorem dX1_tryAdd_33 : decode cX1_tryAdd 33 = .ok (.aload_n 0, 1) := by decide +kernel
theorem dX1_tryAdd_34 : decode cX1_tryAdd 34 = .ok (.iload_n 1, 1) := by decide +kernel
theorem dX1_tryAdd_35 : decode cX1_tryAdd 35 = .ok (.invokevirtual 64, 3) := by decide +kernel
theorem dX1_tryAdd_38 : decode cX1_tryAdd 38 = .ok (.ifnull 6, 3) := by decide +kernel
theorem dX1_tryAdd_41 : decode cX1_tryAdd 41 = .ok (.bipush (-5), 2) := by decide +kernel
theorem dX1_tryAdd_43 : decode cX1_tryAdd 43 = .ok (.ireturn, 1) := by decide +kernel
theorem dX1_tryAdd_44 : decode cX1_tryAdd 44 = .ok (.aload_n 3, 1) := by decide +kernel
theorem dX1_tryAdd_45 : decode cX1_tryAdd 45 = .ok (.aload_n 0, 1) := by decide +kernel
theorem dX1_tryAdd_46 : decode cX1_tryAdd 46 = .ok (.getfield 17, 3) := by decide +kernel
theorem dX1_tryAdd_49 : decode cX1_tryAdd 49 = .ok (.iload_n 1, 1) := by decide +kernel
theorem dX1_tryAdd_50 : decode cX1_tryAdd 50 = .ok (.aload_n 0, 1) := by decide +kernel
theorem dX1_tryAdd_51 : decode cX1_tryAdd 51 = .ok (.getfield 21, 3) := by decide +kernel
theorem dX1_tryAdd_54 : decode cX1_tryAdd 54 = .ok (.iload_n 2, 1) := by decide +kernel
theorem dX1_tryAdd_55 : decode cX1_tryAdd 55 = .ok (.invokestatic 68, 3) := by decide +kernel
theorem dX1_tryAdd_58 : decode cX1_tryAdd 58 = .ok (.invokevirtual 72, 3) := by decide +kernel
theorem dX1_tryAdd_61 : decode cX1_tryAdd 61 = .ok (.aload_n 0, 1) := by decide +kernel
theorem dX1_tryAdd_62 : decode cX1_tryAdd 62 = .ok (.dup, 1) := by decide +kernel
theorem dX1_tryAdd_63 : decode cX1_tryAdd 63 = .ok (.getfield 17, 3) := by decide +kernel
theorem dX1_tryAdd_66 : decode cX1_tryAdd 66 = .ok (.iconst 1, 1) := by decide +kernel
theorem dX1_tryAdd_67 : decode cX1_tryAdd 67 = .ok (.iadd, 1) := by decide +kernel
theorem dX1_tryAdd_68 : decode cX1_tryAdd 68 = .ok (.putfield 17, 3) := by decide +kernel
theorem dX1_tryAdd_71 : decode cX1_tryAdd 71 = .ok (.aload_n 0, 1) := by decide +kernel
theorem dX1_tryAdd_72 : decode cX1_tryAdd 72 = .ok (.dup, 1) := by decide +kernel
theorem dX1_tryAdd_73 : decode cX1_tryAdd 73 = .ok (.getfield 24, 3) := by decide +kernel
theorem dX1_tryAdd_76 : decode cX1_tryAdd 76 = .ok (.iconst 1, 1) := by decide +kernel
theorem dX1_tryAdd_77 : decode cX1_tryAdd 77 = .ok (.iadd, 1) := by decide +kernel
theorem dX1_tryAdd_78 : decode cX1_tryAdd 78 = .ok (.putfield 24, 3) := by decide +kernel
theorem dX1_tryAdd_81 : decode cX1_tryAdd 81 = .ok (.aload_n 3, 1) := by decide +kernel
theorem dX1_tryAdd_82 : decode cX1_tryAdd 82 = .ok (.getfield 76, 3) := by decide +kernel
theorem dX1_tryAdd_85 : decode cX1_tryAdd 85 = .ok (.ireturn, 1) := by decide +kernel
theorem dX1_tryInsert_0 : decode cX1_tryInsert 0 = .ok (.aload_n 0, 1) := by decide +kernel
theorem dX1_tryInsert_1 : decode cX1_tryInsert 1 = .ok (.iload_n 1, 1) := by decide +kernel
theorem dX1_tryInsert_2 : decode cX1_tryInsert 2 = .ok (.invokevirtual 79, 3) := by decide +kernel
theorem dX1_tryInsert_5 : decode cX1_tryInsert 5 = .ok (.astore 4, 2) := by decide +kernel
theorem dX1_tryInsert_7 : decode cX1_tryInsert 7 = .ok (.aload 4, 2) := by decide +kernel
theorem dX1_tryInsert_9 : decode cX1_tryInsert 9 = .ok (.ifnonnull 5, 3) := by decide +kernel
theorem dX1_tryInsert_12 : decode cX1_tryInsert 12 = .ok (.iconst (-1), 1) := by decide +kernel
theorem dX1_tryInsert_13 : decode cX1_tryInsert 13 = .ok (.ireturn, 1) := by decide +kernel
theorem dX1_tryInsert_14 : decode cX1_tryInsert 14 = .ok (.aload 4, 2) := by decide +kernel
theorem dX1_tryInsert_16 : decode cX1_tryInsert 16 = .ok (.invokevirtual 82, 3) := by decide +kernel
theorem dX1_tryInsert_19 : decode cX1_tryInsert 19 = .ok (.lstore 5, 2) := by decide +kernel
theorem dX1_tryInsert_21 : decode cX1_tryInsert 21 = .ok (.lload 5, 2) := by decide +kernel
theorem dX1_tryInsert_23 : decode cX1_tryInsert 23 = .ok (.invokestatic 86, 3) := by decide +kernel
theorem dX1_tryInsert_26 : decode cX1_tryInsert 26 = .ok (.istore 7, 2) := by decide +kernel
theorem dX1_tryInsert_28 : decode cX1_tryInsert 28 = .ok (.iload_n 2, 1) := by decide +kernel
theorem dX1_tryInsert_29 : decode cX1_tryInsert 29 = .ok (.ifCond .lt 9, 3) := by decide +kernel
theorem dX1_tryInsert_32 : decode cX1_tryInsert 32 = .ok (.iload_n 2, 1) := by decide +kernel
theorem dX1_tryInsert_33 : decode cX1_tryInsert 33 = .ok (.iload 7, 2) := by decide +kernel
theorem dX1_tryInsert_35 : decode cX1_tryInsert 35 = .ok (.if_icmp .le 6, 3) := by decide +kernel
theorem dX1_tryInsert_38 : decode cX1_tryInsert 38 = .ok (.bipush (-2), 2) := by decide +kernel
theorem dX1_tryInsert_40 : decode cX1_tryInsert 40 = .ok (.ireturn, 1) := by decide +kernel
theorem dX1_tryInsert_41 : decode cX1_tryInsert 41 = .ok (.iload_n 3, 1) := by decide +kernel
theorem dX1_tryInsert_42 : decode cX1_tryInsert 42 = .ok (.invokestatic 54, 3) := by decide +kernel
theorem dX1_tryInsert_45 : decode cX1_tryInsert 45 = .ok (.ifCond .ne 6, 3) := by decide +kernel
theorem dX1_tryInsert_48 : decode cX1_tryInsert 48 = .ok (.bipush (-3), 2) := by decide +kernel
theorem dX1_tryInsert_50 : decode cX1_tryInsert 50 = .ok (.ireturn, 1) := by decide +kernel
theorem dX1_tryInsert_51 : decode cX1_tryInsert 51 = .ok (.aload_n 0, 1) := by decide +kernel
theorem dX1_tryInsert_52 : decode cX1_tryInsert 52 = .ok (.aload 4, 2) := by decide +kernel
theorem dX1_tryInsert_54 : decode cX1_tryInsert 54 = .ok (.invokevirtual 90, 3) := by decide +kernel
theorem dX1_tryInsert_57 : decode cX1_tryInsert 57 = .ok (.ifCond .ne 6, 3) := by decide +kernel
theorem dX1_tryInsert_60 : decode cX1_tryInsert 60 = .ok (.bipush (-4), 2) := by decide +kernel
theorem dX1_tryInsert_62 : decode cX1_tryInsert 62 = .ok (.ireturn, 1) := by decide +kernel
theorem dX1_tryInsert_63 : decode cX1_tryInsert 63 = .ok (.iload 7, 2) := by decide +kernel
theorem dX1_tryInsert_65 : decode cX1_tryInsert 65 = .ok (.bipush 12, 2) := by decide +kernel
theorem dX1_tryInsert_67 : decode cX1_tryInsert 67 = .ok (.if_icmp .lt 6, 3) := by decide +kernel
theorem dX1_tryInsert_70 : decode cX1_tryInsert 70 = .ok (.bipush (-5), 2) := by decide +kernel
theorem dX1_tryInsert_72 : decode cX1_tryInsert 72 = .ok (.ireturn, 1) := by decide +kernel
theorem dX1_tryInsert_73 : decode cX1_tryInsert 73 = .ok (.aload_n 0, 1) := by decide +kernel
theorem dX1_tryInsert_74 : decode cX1_tryInsert 74 = .ok (.aload 4, 2) := by decide +kernel
theorem dX1_tryInsert_76 : decode cX1_tryInsert 76 = .ok (.lload 5, 2) := by decide +kernel
theorem dX1_tryInsert_78 : decode cX1_tryInsert 78 = .ok (.iload_n 2, 1) := by decide +kernel
theorem dX1_tryInsert_79 : decode cX1_tryInsert 79 = .ok (.iload_n 3, 1) := by decide +kernel
theorem dX1_tryInsert_80 : decode cX1_tryInsert 80 = .ok (.invokestatic 94, 3) := by decide +kernel
theorem dX1_tryInsert_83 : decode cX1_tryInsert 83 = .ok (.invokevirtual 98, 3) := by decide +kernel
theorem dX1_tryInsert_86 : decode cX1_tryInsert 86 = .ok (.ireturn, 1) := by decide +kernel
theorem dX1_tryReplace_0 : decode cX1_tryReplace 0 = .ok (.aload_n 0, 1) := by decide +kernel
theorem dX1_tryReplace_1 : decode cX1_tryReplace 1 = .ok (.iload_n 1, 1) := by decide +kernel
theorem dX1_tryReplace_2 : decode cX1_tryReplace 2 = .ok (.invokevirtual 79, 3) := by decide +kernel
theorem dX1_tryReplace_5 : decode cX1_tryReplace 5 = .ok (.astore 4, 2) := by decide +kernel
theorem dX1_tryReplace_7 : decode cX1_tryReplace 7 = .ok (.aload 4, 2) := by decide +kernel
theorem dX1_tryReplace_9 : decode cX1_tryReplace 9 = .ok (.ifnonnull 5, 3) := by decide +kernel
theorem dX1_tryReplace_12 : decode cX1_tryReplace 12 = .ok (.iconst (-1), 1) := by decide +kernel
theorem dX1_tryReplace_13 : decode cX1_tryReplace 13 = .ok (.ireturn, 1) := by decide +kernel
theorem dX1_tryReplace_14 : decode cX1_tryReplace 14 = .ok (.aload 4, 2) := by decide +kernel
theorem dX1_tryReplace_16 : decode cX1_tryReplace 16 = .ok (.invokevirtual 82, 3) := by decide +kernel
theorem dX1_tryReplace_19 : decode cX1_tryReplace 19 = .ok (.lstore 5, 2) := by decide +kernel
theorem dX1_tryReplace_21 : decode cX1_tryReplace 21 = .ok (.iload_n 2, 1) := by decide +kernel
theorem dX1_tryReplace_22 : decode cX1_tryReplace 22 = .ok (.ifCond .lt 12, 3) := by decide +kernel
theorem dX1_tryReplace_25 : decode cX1_tryReplace 25 = .ok (.iload_n 2, 1) := by decide +kernel
theorem dX1_tryReplace_26 : decode cX1_tryReplace 26 = .ok (.lload 5, 2) := by decide +kernel
theorem dX1_tryReplace_28 : decode cX1_tryReplace 28 = .ok (.invokestatic 86, 3) := by decide +kernel
theorem dX1_tryReplace_31 : decode cX1_tryReplace 31 = .ok (.if_icmp .lt 6, 3) := by decide +kernel
theorem dX1_tryReplace_34 : decode cX1_tryReplace 34 = .ok (.bipush (-2), 2) := by decide +kernel
theorem dX1_tryReplace_36 : decode cX1_tryReplace 36 = .ok (.ireturn, 1) := by decide +kernel
theorem dX1_tryReplace_37 : decode cX1_tryReplace 37 = .ok (.iload_n 3, 1) := by decide +kernel
theorem dX1_tryReplace_38 : decode cX1_tryReplace 38 = .ok (.invokestatic 54, 3) := by decide +kernel
theorem dX1_tryReplace_41 : decode cX1_tryReplace 41 = .ok (.ifCond .ne 6, 3) := by decide +kernel
theorem dX1_tryReplace_44 : decode cX1_tryReplace 44 = .ok (.bipush (-3), 2) := by decide +kernel
theorem dX1_tryReplace_46 : decode cX1_tryReplace 46 = .ok (.ireturn, 1) := by decide +kernel
theorem dX1_tryReplace_47 : decode cX1_tryReplace 47 = .ok (.aload_n 0, 1) := by decide +kernel
theorem dX1_tryReplace_48 : decode cX1_tryReplace 48 = .ok (.aload 4, 2) := by decide +kernel
theorem dX1_tryReplace_50 : decode cX1_tryReplace 50 = .ok (.invokevirtual 90, 3) := by decide +kernel
theorem dX1_tryReplace_53 : decode cX1_tryReplace 53 = .ok (.ifCond .ne 6, 3) := by decide +kernel
theorem dX1_tryReplace_56 : decode cX1_tryReplace 56 = .ok (.bipush (-4), 2) := by decide +kernel
theorem dX1_tryReplace_58 : decode cX1_tryReplace 58 = .ok (.ireturn, 1) := by decide +kernel
theorem dX1_tryReplace_59 : decode cX1_tryReplace 59 = .ok (.aload_n 0, 1) := by decide +kernel
theorem dX1_tryReplace_60 : decode cX1_tryReplace 60 = .ok (.aload 4, 2) := by decide +kernel
theorem dX1_tryReplace_62 : decode cX1_tryReplace 62 = .ok (.lload 5, 2) := by decide +kernel
theorem dX1_tryReplace_64 : decode cX1_tryReplace 64 = .ok (.iload_n 2, 1) := by decide +kernel
theorem dX1_tryReplace_65 : decode cX1_tryReplace 65 = .ok (.iload_n 3, 1) := by decide +kernel
theorem dX1_tryReplace_66 : decode cX1_tryReplace 66 = .ok (.invokestatic 102, 3) := by decide +kernel
theorem dX1_tryReplace_69 : decode cX1_tryReplace 69 = .ok (.invokevirtual 98, 3) := by decide +kernel
theorem dX1_tryReplace_72 : decode cX1_tryReplace 72 = .ok (.ireturn, 1) := by decide +kernel
theorem dX1_tryDelete_0 : decode cX1_tryDelete 0 = .ok (.aload_n 0, 1) := by decide +kernel
theorem dX1_tryDelete_1 : decode cX1_tryDelete 1 = .ok (.iload_n 1, 1) := by decide +kernel
theorem dX1_tryDelete_2 : decode cX1_tryDelete 2 = .ok (.invokevirtual 79, 3) := by decide +kernel
theorem dX1_tryDelete_5 : decode cX1_tryDelete 5 = .ok (.astore_n 3, 1) := by decide +kernel
theorem dX1_tryDelete_6 : decode cX1_tryDelete 6 = .ok (.aload_n 3, 1) := by decide +kernel
theorem dX1_tryDelete_7 : decode cX1_tryDelete 7 = .ok (.ifnonnull 5, 3) := by decide +kernel
theorem dX1_tryDelete_10 : decode cX1_tryDelete 10 = .ok (.iconst (-1), 1) := by decide +kernel
theorem dX1_tryDelete_11 : decode cX1_tryDelete 11 = .ok (.ireturn, 1) := by decide +kernel
theorem dX1_tryDelete_12 : decode cX1_tryDelete 12 = .ok (.aload_n 3, 1) := by decide +kernel
theorem dX1_tryDelete_13 : decode cX1_tryDelete 13 = .ok (.invokevirtual 82, 3) := by decide +kernel
theorem dX1_tryDelete_16 : decode cX1_tryDelete 16 = .ok (.lstore 4, 2) := by decide +kernel
theorem dX1_tryDelete_18 : decode cX1_tryDelete 18 = .ok (.lload 4, 2) := by decide +kernel
theorem dX1_tryDelete_20 : decode cX1_tryDelete 20 = .ok (.invokestatic 86, 3) := by decide +kernel
theorem dX1_tryDelete_23 : decode cX1_tryDelete 23 = .ok (.istore 6, 2) := by decide +kernel
theorem dX1_tryDelete_25 : decode cX1_tryDelete 25 = .ok (.iload_n 2, 1) := by decide +kernel
theorem dX1_tryDelete_26 : decode cX1_tryDelete 26 = .ok (.ifCond .lt 9, 3) := by decide +kernel
theorem dX1_tryDelete_29 : decode cX1_tryDelete 29 = .ok (.iload_n 2, 1) := by decide +kernel
theorem dX1_tryDelete_30 : decode cX1_tryDelete 30 = .ok (.iload 6, 2) := by decide +kernel
theorem dX1_tryDelete_32 : decode cX1_tryDelete 32 = .ok (.if_icmp .lt 6, 3) := by decide +kernel
theorem dX1_tryDelete_35 : decode cX1_tryDelete 35 = .ok (.bipush (-2), 2) := by decide +kernel
theorem dX1_tryDelete_37 : decode cX1_tryDelete 37 = .ok (.ireturn, 1) := by decide +kernel
theorem dX1_tryDelete_38 : decode cX1_tryDelete 38 = .ok (.aload_n 0, 1) := by decide +kernel
theorem dX1_tryDelete_39 : decode cX1_tryDelete 39 = .ok (.aload_n 3, 1) := by decide +kernel
theorem dX1_tryDelete_40 : decode cX1_tryDelete 40 = .ok (.invokevirtual 90, 3) := by decide +kernel
theorem dX1_tryDelete_43 : decode cX1_tryDelete 43 = .ok (.ifCond .ne 6, 3) := by decide +kernel
theorem dX1_tryDelete_46 : decode cX1_tryDelete 46 = .ok (.bipush (-4), 2) := by decide +kernel
theorem dX1_tryDelete_48 : decode cX1_tryDelete 48 = .ok (.ireturn, 1) := by decide +kernel
theorem dX1_tryDelete_49 : decode cX1_tryDelete 49 = .ok (.iload 6, 2) := by decide +kernel
theorem dX1_tryDelete_51 : decode cX1_tryDelete 51 = .ok (.iconst 1, 1) := by decide +kernel
theorem dX1_tryDelete_52 : decode cX1_tryDelete 52 = .ok (.if_icmp .gt 6, 3) := by decide +kernel
theorem dX1_tryDelete_55 : decode cX1_tryDelete 55 = .ok (.bipush (-5), 2) := by decide +kernel
theorem dX1_tryDelete_57 : decode cX1_tryDelete 57 = .ok (.ireturn, 1) := by decide +kernel
theorem dX1_tryDelete_58 : decode cX1_tryDelete 58 = .ok (.aload_n 0, 1) := by decide +kernel
theorem dX1_tryDelete_59 : decode cX1_tryDelete 59 = .ok (.aload_n 3, 1) := by decide +kernel
theorem dX1_tryDelete_60 : decode cX1_tryDelete 60 = .ok (.lload 4, 2) := by decide +kernel
theorem dX1_tryDelete_62 : decode cX1_tryDelete 62 = .ok (.iload_n 2, 1) := by decide +kernel
theorem dX1_tryDelete_63 : decode cX1_tryDelete 63 = .ok (.invokestatic 105, 3) := by decide +kernel
theorem dX1_tryDelete_66 : decode cX1_tryDelete 66 = .ok (.invokevirtual 98, 3) := by decide +kernel
theorem dX1_tryDelete_69 : decode cX1_tryDelete 69 = .ok (.ireturn, 1) := by decide +kernel
theorem dX1_isAmendable_0 : decode cX1_isAmendable 0 = .ok (.aload_n 1, 1) := by decide +kernel
theorem dX1_isAmendable_1 : decode cX1_isAmendable 1 = .ok (.aload_n 0, 1) := by decide +kernel
theorem dX1_isAmendable_2 : decode cX1_isAmendable 2 = .ok (.getfield 21, 3) := by decide +kernel
theorem dX1_isAmendable_5 : decode cX1_isAmendable 5 = .ok (.invokevirtual 109, 3) := by decide +kernel
theorem dX1_isAmendable_8 : decode cX1_isAmendable 8 = .ok (.ifCond .eq 14, 3) := by decide +kernel
theorem dX1_isAmendable_11 : decode cX1_isAmendable 11 = .ok (.aload_n 1, 1) := by decide +kernel
theorem dX1_isAmendable_12 : decode cX1_isAmendable 12 = .ok (.invokevirtual 113, 3) := by decide +kernel
theorem dX1_isAmendable_15 : decode cX1_isAmendable 15 = .ok (.ifCond .eq 7, 3) := by decide +kernel
theorem dX1_isAmendable_18 : decode cX1_isAmendable 18 = .ok (.iconst 1, 1) := by decide +kernel
theorem dX1_isAmendable_19 : decode cX1_isAmendable 19 = .ok (.goto 4, 3) := by decide +kernel
theorem dX1_isAmendable_22 : decode cX1_isAmendable 22 = .ok (.iconst 0, 1) := by decide +kernel
theorem dX1_isAmendable_23 : decode cX1_isAmendable 23 = .ok (.ireturn, 1) := by decide +kernel
theorem dX1_amend_0 : decode cX1_amend 0 = .ok (.aload_n 1, 1) := by decide +kernel
theorem dX1_amend_1 : decode cX1_amend 1 = .ok (.aload_n 0, 1) := by decide +kernel
theorem dX1_amend_2 : decode cX1_amend 2 = .ok (.getfield 21, 3) := by decide +kernel
theorem dX1_amend_5 : decode cX1_amend 5 = .ok (.lload_n 2, 1) := by decide +kernel
theorem dX1_amend_6 : decode cX1_amend 6 = .ok (.invokevirtual 117, 3) := by decide +kernel
theorem dX1_amend_9 : decode cX1_amend 9 = .ok (.aload_n 0, 1) := by decide +kernel
theorem dX1_amend_10 : decode cX1_amend 10 = .ok (.dup, 1) := by decide +kernel
theorem dX1_amend_11 : decode cX1_amend 11 = .ok (.getfield 27, 3) := by decide +kernel
theorem dX1_amend_14 : decode cX1_amend 14 = .ok (.iconst 1, 1) := by decide +kernel
theorem dX1_amend_15 : decode cX1_amend 15 = .ok (.iadd, 1) := by decide +kernel
theorem dX1_amend_16 : decode cX1_amend 16 = .ok (.putfield 27, 3) := by decide +kernel
theorem dX1_amend_19 : decode cX1_amend 19 = .ok (.aload_n 1, 1) := by decide +kernel
theorem dX1_amend_20 : decode cX1_amend 20 = .ok (.invokevirtual 121, 3) := by decide +kernel
theorem dX1_amend_23 : decode cX1_amend 23 = .ok (.ireturn, 1) := by decide +kernel
theorem dX1_trySunset_0 : decode cX1_trySunset 0 = .ok (.aload_n 0, 1) := by decide +kernel
theorem dX1_trySunset_1 : decode cX1_trySunset 1 = .ok (.iload_n 1, 1) := by decide +kernel
theorem dX1_trySunset_2 : decode cX1_trySunset 2 = .ok (.invokevirtual 79, 3) := by decide +kernel
theorem dX1_trySunset_5 : decode cX1_trySunset 5 = .ok (.astore_n 3, 1) := by decide +kernel
theorem dX1_trySunset_6 : decode cX1_trySunset 6 = .ok (.aload_n 3, 1) := by decide +kernel
theorem dX1_trySunset_7 : decode cX1_trySunset 7 = .ok (.ifnonnull 5, 3) := by decide +kernel
theorem dX1_trySunset_10 : decode cX1_trySunset 10 = .ok (.iconst (-1), 1) := by decide +kernel
theorem dX1_trySunset_11 : decode cX1_trySunset 11 = .ok (.ireturn, 1) := by decide +kernel
theorem dX1_trySunset_12 : decode cX1_trySunset 12 = .ok (.iload_n 2, 1) := by decide +kernel
theorem dX1_trySunset_13 : decode cX1_trySunset 13 = .ok (.aload_n 0, 1) := by decide +kernel
theorem dX1_trySunset_14 : decode cX1_trySunset 14 = .ok (.getfield 21, 3) := by decide +kernel
theorem dX1_trySunset_17 : decode cX1_trySunset 17 = .ok (.if_icmp .lt 15, 3) := by decide +kernel
theorem dX1_trySunset_20 : decode cX1_trySunset 20 = .ok (.iload_n 2, 1) := by decide +kernel
theorem dX1_trySunset_21 : decode cX1_trySunset 21 = .ok (.aload_n 0, 1) := by decide +kernel
theorem dX1_trySunset_22 : decode cX1_trySunset 22 = .ok (.getfield 21, 3) := by decide +kernel
theorem dX1_trySunset_25 : decode cX1_trySunset 25 = .ok (.isub, 1) := by decide +kernel
theorem dX1_trySunset_26 : decode cX1_trySunset 26 = .ok (.sipush 9999, 3) := by decide +kernel
theorem dX1_trySunset_29 : decode cX1_trySunset 29 = .ok (.if_icmp .le 6, 3) := by decide +kernel
theorem dX1_trySunset_32 : decode cX1_trySunset 32 = .ok (.bipush (-3), 2) := by decide +kernel
theorem dX1_trySunset_34 : decode cX1_trySunset 34 = .ok (.ireturn, 1) := by decide +kernel
theorem dX1_trySunset_35 : decode cX1_trySunset 35 = .ok (.aload_n 3, 1) := by decide +kernel
theorem dX1_trySunset_36 : decode cX1_trySunset 36 = .ok (.aload_n 0, 1) := by decide +kernel
theorem dX1_trySunset_37 : decode cX1_trySunset 37 = .ok (.getfield 21, 3) := by decide +kernel
theorem dX1_trySunset_40 : decode cX1_trySunset 40 = .ok (.invokevirtual 125, 3) := by decide +kernel
theorem dX1_trySunset_43 : decode cX1_trySunset 43 = .ok (.ifCond .eq 6, 3) := by decide +kernel
theorem dX1_trySunset_46 : decode cX1_trySunset 46 = .ok (.bipush (-4), 2) := by decide +kernel
theorem dX1_trySunset_48 : decode cX1_trySunset 48 = .ok (.ireturn, 1) := by decide +kernel
theorem dX1_trySunset_49 : decode cX1_trySunset 49 = .ok (.aload_n 3, 1) := by decide +kernel
theorem dX1_trySunset_50 : decode cX1_trySunset 50 = .ok (.iload_n 2, 1) := by decide +kernel
theorem dX1_trySunset_51 : decode cX1_trySunset 51 = .ok (.putfield 128, 3) := by decide +kernel
theorem dX1_trySunset_54 : decode cX1_trySunset 54 = .ok (.iload_n 2, 1) := by decide +kernel
theorem dX1_trySunset_55 : decode cX1_trySunset 55 = .ok (.aload_n 0, 1) := by decide +kernel
theorem dX1_trySunset_56 : decode cX1_trySunset 56 = .ok (.getfield 21, 3) := by decide +kernel
theorem dX1_trySunset_59 : decode cX1_trySunset 59 = .ok (.isub, 1) := by decide +kernel
theorem dX1_trySunset_60 : decode cX1_trySunset 60 = .ok (.ireturn, 1) := by decide +kernel
theorem dX1_tryCite_0 : decode cX1_tryCite 0 = .ok (.aload_n 0, 1) := by decide +kernel
theorem dX1_tryCite_1 : decode cX1_tryCite 1 = .ok (.iload_n 1, 1) := by decide +kernel
theorem dX1_tryCite_2 : decode cX1_tryCite 2 = .ok (.invokevirtual 79, 3) := by decide +kernel
theorem dX1_tryCite_5 : decode cX1_tryCite 5 = .ok (.astore_n 3, 1) := by decide +kernel
theorem dX1_tryCite_6 : decode cX1_tryCite 6 = .ok (.aload_n 3, 1) := by decide +kernel
theorem dX1_tryCite_7 : decode cX1_tryCite 7 = .ok (.ifnull 11, 3) := by decide +kernel
theorem dX1_tryCite_10 : decode cX1_tryCite 10 = .ok (.aload_n 0, 1) := by decide +kernel
theorem dX1_tryCite_11 : decode cX1_tryCite 11 = .ok (.iload_n 2, 1) := by decide +kernel
theorem dX1_tryCite_12 : decode cX1_tryCite 12 = .ok (.invokevirtual 79, 3) := by decide +kernel
theorem dX1_tryCite_15 : decode cX1_tryCite 15 = .ok (.ifnonnull 5, 3) := by decide +kernel
theorem dX1_tryCite_18 : decode cX1_tryCite 18 = .ok (.iconst (-1), 1) := by decide +kernel
theorem dX1_tryCite_19 : decode cX1_tryCite 19 = .ok (.ireturn, 1) := by decide +kernel
theorem dX1_tryCite_20 : decode cX1_tryCite 20 = .ok (.iload_n 1, 1) := by decide +kernel
theorem dX1_tryCite_21 : decode cX1_tryCite 21 = .ok (.iload_n 2, 1) := by decide +kernel
theorem dX1_tryCite_22 : decode cX1_tryCite 22 = .ok (.if_icmp .ne 6, 3) := by decide +kernel
theorem dX1_tryCite_25 : decode cX1_tryCite 25 = .ok (.bipush (-3), 2) := by decide +kernel
theorem dX1_tryCite_27 : decode cX1_tryCite 27 = .ok (.ireturn, 1) := by decide +kernel
theorem dX1_tryCite_28 : decode cX1_tryCite 28 = .ok (.aload_n 3, 1) := by decide +kernel
theorem dX1_tryCite_29 : decode cX1_tryCite 29 = .ok (.iload_n 2, 1) := by decide +kernel
theorem dX1_tryCite_30 : decode cX1_tryCite 30 = .ok (.invokevirtual 131, 3) := by decide +kernel
theorem dX1_tryCite_33 : decode cX1_tryCite 33 = .ok (.ifCond .ne 11, 3) := by decide +kernel
theorem dX1_tryCite_36 : decode cX1_tryCite 36 = .ok (.aload_n 3, 1) := by decide +kernel
theorem dX1_tryCite_37 : decode cX1_tryCite 37 = .ok (.invokevirtual 134, 3) := by decide +kernel
theorem dX1_tryCite_40 : decode cX1_tryCite 40 = .ok (.iconst 4, 1) := by decide +kernel
theorem dX1_tryCite_41 : decode cX1_tryCite 41 = .ok (.if_icmp .lt 6, 3) := by decide +kernel
theorem dX1_tryCite_44 : decode cX1_tryCite 44 = .ok (.bipush (-4), 2) := by decide +kernel
theorem dX1_tryCite_46 : decode cX1_tryCite 46 = .ok (.ireturn, 1) := by decide +kernel
theorem dX1_tryCite_47 : decode cX1_tryCite 47 = .ok (.aload_n 3, 1) := by decide +kernel
theorem dX1_tryCite_48 : decode cX1_tryCite 48 = .ok (.iload_n 2, 1) := by decide +kernel
theorem dX1_tryCite_49 : decode cX1_tryCite 49 = .ok (.invokevirtual 137, 3) := by decide +kernel
theorem dX1_tryCite_52 : decode cX1_tryCite 52 = .ok (.aload_n 3, 1) := by decide +kernel
theorem dX1_tryCite_53 : decode cX1_tryCite 53 = .ok (.invokevirtual 134, 3) := by decide +kernel
theorem dX1_tryCite_56 : decode cX1_tryCite 56 = .ok (.ireturn, 1) := by decide +kernel
theorem dX1_tryUncite_0 : decode cX1_tryUncite 0 = .ok (.aload_n 0, 1) := by decide +kernel
theorem dX1_tryUncite_1 : decode cX1_tryUncite 1 = .ok (.iload_n 1, 1) := by decide +kernel
theorem dX1_tryUncite_2 : decode cX1_tryUncite 2 = .ok (.invokevirtual 79, 3) := by decide +kernel
theorem dX1_tryUncite_5 : decode cX1_tryUncite 5 = .ok (.astore_n 3, 1) := by decide +kernel
theorem dX1_tryUncite_6 : decode cX1_tryUncite 6 = .ok (.aload_n 3, 1) := by decide +kernel
theorem dX1_tryUncite_7 : decode cX1_tryUncite 7 = .ok (.ifnull 11, 3) := by decide +kernel
theorem dX1_tryUncite_10 : decode cX1_tryUncite 10 = .ok (.aload_n 3, 1) := by decide +kernel
theorem dX1_tryUncite_11 : decode cX1_tryUncite 11 = .ok (.iload_n 2, 1) := by decide +kernel
theorem dX1_tryUncite_12 : decode cX1_tryUncite 12 = .ok (.invokevirtual 131, 3) := by decide +kernel
theorem dX1_tryUncite_15 : decode cX1_tryUncite 15 = .ok (.ifCond .ne 5, 3) := by decide +kernel
theorem dX1_tryUncite_18 : decode cX1_tryUncite 18 = .ok (.iconst (-1), 1) := by decide +kernel
theorem dX1_tryUncite_19 : decode cX1_tryUncite 19 = .ok (.ireturn, 1) := by decide +kernel
theorem dX1_tryUncite_20 : decode cX1_tryUncite 20 = .ok (.aload_n 3, 1) := by decide +kernel
theorem dX1_tryUncite_21 : decode cX1_tryUncite 21 = .ok (.iload_n 2, 1) := by decide +kernel
theorem dX1_tryUncite_22 : decode cX1_tryUncite 22 = .ok (.invokevirtual 141, 3) := by decide +kernel
theorem dX1_tryUncite_25 : decode cX1_tryUncite 25 = .ok (.aload_n 3, 1) := by decide +kernel
theorem dX1_tryUncite_26 : decode cX1_tryUncite 26 = .ok (.invokevirtual 134, 3) := by decide +kernel
theorem dX1_tryUncite_29 : decode cX1_tryUncite 29 = .ok (.ireturn, 1) := by decide +kernel
theorem dX1_tryRepeal_0 : decode cX1_tryRepeal 0 = .ok (.aload_n 0, 1) := by decide +kernel
theorem dX1_tryRepeal_1 : decode cX1_tryRepeal 1 = .ok (.iload_n 1, 1) := by decide +kernel
theorem dX1_tryRepeal_2 : decode cX1_tryRepeal 2 = .ok (.invokevirtual 79, 3) := by decide +kernel
theorem dX1_tryRepeal_5 : decode cX1_tryRepeal 5 = .ok (.astore_n 2, 1) := by decide +kernel
theorem dX1_tryRepeal_6 : decode cX1_tryRepeal 6 = .ok (.aload_n 2, 1) := by decide +kernel
theorem dX1_tryRepeal_7 : decode cX1_tryRepeal 7 = .ok (.ifnonnull 5, 3) := by decide +kernel
theorem dX1_tryRepeal_10 : decode cX1_tryRepeal 10 = .ok (.iconst (-1), 1) := by decide +kernel
theorem dX1_tryRepeal_11 : decode cX1_tryRepeal 11 = .ok (.ireturn, 1) := by decide +kernel
theorem dX1_tryRepeal_12 : decode cX1_tryRepeal 12 = .ok (.aload_n 2, 1) := by decide +kernel
theorem dX1_tryRepeal_13 : decode cX1_tryRepeal 13 = .ok (.iconst 0, 1) := by decide +kernel
theorem dX1_tryRepeal_14 : decode cX1_tryRepeal 14 = .ok (.putfield 144, 3) := by decide +kernel
theorem dX1_tryRepeal_17 : decode cX1_tryRepeal 17 = .ok (.aload_n 0, 1) := by decide +kernel
theorem dX1_tryRepeal_18 : decode cX1_tryRepeal 18 = .ok (.dup, 1) := by decide +kernel
theorem dX1_tryRepeal_19 : decode cX1_tryRepeal 19 = .ok (.getfield 30, 3) := by decide +kernel
theorem dX1_tryRepeal_22 : decode cX1_tryRepeal 22 = .ok (.iconst 1, 1) := by decide +kernel
theorem dX1_tryRepeal_23 : decode cX1_tryRepeal 23 = .ok (.iadd, 1) := by decide +kernel
theorem dX1_tryRepeal_24 : decode cX1_tryRepeal 24 = .ok (.putfield 30, 3) := by decide +kernel
theorem dX1_tryRepeal_27 : decode cX1_tryRepeal 27 = .ok (.aload_n 0, 1) := by decide +kernel
theorem dX1_tryRepeal_28 : decode cX1_tryRepeal 28 = .ok (.invokevirtual 148, 3) := by decide +kernel
theorem dX1_tryRepeal_31 : decode cX1_tryRepeal 31 = .ok (.ireturn, 1) := by decide +kernel
theorem dX1_tryAdvance_0 : decode cX1_tryAdvance 0 = .ok (.iload_n 1, 1) := by decide +kernel
theorem dX1_tryAdvance_1 : decode cX1_tryAdvance 1 = .ok (.iconst 1, 1) := by decide +kernel
theorem dX1_tryAdvance_2 : decode cX1_tryAdvance 2 = .ok (.if_icmp .lt 10, 3) := by decide +kernel
theorem dX1_tryAdvance_5 : decode cX1_tryAdvance 5 = .ok (.iload_n 1, 1) := by decide +kernel
theorem dX1_tryAdvance_6 : decode cX1_tryAdvance 6 = .ok (.sipush 400, 3) := by decide +kernel
theorem dX1_tryAdvance_9 : decode cX1_tryAdvance 9 = .ok (.if_icmp .le 6, 3) := by decide +kernel
theorem dX1_tryAdvance_12 : decode cX1_tryAdvance 12 = .ok (.bipush (-3), 2) := by decide +kernel
theorem dX1_tryAdvance_14 : decode cX1_tryAdvance 14 = .ok (.ireturn, 1) := by decide +kernel
theorem dX1_tryAdvance_15 : decode cX1_tryAdvance 15 = .ok (.aload_n 0, 1) := by decide +kernel
theorem dX1_tryAdvance_16 : decode cX1_tryAdvance 16 = .ok (.invokevirtual 151, 3) := by decide +kernel
theorem dX1_tryAdvance_19 : decode cX1_tryAdvance 19 = .ok (.istore_n 2, 1) := by decide +kernel
theorem dX1_tryAdvance_20 : decode cX1_tryAdvance 20 = .ok (.aload_n 0, 1) := by decide +kernel
theorem dX1_tryAdvance_21 : decode cX1_tryAdvance 21 = .ok (.dup, 1) := by decide +kernel
theorem dX1_tryAdvance_22 : decode cX1_tryAdvance 22 = .ok (.getfield 21, 3) := by decide +kernel
theorem dX1_tryAdvance_25 : decode cX1_tryAdvance 25 = .ok (.iload_n 1, 1) := by decide +kernel
theorem dX1_tryAdvance_26 : decode cX1_tryAdvance 26 = .ok (.iadd, 1) := by decide +kernel
theorem dX1_tryAdvance_27 : decode cX1_tryAdvance 27 = .ok (.putfield 21, 3) := by decide +kernel
theorem dX1_tryAdvance_30 : decode cX1_tryAdvance 30 = .ok (.aload_n 0, 1) := by decide +kernel
theorem dX1_tryAdvance_31 : decode cX1_tryAdvance 31 = .ok (.invokevirtual 151, 3) := by decide +kernel
theorem dX1_tryAdvance_34 : decode cX1_tryAdvance 34 = .ok (.iload_n 2, 1) := by decide +kernel
theorem dX1_tryAdvance_35 : decode cX1_tryAdvance 35 = .ok (.isub, 1) := by decide +kernel
theorem dX1_tryAdvance_36 : decode cX1_tryAdvance 36 = .ok (.ireturn, 1) := by decide +kernel
theorem dX1_makeEdition_0 : decode cX1_makeEdition 0 = .ok (.aload_n 0, 1) := by decide +kernel
theorem dX1_makeEdition_1 : decode cX1_makeEdition 1 = .ok (.invokevirtual 154, 3) := by decide +kernel
theorem dX1_makeEdition_4 : decode cX1_makeEdition 4 = .ok (.aload_n 0, 1) := by decide +kernel
theorem dX1_makeEdition_5 : decode cX1_makeEdition 5 = .ok (.invokevirtual 157, 3) := by decide +kernel
theorem dX1_makeEdition_8 : decode cX1_makeEdition 8 = .ok (.aload_n 0, 1) := by decide +kernel
theorem dX1_makeEdition_9 : decode cX1_makeEdition 9 = .ok (.invokevirtual 160, 3) := by decide +kernel
theorem dX1_makeEdition_12 : decode cX1_makeEdition 12 = .ok (.aload_n 0, 1) := by decide +kernel
theorem dX1_makeEdition_13 : decode cX1_makeEdition 13 = .ok (.invokevirtual 163, 3) := by decide +kernel
theorem dX1_makeEdition_16 : decode cX1_makeEdition 16 = .ok (.aload_n 0, 1) := by decide +kernel
theorem dX1_makeEdition_17 : decode cX1_makeEdition 17 = .ok (.dup, 1) := by decide +kernel
theorem dX1_makeEdition_18 : decode cX1_makeEdition 18 = .ok (.getfield 36, 3) := by decide +kernel
theorem dX1_makeEdition_21 : decode cX1_makeEdition 21 = .ok (.iconst 1, 1) := by decide +kernel
theorem dX1_makeEdition_22 : decode cX1_makeEdition 22 = .ok (.iadd, 1) := by decide +kernel
theorem dX1_makeEdition_23 : decode cX1_makeEdition 23 = .ok (.putfield 36, 3) := by decide +kernel
theorem dX1_makeEdition_26 : decode cX1_makeEdition 26 = .ok (.aload_n 0, 1) := by decide +kernel
theorem dX1_makeEdition_27 : decode cX1_makeEdition 27 = .ok (.getfield 39, 3) := by decide +kernel
theorem dX1_makeEdition_30 : decode cX1_makeEdition 30 = .ok (.aload_n 0, 1) := by decide +kernel
theorem dX1_makeEdition_31 : decode cX1_makeEdition 31 = .ok (.getfield 36, 3) := by decide +kernel
theorem dX1_makeEdition_34 : decode cX1_makeEdition 34 = .ok (.invokestatic 166, 3) := by decide +kernel
theorem dX1_makeEdition_37 : decode cX1_makeEdition 37 = .ok (.aload_n 0, 1) := by decide +kernel
theorem dX1_makeEdition_38 : decode cX1_makeEdition 38 = .ok (.getfield 21, 3) := by decide +kernel
theorem dX1_makeEdition_41 : decode cX1_makeEdition 41 = .ok (.iastore, 1) := by decide +kernel
theorem dX1_makeEdition_42 : decode cX1_makeEdition 42 = .ok (.aload_n 0, 1) := by decide +kernel
theorem dX1_makeEdition_43 : decode cX1_makeEdition 43 = .ok (.getfield 36, 3) := by decide +kernel
theorem dX1_makeEdition_46 : decode cX1_makeEdition 46 = .ok (.ireturn, 1) := by decide +kernel
theorem dX1_endLapsedClauses_0 : decode cX1_endLapsedClauses 0 = .ok (.aload_n 0, 1) := by decide +kernel
theorem dX1_endLapsedClauses_1 : decode cX1_endLapsedClauses 1 = .ok (.getfield 11, 3) := by decide +kernel
theorem dX1_endLapsedClauses_4 : decode cX1_endLapsedClauses 4 = .ok (.astore_n 1, 1) := by decide +kernel
theorem dX1_endLapsedClauses_5 : decode cX1_endLapsedClauses 5 = .ok (.aload_n 1, 1) := by decide +kernel
theorem dX1_endLapsedClauses_6 : decode cX1_endLapsedClauses 6 = .ok (.arraylength, 1) := by decide +kernel
theorem dX1_endLapsedClauses_7 : decode cX1_endLapsedClauses 7 = .ok (.istore_n 2, 1) := by decide +kernel
theorem dX1_endLapsedClauses_8 : decode cX1_endLapsedClauses 8 = .ok (.iconst 0, 1) := by decide +kernel
theorem dX1_endLapsedClauses_9 : decode cX1_endLapsedClauses 9 = .ok (.istore_n 3, 1) := by decide +kernel
theorem dX1_endLapsedClauses_10 : decode cX1_endLapsedClauses 10 = .ok (.iload_n 3, 1) := by decide +kernel
theorem dX1_endLapsedClauses_11 : decode cX1_endLapsedClauses 11 = .ok (.iload_n 2, 1) := by decide +kernel
theorem dX1_endLapsedClauses_12 : decode cX1_endLapsedClauses 12 = .ok (.if_icmp .ge 50, 3) := by decide +kernel
theorem dX1_endLapsedClauses_15 : decode cX1_endLapsedClauses 15 = .ok (.aload_n 1, 1) := by decide +kernel
theorem dX1_endLapsedClauses_16 : decode cX1_endLapsedClauses 16 = .ok (.iload_n 3, 1) := by decide +kernel
theorem dX1_endLapsedClauses_17 : decode cX1_endLapsedClauses 17 = .ok (.aaload, 1) := by decide +kernel
theorem dX1_endLapsedClauses_18 : decode cX1_endLapsedClauses 18 = .ok (.astore 4, 2) := by decide +kernel
theorem dX1_endLapsedClauses_20 : decode cX1_endLapsedClauses 20 = .ok (.aload 4, 2) := by decide +kernel
theorem dX1_endLapsedClauses_22 : decode cX1_endLapsedClauses 22 = .ok (.getfield 144, 3) := by decide +kernel
theorem dX1_endLapsedClauses_25 : decode cX1_endLapsedClauses 25 = .ok (.ifCond .eq 31, 3) := by decide +kernel
theorem dX1_endLapsedClauses_28 : decode cX1_endLapsedClauses 28 = .ok (.aload 4, 2) := by decide +kernel
theorem dX1_endLapsedClauses_30 : decode cX1_endLapsedClauses 30 = .ok (.aload_n 0, 1) := by decide +kernel
theorem dX1_endLapsedClauses_31 : decode cX1_endLapsedClauses 31 = .ok (.getfield 21, 3) := by decide +kernel
theorem dX1_endLapsedClauses_34 : decode cX1_endLapsedClauses 34 = .ok (.invokevirtual 125, 3) := by decide +kernel
theorem dX1_endLapsedClauses_37 : decode cX1_endLapsedClauses 37 = .ok (.ifCond .eq 19, 3) := by decide +kernel
theorem dX1_endLapsedClauses_40 : decode cX1_endLapsedClauses 40 = .ok (.aload 4, 2) := by decide +kernel
theorem dX1_endLapsedClauses_42 : decode cX1_endLapsedClauses 42 = .ok (.iconst 0, 1) := by decide +kernel
theorem dX1_endLapsedClauses_43 : decode cX1_endLapsedClauses 43 = .ok (.putfield 144, 3) := by decide +kernel
theorem dX1_endLapsedClauses_46 : decode cX1_endLapsedClauses 46 = .ok (.aload_n 0, 1) := by decide +kernel
theorem dX1_endLapsedClauses_47 : decode cX1_endLapsedClauses 47 = .ok (.dup, 1) := by decide +kernel
theorem dX1_endLapsedClauses_48 : decode cX1_endLapsedClauses 48 = .ok (.getfield 33, 3) := by decide +kernel
theorem dX1_endLapsedClauses_51 : decode cX1_endLapsedClauses 51 = .ok (.iconst 1, 1) := by decide +kernel
theorem dX1_endLapsedClauses_52 : decode cX1_endLapsedClauses 52 = .ok (.iadd, 1) := by decide +kernel
theorem dX1_endLapsedClauses_53 : decode cX1_endLapsedClauses 53 = .ok (.putfield 33, 3) := by decide +kernel
theorem dX1_endLapsedClauses_56 : decode cX1_endLapsedClauses 56 = .ok (.iinc 3 1, 3) := by decide +kernel
theorem dX1_endLapsedClauses_59 : decode cX1_endLapsedClauses 59 = .ok (.goto (-49), 3) := by decide +kernel
theorem dX1_endLapsedClauses_62 : decode cX1_endLapsedClauses 62 = .ok (.return_, 1) := by decide +kernel
theorem dX1_dropCitesOfNoClause_0 : decode cX1_dropCitesOfNoClause 0 = .ok (.aload_n 0, 1) := by decide +kernel
theorem dX1_dropCitesOfNoClause_1 : decode cX1_dropCitesOfNoClause 1 = .ok (.getfield 11, 3) := by decide +kernel
theorem dX1_dropCitesOfNoClause_4 : decode cX1_dropCitesOfNoClause 4 = .ok (.astore_n 1, 1) := by decide +kernel
theorem dX1_dropCitesOfNoClause_5 : decode cX1_dropCitesOfNoClause 5 = .ok (.aload_n 1, 1) := by decide +kernel
theorem dX1_dropCitesOfNoClause_6 : decode cX1_dropCitesOfNoClause 6 = .ok (.arraylength, 1) := by decide +kernel
theorem dX1_dropCitesOfNoClause_7 : decode cX1_dropCitesOfNoClause 7 = .ok (.istore_n 2, 1) := by decide +kernel
theorem dX1_dropCitesOfNoClause_8 : decode cX1_dropCitesOfNoClause 8 = .ok (.iconst 0, 1) := by decide +kernel
theorem dX1_dropCitesOfNoClause_9 : decode cX1_dropCitesOfNoClause 9 = .ok (.istore_n 3, 1) := by decide +kernel
theorem dX1_dropCitesOfNoClause_10 : decode cX1_dropCitesOfNoClause 10 = .ok (.iload_n 3, 1) := by decide +kernel
theorem dX1_dropCitesOfNoClause_11 : decode cX1_dropCitesOfNoClause 11 = .ok (.iload_n 2, 1) := by decide +kernel
theorem dX1_dropCitesOfNoClause_12 : decode cX1_dropCitesOfNoClause 12 = .ok (.if_icmp .ge 75, 3) := by decide +kernel
theorem dX1_dropCitesOfNoClause_15 : decode cX1_dropCitesOfNoClause 15 = .ok (.aload_n 1, 1) := by decide +kernel
theorem dX1_dropCitesOfNoClause_16 : decode cX1_dropCitesOfNoClause 16 = .ok (.iload_n 3, 1) := by decide +kernel
theorem dX1_dropCitesOfNoClause_17 : decode cX1_dropCitesOfNoClause 17 = .ok (.aaload, 1) := by decide +kernel
theorem dX1_dropCitesOfNoClause_18 : decode cX1_dropCitesOfNoClause 18 = .ok (.astore 4, 2) := by decide +kernel
theorem dX1_dropCitesOfNoClause_20 : decode cX1_dropCitesOfNoClause 20 = .ok (.aload 4, 2) := by decide +kernel
theorem dX1_dropCitesOfNoClause_22 : decode cX1_dropCitesOfNoClause 22 = .ok (.getfield 144, 3) := by decide +kernel
theorem dX1_dropCitesOfNoClause_25 : decode cX1_dropCitesOfNoClause 25 = .ok (.ifCond .eq 11, 3) := by decide +kernel
theorem dX1_dropCitesOfNoClause_28 : decode cX1_dropCitesOfNoClause 28 = .ok (.aload 4, 2) := by decide +kernel
theorem dX1_dropCitesOfNoClause_30 : decode cX1_dropCitesOfNoClause 30 = .ok (.invokevirtual 134, 3) := by decide +kernel
theorem dX1_dropCitesOfNoClause_33 : decode cX1_dropCitesOfNoClause 33 = .ok (.goto 4, 3) := by decide +kernel
theorem dX1_dropCitesOfNoClause_36 : decode cX1_dropCitesOfNoClause 36 = .ok (.iconst 0, 1) := by decide +kernel
theorem dX1_dropCitesOfNoClause_37 : decode cX1_dropCitesOfNoClause 37 = .ok (.istore 5, 2) := by decide +kernel
theorem dX1_dropCitesOfNoClause_39 : decode cX1_dropCitesOfNoClause 39 = .ok (.iload 5, 2) := by decide +kernel
theorem dX1_dropCitesOfNoClause_41 : decode cX1_dropCitesOfNoClause 41 = .ok (.iconst 1, 1) := by decide +kernel
theorem dX1_dropCitesOfNoClause_42 : decode cX1_dropCitesOfNoClause 42 = .ok (.isub, 1) := by decide +kernel
theorem dX1_dropCitesOfNoClause_43 : decode cX1_dropCitesOfNoClause 43 = .ok (.istore 6, 2) := by decide +kernel
theorem dX1_dropCitesOfNoClause_45 : decode cX1_dropCitesOfNoClause 45 = .ok (.iload 6, 2) := by decide +kernel
theorem dX1_dropCitesOfNoClause_47 : decode cX1_dropCitesOfNoClause 47 = .ok (.ifCond .lt 34, 3) := by decide +kernel
theorem dX1_dropCitesOfNoClause_50 : decode cX1_dropCitesOfNoClause 50 = .ok (.aload 4, 2) := by decide +kernel
theorem dX1_dropCitesOfNoClause_52 : decode cX1_dropCitesOfNoClause 52 = .ok (.iload 6, 2) := by decide +kernel
theorem dX1_dropCitesOfNoClause_54 : decode cX1_dropCitesOfNoClause 54 = .ok (.invokevirtual 170, 3) := by decide +kernel
theorem dX1_dropCitesOfNoClause_57 : decode cX1_dropCitesOfNoClause 57 = .ok (.istore 7, 2) := by decide +kernel
theorem dX1_dropCitesOfNoClause_59 : decode cX1_dropCitesOfNoClause 59 = .ok (.aload_n 0, 1) := by decide +kernel
theorem dX1_dropCitesOfNoClause_60 : decode cX1_dropCitesOfNoClause 60 = .ok (.iload 7, 2) := by decide +kernel
theorem dX1_dropCitesOfNoClause_62 : decode cX1_dropCitesOfNoClause 62 = .ok (.invokevirtual 79, 3) := by decide +kernel
theorem dX1_dropCitesOfNoClause_65 : decode cX1_dropCitesOfNoClause 65 = .ok (.ifnonnull 10, 3) := by decide +kernel
theorem dX1_dropCitesOfNoClause_68 : decode cX1_dropCitesOfNoClause 68 = .ok (.aload 4, 2) := by decide +kernel
theorem dX1_dropCitesOfNoClause_70 : decode cX1_dropCitesOfNoClause 70 = .ok (.iload 7, 2) := by decide +kernel
theorem dX1_dropCitesOfNoClause_72 : decode cX1_dropCitesOfNoClause 72 = .ok (.invokevirtual 141, 3) := by decide +kernel
theorem dX1_dropCitesOfNoClause_75 : decode cX1_dropCitesOfNoClause 75 = .ok (.iinc 6 (-1), 3) := by decide +kernel
theorem dX1_dropCitesOfNoClause_78 : decode cX1_dropCitesOfNoClause 78 = .ok (.goto (-33), 3) := by decide +kernel
theorem dX1_dropCitesOfNoClause_81 : decode cX1_dropCitesOfNoClause 81 = .ok (.iinc 3 1, 3) := by decide +kernel
theorem dX1_dropCitesOfNoClause_84 : decode cX1_dropCitesOfNoClause 84 = .ok (.goto (-74), 3) := by decide +kernel
theorem dX1_dropCitesOfNoClause_87 : decode cX1_dropCitesOfNoClause 87 = .ok (.return_, 1) := by decide +kernel
theorem dX1_renumberSections_0 : decode cX1_renumberSections 0 = .ok (.iconst 0, 1) := by decide +kernel
theorem dX1_renumberSections_1 : decode cX1_renumberSections 1 = .ok (.istore_n 1, 1) := by decide +kernel
theorem dX1_renumberSections_2 : decode cX1_renumberSections 2 = .ok (.iload_n 1, 1) := by decide +kernel
theorem dX1_renumberSections_3 : decode cX1_renumberSections 3 = .ok (.bipush 16, 2) := by decide +kernel
theorem dX1_renumberSections_5 : decode cX1_renumberSections 5 = .ok (.if_icmp .ge 26, 3) := by decide +kernel
theorem dX1_renumberSections_8 : decode cX1_renumberSections 8 = .ok (.aload_n 0, 1) := by decide +kernel
theorem dX1_renumberSections_9 : decode cX1_renumberSections 9 = .ok (.iload_n 1, 1) := by decide +kernel
theorem dX1_renumberSections_10 : decode cX1_renumberSections 10 = .ok (.invokevirtual 173, 3) := by decide +kernel
theorem dX1_renumberSections_13 : decode cX1_renumberSections 13 = .ok (.astore_n 2, 1) := by decide +kernel
theorem dX1_renumberSections_14 : decode cX1_renumberSections 14 = .ok (.aload_n 2, 1) := by decide +kernel
theorem dX1_renumberSections_15 : decode cX1_renumberSections 15 = .ok (.ifnull 10, 3) := by decide +kernel
theorem dX1_renumberSections_18 : decode cX1_renumberSections 18 = .ok (.aload_n 2, 1) := by decide +kernel
theorem dX1_renumberSections_19 : decode cX1_renumberSections 19 = .ok (.iload_n 1, 1) := by decide +kernel
theorem dX1_renumberSections_20 : decode cX1_renumberSections 20 = .ok (.iconst 1, 1) := by decide +kernel
theorem dX1_renumberSections_21 : decode cX1_renumberSections 21 = .ok (.iadd, 1) := by decide +kernel
theorem dX1_renumberSections_22 : decode cX1_renumberSections 22 = .ok (.putfield 176, 3) := by decide +kernel
theorem dX1_renumberSections_25 : decode cX1_renumberSections 25 = .ok (.iinc 1 1, 3) := by decide +kernel
theorem dX1_renumberSections_28 : decode cX1_renumberSections 28 = .ok (.goto (-26), 3) := by decide +kernel
theorem dX1_renumberSections_31 : decode cX1_renumberSections 31 = .ok (.return_, 1) := by decide +kernel
theorem dX1_forgetOldVersions_0 : decode cX1_forgetOldVersions 0 = .ok (.aload_n 0, 1) := by decide +kernel
theorem dX1_forgetOldVersions_1 : decode cX1_forgetOldVersions 1 = .ok (.getfield 11, 3) := by decide +kernel
theorem dX1_forgetOldVersions_4 : decode cX1_forgetOldVersions 4 = .ok (.astore_n 1, 1) := by decide +kernel
theorem dX1_forgetOldVersions_5 : decode cX1_forgetOldVersions 5 = .ok (.aload_n 1, 1) := by decide +kernel
theorem dX1_forgetOldVersions_6 : decode cX1_forgetOldVersions 6 = .ok (.arraylength, 1) := by decide +kernel
theorem dX1_forgetOldVersions_7 : decode cX1_forgetOldVersions 7 = .ok (.istore_n 2, 1) := by decide +kernel
theorem dX1_forgetOldVersions_8 : decode cX1_forgetOldVersions 8 = .ok (.iconst 0, 1) := by decide +kernel
theorem dX1_forgetOldVersions_9 : decode cX1_forgetOldVersions 9 = .ok (.istore_n 3, 1) := by decide +kernel
theorem dX1_forgetOldVersions_10 : decode cX1_forgetOldVersions 10 = .ok (.iload_n 3, 1) := by decide +kernel
theorem dX1_forgetOldVersions_11 : decode cX1_forgetOldVersions 11 = .ok (.iload_n 2, 1) := by decide +kernel
theorem dX1_forgetOldVersions_12 : decode cX1_forgetOldVersions 12 = .ok (.if_icmp .ge 27, 3) := by decide +kernel
theorem dX1_forgetOldVersions_15 : decode cX1_forgetOldVersions 15 = .ok (.aload_n 1, 1) := by decide +kernel
theorem dX1_forgetOldVersions_16 : decode cX1_forgetOldVersions 16 = .ok (.iload_n 3, 1) := by decide +kernel
theorem dX1_forgetOldVersions_17 : decode cX1_forgetOldVersions 17 = .ok (.aaload, 1) := by decide +kernel
theorem dX1_forgetOldVersions_18 : decode cX1_forgetOldVersions 18 = .ok (.astore 4, 2) := by decide +kernel
theorem dX1_forgetOldVersions_20 : decode cX1_forgetOldVersions 20 = .ok (.aload 4, 2) := by decide +kernel
theorem dX1_forgetOldVersions_22 : decode cX1_forgetOldVersions 22 = .ok (.getfield 144, 3) := by decide +kernel
theorem dX1_forgetOldVersions_25 : decode cX1_forgetOldVersions 25 = .ok (.ifCond .eq 8, 3) := by decide +kernel
theorem dX1_forgetOldVersions_28 : decode cX1_forgetOldVersions 28 = .ok (.aload 4, 2) := by decide +kernel
theorem dX1_forgetOldVersions_30 : decode cX1_forgetOldVersions 30 = .ok (.invokevirtual 179, 3) := by decide +kernel
theorem dX1_forgetOldVersions_33 : decode cX1_forgetOldVersions 33 = .ok (.iinc 3 1, 3) := by decide +kernel
theorem dX1_forgetOldVersions_36 : decode cX1_forgetOldVersions 36 = .ok (.goto (-26), 3) := by decide +kernel
theorem dX1_forgetOldVersions_39 : decode cX1_forgetOldVersions 39 = .ok (.return_, 1) := by decide +kernel
theorem dX1_dayOfEdition_0 : decode cX1_dayOfEdition 0 = .ok (.aload_n 0, 1) := by decide +kernel
theorem dX1_dayOfEdition_1 : decode cX1_dayOfEdition 1 = .ok (.getfield 39, 3) := by decide +kernel
theorem dX1_dayOfEdition_4 : decode cX1_dayOfEdition 4 = .ok (.iload_n 1, 1) := by decide +kernel
theorem dX1_dayOfEdition_5 : decode cX1_dayOfEdition 5 = .ok (.invokestatic 166, 3) := by decide +kernel
theorem dX1_dayOfEdition_8 : decode cX1_dayOfEdition 8 = .ok (.iaload, 1) := by decide +kernel
theorem dX1_dayOfEdition_9 : decode cX1_dayOfEdition 9 = .ok (.ireturn, 1) := by decide +kernel
theorem dX1_placeOfEdition_0 : decode cX1_placeOfEdition 0 = .ok (.iload_n 0, 1) := by decide +kernel
theorem dX1_placeOfEdition_1 : decode cX1_placeOfEdition 1 = .ok (.bipush 6, 2) := by decide +kernel
theorem dX1_placeOfEdition_3 : decode cX1_placeOfEdition 3 = .ok (.invokestatic 182, 3) := by decide +kernel
theorem dX1_placeOfEdition_6 : decode cX1_placeOfEdition 6 = .ok (.ireturn, 1) := by decide +kernel
theorem dX1_freeClause_0 : decode cX1_freeClause 0 = .ok (.aload_n 0, 1) := by decide +kernel
theorem dX1_freeClause_1 : decode cX1_freeClause 1 = .ok (.getfield 11, 3) := by decide +kernel
theorem dX1_freeClause_4 : decode cX1_freeClause 4 = .ok (.astore_n 1, 1) := by decide +kernel
theorem dX1_freeClause_5 : decode cX1_freeClause 5 = .ok (.aload_n 1, 1) := by decide +kernel
theorem dX1_freeClause_6 : decode cX1_freeClause 6 = .ok (.arraylength, 1) := by decide +kernel
theorem dX1_freeClause_7 : decode cX1_freeClause 7 = .ok (.istore_n 2, 1) := by decide +kernel
theorem dX1_freeClause_8 : decode cX1_freeClause 8 = .ok (.iconst 0, 1) := by decide +kernel
theorem dX1_freeClause_9 : decode cX1_freeClause 9 = .ok (.istore_n 3, 1) := by decide +kernel
theorem dX1_freeClause_10 : decode cX1_freeClause 10 = .ok (.iload_n 3, 1) := by decide +kernel
theorem dX1_freeClause_11 : decode cX1_freeClause 11 = .ok (.iload_n 2, 1) := by decide +kernel
theorem dX1_freeClause_12 : decode cX1_freeClause 12 = .ok (.if_icmp .ge 25, 3) := by decide +kernel
theorem dX1_freeClause_15 : decode cX1_freeClause 15 = .ok (.aload_n 1, 1) := by decide +kernel
theorem dX1_freeClause_16 : decode cX1_freeClause 16 = .ok (.iload_n 3, 1) := by decide +kernel
theorem dX1_freeClause_17 : decode cX1_freeClause 17 = .ok (.aaload, 1) := by decide +kernel
theorem dX1_freeClause_18 : decode cX1_freeClause 18 = .ok (.astore 4, 2) := by decide +kernel
theorem dX1_freeClause_20 : decode cX1_freeClause 20 = .ok (.aload 4, 2) := by decide +kernel
theorem dX1_freeClause_22 : decode cX1_freeClause 22 = .ok (.getfield 144, 3) := by decide +kernel
theorem dX1_freeClause_25 : decode cX1_freeClause 25 = .ok (.ifCond .ne 6, 3) := by decide +kernel
theorem dX1_freeClause_28 : decode cX1_freeClause 28 = .ok (.aload 4, 2) := by decide +kernel
theorem dX1_freeClause_30 : decode cX1_freeClause 30 = .ok (.areturn, 1) := by decide +kernel
theorem dX1_freeClause_31 : decode cX1_freeClause 31 = .ok (.iinc 3 1, 3) := by decide +kernel
theorem dX1_freeClause_34 : decode cX1_freeClause 34 = .ok (.goto (-24), 3) := by decide +kernel
theorem dX1_freeClause_37 : decode cX1_freeClause 37 = .ok (.aconst_null, 1) := by decide +kernel
theorem dX1_freeClause_38 : decode cX1_freeClause 38 = .ok (.areturn, 1) := by decide +kernel
theorem dX1_slotWithId_0 : decode cX1_slotWithId 0 = .ok (.iconst 0, 1) := by decide +kernel
theorem dX1_slotWithId_1 : decode cX1_slotWithId 1 = .ok (.istore_n 2, 1) := by decide +kernel
theorem dX1_slotWithId_2 : decode cX1_slotWithId 2 = .ok (.iload_n 2, 1) := by decide +kernel
theorem dX1_slotWithId_3 : decode cX1_slotWithId 3 = .ok (.aload_n 0, 1) := by decide +kernel
theorem dX1_slotWithId_4 : decode cX1_slotWithId 4 = .ok (.getfield 11, 3) := by decide +kernel
theorem dX1_slotWithId_7 : decode cX1_slotWithId 7 = .ok (.arraylength, 1) := by decide +kernel
theorem dX1_slotWithId_8 : decode cX1_slotWithId 8 = .ok (.if_icmp .ge 36, 3) := by decide +kernel
theorem dX1_slotWithId_11 : decode cX1_slotWithId 11 = .ok (.aload_n 0, 1) := by decide +kernel
theorem dX1_slotWithId_12 : decode cX1_slotWithId 12 = .ok (.getfield 11, 3) := by decide +kernel
theorem dX1_slotWithId_15 : decode cX1_slotWithId 15 = .ok (.iload_n 2, 1) := by decide +kernel
theorem dX1_slotWithId_16 : decode cX1_slotWithId 16 = .ok (.aaload, 1) := by decide +kernel
theorem dX1_slotWithId_17 : decode cX1_slotWithId 17 = .ok (.getfield 144, 3) := by decide +kernel
theorem dX1_slotWithId_20 : decode cX1_slotWithId 20 = .ok (.ifCond .eq 18, 3) := by decide +kernel
theorem dX1_slotWithId_23 : decode cX1_slotWithId 23 = .ok (.aload_n 0, 1) := by decide +kernel
theorem dX1_slotWithId_24 : decode cX1_slotWithId 24 = .ok (.getfield 11, 3) := by decide +kernel
theorem dX1_slotWithId_27 : decode cX1_slotWithId 27 = .ok (.iload_n 2, 1) := by decide +kernel
theorem dX1_slotWithId_28 : decode cX1_slotWithId 28 = .ok (.aaload, 1) := by decide +kernel
theorem dX1_slotWithId_29 : decode cX1_slotWithId 29 = .ok (.getfield 76, 3) := by decide +kernel
theorem dX1_slotWithId_32 : decode cX1_slotWithId 32 = .ok (.iload_n 1, 1) := by decide +kernel
theorem dX1_slotWithId_33 : decode cX1_slotWithId 33 = .ok (.if_icmp .ne 5, 3) := by decide +kernel
theorem dX1_slotWithId_36 : decode cX1_slotWithId 36 = .ok (.iload_n 2, 1) := by decide +kernel
theorem dX1_slotWithId_37 : decode cX1_slotWithId 37 = .ok (.ireturn, 1) := by decide +kernel
theorem dX1_slotWithId_38 : decode cX1_slotWithId 38 = .ok (.iinc 2 1, 3) := by decide +kernel
theorem dX1_slotWithId_41 : decode cX1_slotWithId 41 = .ok (.goto (-39), 3) := by decide +kernel
theorem dX1_slotWithId_44 : decode cX1_slotWithId 44 = .ok (.iconst (-1), 1) := by decide +kernel
theorem dX1_slotWithId_45 : decode cX1_slotWithId 45 = .ok (.ireturn, 1) := by decide +kernel
theorem dX1_clauseWithId_0 : decode cX1_clauseWithId 0 = .ok (.aload_n 0, 1) := by decide +kernel
theorem dX1_clauseWithId_1 : decode cX1_clauseWithId 1 = .ok (.iload_n 1, 1) := by decide +kernel
theorem dX1_clauseWithId_2 : decode cX1_clauseWithId 2 = .ok (.invokevirtual 188, 3) := by decide +kernel
theorem dX1_clauseWithId_5 : decode cX1_clauseWithId 5 = .ok (.istore_n 2, 1) := by decide +kernel
theorem dX1_clauseWithId_6 : decode cX1_clauseWithId 6 = .ok (.iload_n 2, 1) := by decide +kernel
theorem dX1_clauseWithId_7 : decode cX1_clauseWithId 7 = .ok (.iconst (-1), 1) := by decide +kernel
theorem dX1_clauseWithId_8 : decode cX1_clauseWithId 8 = .ok (.if_icmp .ne 7, 3) := by decide +kernel
theorem dX1_clauseWithId_11 : decode cX1_clauseWithId 11 = .ok (.aconst_null, 1) := by decide +kernel
theorem dX1_clauseWithId_12 : decode cX1_clauseWithId 12 = .ok (.goto 9, 3) := by decide +kernel
theorem dX1_clauseWithId_15 : decode cX1_clauseWithId 15 = .ok (.aload_n 0, 1) := by decide +kernel
theorem dX1_clauseWithId_16 : decode cX1_clauseWithId 16 = .ok (.getfield 11, 3) := by decide +kernel
theorem dX1_clauseWithId_19 : decode cX1_clauseWithId 19 = .ok (.iload_n 2, 1) := by decide +kernel
theorem dX1_clauseWithId_20 : decode cX1_clauseWithId 20 = .ok (.aaload, 1) := by decide +kernel
theorem dX1_clauseWithId_21 : decode cX1_clauseWithId 21 = .ok (.areturn, 1) := by decide +kernel
theorem dX1_clauseWithSection_0 : decode cX1_clauseWithSection 0 = .ok (.aload_n 0, 1) := by decide +kernel
theorem dX1_clauseWithSection_1 : decode cX1_clauseWithSection 1 = .ok (.getfield 11, 3) := by decide +kernel
theorem dX1_clauseWithSection_4 : decode cX1_clauseWithSection 4 = .ok (.astore_n 2, 1) := by decide +kernel
theorem dX1_clauseWithSection_5 : decode cX1_clauseWithSection 5 = .ok (.aload_n 2, 1) := by decide +kernel
theorem dX1_clauseWithSection_6 : decode cX1_clauseWithSection 6 = .ok (.arraylength, 1) := by decide +kernel
theorem dX1_clauseWithSection_7 : decode cX1_clauseWithSection 7 = .ok (.istore_n 3, 1) := by decide +kernel
theorem dX1_clauseWithSection_8 : decode cX1_clauseWithSection 8 = .ok (.iconst 0, 1) := by decide +kernel
theorem dX1_clauseWithSection_9 : decode cX1_clauseWithSection 9 = .ok (.istore 4, 2) := by decide +kernel
theorem dX1_clauseWithSection_11 : decode cX1_clauseWithSection 11 = .ok (.iload 4, 2) := by decide +kernel
theorem dX1_clauseWithSection_13 : decode cX1_clauseWithSection 13 = .ok (.iload_n 3, 1) := by decide +kernel
theorem dX1_clauseWithSection_14 : decode cX1_clauseWithSection 14 = .ok (.if_icmp .ge 35, 3) := by decide +kernel
theorem dX1_clauseWithSection_17 : decode cX1_clauseWithSection 17 = .ok (.aload_n 2, 1) := by decide +kernel
theorem dX1_clauseWithSection_18 : decode cX1_clauseWithSection 18 = .ok (.iload 4, 2) := by decide +kernel
theorem dX1_clauseWithSection_20 : decode cX1_clauseWithSection 20 = .ok (.aaload, 1) := by decide +kernel
theorem dX1_clauseWithSection_21 : decode cX1_clauseWithSection 21 = .ok (.astore 5, 2) := by decide +kernel
theorem dX1_clauseWithSection_23 : decode cX1_clauseWithSection 23 = .ok (.aload 5, 2) := by decide +kernel
theorem dX1_clauseWithSection_25 : decode cX1_clauseWithSection 25 = .ok (.getfield 144, 3) := by decide +kernel
theorem dX1_clauseWithSection_28 : decode cX1_clauseWithSection 28 = .ok (.ifCond .eq 15, 3) := by decide +kernel
theorem dX1_clauseWithSection_31 : decode cX1_clauseWithSection 31 = .ok (.aload 5, 2) := by decide +kernel
theorem dX1_clauseWithSection_33 : decode cX1_clauseWithSection 33 = .ok (.getfield 176, 3) := by decide +kernel
theorem dX1_clauseWithSection_36 : decode cX1_clauseWithSection 36 = .ok (.iload_n 1, 1) := by decide +kernel
theorem dX1_clauseWithSection_37 : decode cX1_clauseWithSection 37 = .ok (.if_icmp .ne 6, 3) := by decide +kernel
theorem dX1_clauseWithSection_40 : decode cX1_clauseWithSection 40 = .ok (.aload 5, 2) := by decide +kernel
theorem dX1_clauseWithSection_42 : decode cX1_clauseWithSection 42 = .ok (.areturn, 1) := by decide +kernel
theorem dX1_clauseWithSection_43 : decode cX1_clauseWithSection 43 = .ok (.iinc 4 1, 3) := by decide +kernel
theorem dX1_clauseWithSection_46 : decode cX1_clauseWithSection 46 = .ok (.goto (-35), 3) := by decide +kernel
theorem dX1_clauseWithSection_49 : decode cX1_clauseWithSection 49 = .ok (.aconst_null, 1) := by decide +kernel
theorem dX1_clauseWithSection_50 : decode cX1_clauseWithSection 50 = .ok (.areturn, 1) := by decide +kernel
theorem dX1_clauseAtRank_0 : decode cX1_clauseAtRank 0 = .ok (.aload_n 0, 1) := by decide +kernel
theorem dX1_clauseAtRank_1 : decode cX1_clauseAtRank 1 = .ok (.getfield 11, 3) := by decide +kernel
theorem dX1_clauseAtRank_4 : decode cX1_clauseAtRank 4 = .ok (.astore_n 2, 1) := by decide +kernel
theorem dX1_clauseAtRank_5 : decode cX1_clauseAtRank 5 = .ok (.aload_n 2, 1) := by decide +kernel
theorem dX1_clauseAtRank_6 : decode cX1_clauseAtRank 6 = .ok (.arraylength, 1) := by decide +kernel
theorem dX1_clauseAtRank_7 : decode cX1_clauseAtRank 7 = .ok (.istore_n 3, 1) := by decide +kernel
theorem dX1_clauseAtRank_8 : decode cX1_clauseAtRank 8 = .ok (.iconst 0, 1) := by decide +kernel
theorem dX1_clauseAtRank_9 : decode cX1_clauseAtRank 9 = .ok (.istore 4, 2) := by decide +kernel
theorem dX1_clauseAtRank_11 : decode cX1_clauseAtRank 11 = .ok (.iload 4, 2) := by decide +kernel
theorem dX1_clauseAtRank_13 : decode cX1_clauseAtRank 13 = .ok (.iload_n 3, 1) := by decide +kernel
theorem dX1_clauseAtRank_14 : decode cX1_clauseAtRank 14 = .ok (.if_icmp .ge 39, 3) := by decide +kernel
theorem dX1_clauseAtRank_17 : decode cX1_clauseAtRank 17 = .ok (.aload_n 2, 1) := by decide +kernel
theorem dX1_clauseAtRank_18 : decode cX1_clauseAtRank 18 = .ok (.iload 4, 2) := by decide +kernel
theorem dX1_clauseAtRank_20 : decode cX1_clauseAtRank 20 = .ok (.aaload, 1) := by decide +kernel
theorem dX1_clauseAtRank_21 : decode cX1_clauseAtRank 21 = .ok (.astore 5, 2) := by decide +kernel
theorem dX1_clauseAtRank_23 : decode cX1_clauseAtRank 23 = .ok (.aload 5, 2) := by decide +kernel
theorem dX1_clauseAtRank_25 : decode cX1_clauseAtRank 25 = .ok (.getfield 144, 3) := by decide +kernel
theorem dX1_clauseAtRank_28 : decode cX1_clauseAtRank 28 = .ok (.ifCond .eq 19, 3) := by decide +kernel
theorem dX1_clauseAtRank_31 : decode cX1_clauseAtRank 31 = .ok (.aload_n 0, 1) := by decide +kernel
theorem dX1_clauseAtRank_32 : decode cX1_clauseAtRank 32 = .ok (.aload 5, 2) := by decide +kernel
theorem dX1_clauseAtRank_34 : decode cX1_clauseAtRank 34 = .ok (.getfield 176, 3) := by decide +kernel
theorem dX1_clauseAtRank_37 : decode cX1_clauseAtRank 37 = .ok (.invokevirtual 191, 3) := by decide +kernel
theorem dX1_clauseAtRank_40 : decode cX1_clauseAtRank 40 = .ok (.iload_n 1, 1) := by decide +kernel
theorem dX1_clauseAtRank_41 : decode cX1_clauseAtRank 41 = .ok (.if_icmp .ne 6, 3) := by decide +kernel
theorem dX1_clauseAtRank_44 : decode cX1_clauseAtRank 44 = .ok (.aload 5, 2) := by decide +kernel
theorem dX1_clauseAtRank_46 : decode cX1_clauseAtRank 46 = .ok (.areturn, 1) := by decide +kernel
theorem dX1_clauseAtRank_47 : decode cX1_clauseAtRank 47 = .ok (.iinc 4 1, 3) := by decide +kernel
theorem dX1_clauseAtRank_50 : decode cX1_clauseAtRank 50 = .ok (.goto (-39), 3) := by decide +kernel
theorem dX1_clauseAtRank_53 : decode cX1_clauseAtRank 53 = .ok (.aconst_null, 1) := by decide +kernel
theorem dX1_clauseAtRank_54 : decode cX1_clauseAtRank 54 = .ok (.areturn, 1) := by decide +kernel
theorem dX1_countSectionsBelow_0 : decode cX1_countSectionsBelow 0 = .ok (.iconst 0, 1) := by decide +kernel
theorem dX1_countSectionsBelow_1 : decode cX1_countSectionsBelow 1 = .ok (.istore_n 2, 1) := by decide +kernel
theorem dX1_countSectionsBelow_2 : decode cX1_countSectionsBelow 2 = .ok (.aload_n 0, 1) := by decide +kernel
theorem dX1_countSectionsBelow_3 : decode cX1_countSectionsBelow 3 = .ok (.getfield 11, 3) := by decide +kernel
theorem dX1_countSectionsBelow_6 : decode cX1_countSectionsBelow 6 = .ok (.astore_n 3, 1) := by decide +kernel
theorem dX1_countSectionsBelow_7 : decode cX1_countSectionsBelow 7 = .ok (.aload_n 3, 1) := by decide +kernel
theorem dX1_countSectionsBelow_8 : decode cX1_countSectionsBelow 8 = .ok (.arraylength, 1) := by decide +kernel
theorem dX1_countSectionsBelow_9 : decode cX1_countSectionsBelow 9 = .ok (.istore 4, 2) := by decide +kernel
theorem dX1_countSectionsBelow_11 : decode cX1_countSectionsBelow 11 = .ok (.iconst 0, 1) := by decide +kernel
theorem dX1_countSectionsBelow_12 : decode cX1_countSectionsBelow 12 = .ok (.istore 5, 2) := by decide +kernel
theorem dX1_countSectionsBelow_14 : decode cX1_countSectionsBelow 14 = .ok (.iload 5, 2) := by decide +kernel
theorem dX1_countSectionsBelow_16 : decode cX1_countSectionsBelow 16 = .ok (.iload 4, 2) := by decide +kernel
theorem dX1_countSectionsBelow_18 : decode cX1_countSectionsBelow 18 = .ok (.if_icmp .ge 35, 3) := by decide +kernel
theorem dX1_countSectionsBelow_21 : decode cX1_countSectionsBelow 21 = .ok (.aload_n 3, 1) := by decide +kernel
theorem dX1_countSectionsBelow_22 : decode cX1_countSectionsBelow 22 = .ok (.iload 5, 2) := by decide +kernel
theorem dX1_countSectionsBelow_24 : decode cX1_countSectionsBelow 24 = .ok (.aaload, 1) := by decide +kernel
theorem dX1_countSectionsBelow_25 : decode cX1_countSectionsBelow 25 = .ok (.astore 6, 2) := by decide +kernel
theorem dX1_countSectionsBelow_27 : decode cX1_countSectionsBelow 27 = .ok (.aload 6, 2) := by decide +kernel
theorem dX1_countSectionsBelow_29 : decode cX1_countSectionsBelow 29 = .ok (.getfield 144, 3) := by decide +kernel
theorem dX1_countSectionsBelow_32 : decode cX1_countSectionsBelow 32 = .ok (.ifCond .eq 15, 3) := by decide +kernel
theorem dX1_countSectionsBelow_35 : decode cX1_countSectionsBelow 35 = .ok (.aload 6, 2) := by decide +kernel
theorem dX1_countSectionsBelow_37 : decode cX1_countSectionsBelow 37 = .ok (.getfield 176, 3) := by decide +kernel
theorem dX1_countSectionsBelow_40 : decode cX1_countSectionsBelow 40 = .ok (.iload_n 1, 1) := by decide +kernel
theorem dX1_countSectionsBelow_41 : decode cX1_countSectionsBelow 41 = .ok (.if_icmp .ge 6, 3) := by decide +kernel
theorem dX1_countSectionsBelow_44 : decode cX1_countSectionsBelow 44 = .ok (.iinc 2 1, 3) := by decide +kernel
theorem dX1_countSectionsBelow_47 : decode cX1_countSectionsBelow 47 = .ok (.iinc 5 1, 3) := by decide +kernel
theorem dX1_countSectionsBelow_50 : decode cX1_countSectionsBelow 50 = .ok (.goto (-36), 3) := by decide +kernel
theorem dX1_countSectionsBelow_53 : decode cX1_countSectionsBelow 53 = .ok (.iload_n 2, 1) := by decide +kernel
theorem dX1_countSectionsBelow_54 : decode cX1_countSectionsBelow 54 = .ok (.ireturn, 1) := by decide +kernel
theorem dX1_countClauses_0 : decode cX1_countClauses 0 = .ok (.iconst 0, 1) := by decide +kernel
theorem dX1_countClauses_1 : decode cX1_countClauses 1 = .ok (.istore_n 1, 1) := by decide +kernel
theorem dX1_countClauses_2 : decode cX1_countClauses 2 = .ok (.aload_n 0, 1) := by decide +kernel
theorem dX1_countClauses_3 : decode cX1_countClauses 3 = .ok (.getfield 11, 3) := by decide +kernel
theorem dX1_countClauses_6 : decode cX1_countClauses 6 = .ok (.astore_n 2, 1) := by decide +kernel
theorem dX1_countClauses_7 : decode cX1_countClauses 7 = .ok (.aload_n 2, 1) := by decide +kernel
theorem dX1_countClauses_8 : decode cX1_countClauses 8 = .ok (.arraylength, 1) := by decide +kernel
theorem dX1_countClauses_9 : decode cX1_countClauses 9 = .ok (.istore_n 3, 1) := by decide +kernel
theorem dX1_countClauses_10 : decode cX1_countClauses 10 = .ok (.iconst 0, 1) := by decide +kernel
theorem dX1_countClauses_11 : decode cX1_countClauses 11 = .ok (.istore 4, 2) := by decide +kernel
theorem dX1_countClauses_13 : decode cX1_countClauses 13 = .ok (.iload 4, 2) := by decide +kernel
theorem dX1_countClauses_15 : decode cX1_countClauses 15 = .ok (.iload_n 3, 1) := by decide +kernel
theorem dX1_countClauses_16 : decode cX1_countClauses 16 = .ok (.if_icmp .ge 26, 3) := by decide +kernel
theorem dX1_countClauses_19 : decode cX1_countClauses 19 = .ok (.aload_n 2, 1) := by decide +kernel
theorem dX1_countClauses_20 : decode cX1_countClauses 20 = .ok (.iload 4, 2) := by decide +kernel
theorem dX1_countClauses_22 : decode cX1_countClauses 22 = .ok (.aaload, 1) := by decide +kernel
theorem dX1_countClauses_23 : decode cX1_countClauses 23 = .ok (.astore 5, 2) := by decide +kernel
theorem dX1_countClauses_25 : decode cX1_countClauses 25 = .ok (.aload 5, 2) := by decide +kernel
theorem dX1_countClauses_27 : decode cX1_countClauses 27 = .ok (.getfield 144, 3) := by decide +kernel
theorem dX1_countClauses_30 : decode cX1_countClauses 30 = .ok (.ifCond .eq 6, 3) := by decide +kernel
theorem dX1_countClauses_33 : decode cX1_countClauses 33 = .ok (.iinc 1 1, 3) := by decide +kernel
theorem dX1_countClauses_36 : decode cX1_countClauses 36 = .ok (.iinc 4 1, 3) := by decide +kernel
theorem dX1_countClauses_39 : decode cX1_countClauses 39 = .ok (.goto (-26), 3) := by decide +kernel
theorem dX1_countClauses_42 : decode cX1_countClauses 42 = .ok (.iload_n 1, 1) := by decide +kernel
theorem dX1_countClauses_43 : decode cX1_countClauses 43 = .ok (.ireturn, 1) := by decide +kernel
theorem dX1_countHoldingOn_0 : decode cX1_countHoldingOn 0 = .ok (.iconst 0, 1) := by decide +kernel
theorem dX1_countHoldingOn_1 : decode cX1_countHoldingOn 1 = .ok (.istore_n 2, 1) := by decide +kernel
theorem dX1_countHoldingOn_2 : decode cX1_countHoldingOn 2 = .ok (.aload_n 0, 1) := by decide +kernel
theorem dX1_countHoldingOn_3 : decode cX1_countHoldingOn 3 = .ok (.getfield 11, 3) := by decide +kernel
theorem dX1_countHoldingOn_6 : decode cX1_countHoldingOn 6 = .ok (.astore_n 3, 1) := by decide +kernel
theorem dX1_countHoldingOn_7 : decode cX1_countHoldingOn 7 = .ok (.aload_n 3, 1) := by decide +kernel
theorem dX1_countHoldingOn_8 : decode cX1_countHoldingOn 8 = .ok (.arraylength, 1) := by decide +kernel
theorem dX1_countHoldingOn_9 : decode cX1_countHoldingOn 9 = .ok (.istore 4, 2) := by decide +kernel
theorem dX1_countHoldingOn_11 : decode cX1_countHoldingOn 11 = .ok (.iconst 0, 1) := by decide +kernel
theorem dX1_countHoldingOn_12 : decode cX1_countHoldingOn 12 = .ok (.istore 5, 2) := by decide +kernel
theorem dX1_countHoldingOn_14 : decode cX1_countHoldingOn 14 = .ok (.iload 5, 2) := by decide +kernel
theorem dX1_countHoldingOn_16 : decode cX1_countHoldingOn 16 = .ok (.iload 4, 2) := by decide +kernel
theorem dX1_countHoldingOn_18 : decode cX1_countHoldingOn 18 = .ok (.if_icmp .ge 35, 3) := by decide +kernel
theorem dX1_countHoldingOn_21 : decode cX1_countHoldingOn 21 = .ok (.aload_n 3, 1) := by decide +kernel
theorem dX1_countHoldingOn_22 : decode cX1_countHoldingOn 22 = .ok (.iload 5, 2) := by decide +kernel
theorem dX1_countHoldingOn_24 : decode cX1_countHoldingOn 24 = .ok (.aaload, 1) := by decide +kernel
theorem dX1_countHoldingOn_25 : decode cX1_countHoldingOn 25 = .ok (.astore 6, 2) := by decide +kernel
theorem dX1_countHoldingOn_27 : decode cX1_countHoldingOn 27 = .ok (.aload 6, 2) := by decide +kernel
theorem dX1_countHoldingOn_29 : decode cX1_countHoldingOn 29 = .ok (.getfield 144, 3) := by decide +kernel
theorem dX1_countHoldingOn_32 : decode cX1_countHoldingOn 32 = .ok (.ifCond .eq 15, 3) := by decide +kernel
theorem dX1_countHoldingOn_35 : decode cX1_countHoldingOn 35 = .ok (.aload 6, 2) := by decide +kernel
theorem dX1_countHoldingOn_37 : decode cX1_countHoldingOn 37 = .ok (.iload_n 1, 1) := by decide +kernel
theorem dX1_countHoldingOn_38 : decode cX1_countHoldingOn 38 = .ok (.invokevirtual 109, 3) := by decide +kernel
theorem dX1_countHoldingOn_41 : decode cX1_countHoldingOn 41 = .ok (.ifCond .eq 6, 3) := by decide +kernel
theorem dX1_countHoldingOn_44 : decode cX1_countHoldingOn 44 = .ok (.iinc 2 1, 3) := by decide +kernel
theorem dX1_countHoldingOn_47 : decode cX1_countHoldingOn 47 = .ok (.iinc 5 1, 3) := by decide +kernel
theorem dX1_countHoldingOn_50 : decode cX1_countHoldingOn 50 = .ok (.goto (-36), 3) := by decide +kernel
theorem dX1_countHoldingOn_53 : decode cX1_countHoldingOn 53 = .ok (.iload_n 2, 1) := by decide +kernel
theorem dX1_countHoldingOn_54 : decode cX1_countHoldingOn 54 = .ok (.ireturn, 1) := by decide +kernel
theorem dX1_countLapsed_0 : decode cX1_countLapsed 0 = .ok (.iconst 0, 1) := by decide +kernel
theorem dX1_countLapsed_1 : decode cX1_countLapsed 1 = .ok (.istore_n 1, 1) := by decide +kernel
theorem dX1_countLapsed_2 : decode cX1_countLapsed 2 = .ok (.aload_n 0, 1) := by decide +kernel
theorem dX1_countLapsed_3 : decode cX1_countLapsed 3 = .ok (.getfield 11, 3) := by decide +kernel
theorem dX1_countLapsed_6 : decode cX1_countLapsed 6 = .ok (.astore_n 2, 1) := by decide +kernel
theorem dX1_countLapsed_7 : decode cX1_countLapsed 7 = .ok (.aload_n 2, 1) := by decide +kernel
theorem dX1_countLapsed_8 : decode cX1_countLapsed 8 = .ok (.arraylength, 1) := by decide +kernel
theorem dX1_countLapsed_9 : decode cX1_countLapsed 9 = .ok (.istore_n 3, 1) := by decide +kernel
theorem dX1_countLapsed_10 : decode cX1_countLapsed 10 = .ok (.iconst 0, 1) := by decide +kernel
theorem dX1_countLapsed_11 : decode cX1_countLapsed 11 = .ok (.istore 4, 2) := by decide +kernel
theorem dX1_countLapsed_13 : decode cX1_countLapsed 13 = .ok (.iload 4, 2) := by decide +kernel
theorem dX1_countLapsed_15 : decode cX1_countLapsed 15 = .ok (.iload_n 3, 1) := by decide +kernel
theorem dX1_countLapsed_16 : decode cX1_countLapsed 16 = .ok (.if_icmp .ge 38, 3) := by decide +kernel
theorem dX1_countLapsed_19 : decode cX1_countLapsed 19 = .ok (.aload_n 2, 1) := by decide +kernel
theorem dX1_countLapsed_20 : decode cX1_countLapsed 20 = .ok (.iload 4, 2) := by decide +kernel
theorem dX1_countLapsed_22 : decode cX1_countLapsed 22 = .ok (.aaload, 1) := by decide +kernel
theorem dX1_countLapsed_23 : decode cX1_countLapsed 23 = .ok (.astore 5, 2) := by decide +kernel
theorem dX1_countLapsed_25 : decode cX1_countLapsed 25 = .ok (.aload 5, 2) := by decide +kernel
theorem dX1_countLapsed_27 : decode cX1_countLapsed 27 = .ok (.getfield 144, 3) := by decide +kernel
theorem dX1_countLapsed_30 : decode cX1_countLapsed 30 = .ok (.ifCond .eq 18, 3) := by decide +kernel
theorem dX1_countLapsed_33 : decode cX1_countLapsed 33 = .ok (.aload 5, 2) := by decide +kernel
theorem dX1_countLapsed_35 : decode cX1_countLapsed 35 = .ok (.aload_n 0, 1) := by decide +kernel
theorem dX1_countLapsed_36 : decode cX1_countLapsed 36 = .ok (.getfield 21, 3) := by decide +kernel
theorem dX1_countLapsed_39 : decode cX1_countLapsed 39 = .ok (.invokevirtual 125, 3) := by decide +kernel
theorem dX1_countLapsed_42 : decode cX1_countLapsed 42 = .ok (.ifCond .eq 6, 3) := by decide +kernel
theorem dX1_countLapsed_45 : decode cX1_countLapsed 45 = .ok (.iinc 1 1, 3) := by decide +kernel
theorem dX1_countLapsed_48 : decode cX1_countLapsed 48 = .ok (.iinc 4 1, 3) := by decide +kernel
theorem dX1_countLapsed_51 : decode cX1_countLapsed 51 = .ok (.goto (-38), 3) := by decide +kernel
theorem dX1_countLapsed_54 : decode cX1_countLapsed 54 = .ok (.iload_n 1, 1) := by decide +kernel
theorem dX1_countLapsed_55 : decode cX1_countLapsed 55 = .ok (.ireturn, 1) := by decide +kernel
theorem dX1_countNotes_0 : decode cX1_countNotes 0 = .ok (.iconst 0, 1) := by decide +kernel
theorem dX1_countNotes_1 : decode cX1_countNotes 1 = .ok (.istore_n 1, 1) := by decide +kernel
theorem dX1_countNotes_2 : decode cX1_countNotes 2 = .ok (.aload_n 0, 1) := by decide +kernel
theorem dX1_countNotes_3 : decode cX1_countNotes 3 = .ok (.getfield 11, 3) := by decide +kernel
theorem dX1_countNotes_6 : decode cX1_countNotes 6 = .ok (.astore_n 2, 1) := by decide +kernel
theorem dX1_countNotes_7 : decode cX1_countNotes 7 = .ok (.aload_n 2, 1) := by decide +kernel
theorem dX1_countNotes_8 : decode cX1_countNotes 8 = .ok (.arraylength, 1) := by decide +kernel
theorem dX1_countNotes_9 : decode cX1_countNotes 9 = .ok (.istore_n 3, 1) := by decide +kernel
theorem dX1_countNotes_10 : decode cX1_countNotes 10 = .ok (.iconst 0, 1) := by decide +kernel
theorem dX1_countNotes_11 : decode cX1_countNotes 11 = .ok (.istore 4, 2) := by decide +kernel
theorem dX1_countNotes_13 : decode cX1_countNotes 13 = .ok (.iload 4, 2) := by decide +kernel
theorem dX1_countNotes_15 : decode cX1_countNotes 15 = .ok (.iload_n 3, 1) := by decide +kernel
theorem dX1_countNotes_16 : decode cX1_countNotes 16 = .ok (.if_icmp .ge 34, 3) := by decide +kernel
theorem dX1_countNotes_19 : decode cX1_countNotes 19 = .ok (.aload_n 2, 1) := by decide +kernel
theorem dX1_countNotes_20 : decode cX1_countNotes 20 = .ok (.iload 4, 2) := by decide +kernel
theorem dX1_countNotes_22 : decode cX1_countNotes 22 = .ok (.aaload, 1) := by decide +kernel
theorem dX1_countNotes_23 : decode cX1_countNotes 23 = .ok (.astore 5, 2) := by decide +kernel
theorem dX1_countNotes_25 : decode cX1_countNotes 25 = .ok (.aload 5, 2) := by decide +kernel
theorem dX1_countNotes_27 : decode cX1_countNotes 27 = .ok (.getfield 144, 3) := by decide +kernel
theorem dX1_countNotes_30 : decode cX1_countNotes 30 = .ok (.ifCond .eq 14, 3) := by decide +kernel
theorem dX1_countNotes_33 : decode cX1_countNotes 33 = .ok (.iload_n 1, 1) := by decide +kernel
theorem dX1_countNotes_34 : decode cX1_countNotes 34 = .ok (.aload 5, 2) := by decide +kernel
theorem dX1_countNotes_36 : decode cX1_countNotes 36 = .ok (.invokevirtual 82, 3) := by decide +kernel
theorem dX1_countNotes_39 : decode cX1_countNotes 39 = .ok (.invokestatic 86, 3) := by decide +kernel
theorem dX1_countNotes_42 : decode cX1_countNotes 42 = .ok (.iadd, 1) := by decide +kernel
theorem dX1_countNotes_43 : decode cX1_countNotes 43 = .ok (.istore_n 1, 1) := by decide +kernel
theorem dX1_countNotes_44 : decode cX1_countNotes 44 = .ok (.iinc 4 1, 3) := by decide +kernel
theorem dX1_countNotes_47 : decode cX1_countNotes 47 = .ok (.goto (-34), 3) := by decide +kernel
theorem dX1_countNotes_50 : decode cX1_countNotes 50 = .ok (.iload_n 1, 1) := by decide +kernel
theorem dX1_countNotes_51 : decode cX1_countNotes 51 = .ok (.ireturn, 1) := by decide +kernel
theorem dX1_countBrokenCites_0 : decode cX1_countBrokenCites 0 = .ok (.iconst 0, 1) := by decide +kernel
theorem dX1_countBrokenCites_1 : decode cX1_countBrokenCites 1 = .ok (.istore_n 1, 1) := by decide +kernel
theorem dX1_countBrokenCites_2 : decode cX1_countBrokenCites 2 = .ok (.aload_n 0, 1) := by decide +kernel
theorem dX1_countBrokenCites_3 : decode cX1_countBrokenCites 3 = .ok (.getfield 11, 3) := by decide +kernel
theorem dX1_countBrokenCites_6 : decode cX1_countBrokenCites 6 = .ok (.astore_n 2, 1) := by decide +kernel
theorem dX1_countBrokenCites_7 : decode cX1_countBrokenCites 7 = .ok (.aload_n 2, 1) := by decide +kernel
theorem dX1_countBrokenCites_8 : decode cX1_countBrokenCites 8 = .ok (.arraylength, 1) := by decide +kernel
theorem dX1_countBrokenCites_9 : decode cX1_countBrokenCites 9 = .ok (.istore_n 3, 1) := by decide +kernel
theorem dX1_countBrokenCites_10 : decode cX1_countBrokenCites 10 = .ok (.iconst 0, 1) := by decide +kernel
theorem dX1_countBrokenCites_11 : decode cX1_countBrokenCites 11 = .ok (.istore 4, 2) := by decide +kernel
theorem dX1_countBrokenCites_13 : decode cX1_countBrokenCites 13 = .ok (.iload 4, 2) := by decide +kernel
theorem dX1_countBrokenCites_15 : decode cX1_countBrokenCites 15 = .ok (.iload_n 3, 1) := by decide +kernel
theorem dX1_countBrokenCites_16 : decode cX1_countBrokenCites 16 = .ok (.if_icmp .ge 83, 3) := by decide +kernel
theorem dX1_countBrokenCites_19 : decode cX1_countBrokenCites 19 = .ok (.aload_n 2, 1) := by decide +kernel
theorem dX1_countBrokenCites_20 : decode cX1_countBrokenCites 20 = .ok (.iload 4, 2) := by decide +kernel
theorem dX1_countBrokenCites_22 : decode cX1_countBrokenCites 22 = .ok (.aaload, 1) := by decide +kernel
theorem dX1_countBrokenCites_23 : decode cX1_countBrokenCites 23 = .ok (.astore 5, 2) := by decide +kernel
theorem dX1_countBrokenCites_25 : decode cX1_countBrokenCites 25 = .ok (.aload 5, 2) := by decide +kernel
theorem dX1_countBrokenCites_27 : decode cX1_countBrokenCites 27 = .ok (.getfield 144, 3) := by decide +kernel
theorem dX1_countBrokenCites_30 : decode cX1_countBrokenCites 30 = .ok (.ifCond .eq 11, 3) := by decide +kernel
theorem dX1_countBrokenCites_33 : decode cX1_countBrokenCites 33 = .ok (.aload 5, 2) := by decide +kernel
theorem dX1_countBrokenCites_35 : decode cX1_countBrokenCites 35 = .ok (.invokevirtual 134, 3) := by decide +kernel
theorem dX1_countBrokenCites_38 : decode cX1_countBrokenCites 38 = .ok (.goto 4, 3) := by decide +kernel
theorem dX1_countBrokenCites_41 : decode cX1_countBrokenCites 41 = .ok (.iconst 0, 1) := by decide +kernel
theorem dX1_countBrokenCites_42 : decode cX1_countBrokenCites 42 = .ok (.istore 6, 2) := by decide +kernel
theorem dX1_countBrokenCites_44 : decode cX1_countBrokenCites 44 = .ok (.iconst 0, 1) := by decide +kernel
theorem dX1_countBrokenCites_45 : decode cX1_countBrokenCites 45 = .ok (.istore 7, 2) := by decide +kernel
theorem dX1_countBrokenCites_47 : decode cX1_countBrokenCites 47 = .ok (.iload 7, 2) := by decide +kernel
theorem dX1_countBrokenCites_49 : decode cX1_countBrokenCites 49 = .ok (.iload 6, 2) := by decide +kernel
theorem dX1_countBrokenCites_51 : decode cX1_countBrokenCites 51 = .ok (.if_icmp .ge 42, 3) := by decide +kernel
theorem dX1_countBrokenCites_54 : decode cX1_countBrokenCites 54 = .ok (.aload_n 0, 1) := by decide +kernel
theorem dX1_countBrokenCites_55 : decode cX1_countBrokenCites 55 = .ok (.aload 5, 2) := by decide +kernel
theorem dX1_countBrokenCites_57 : decode cX1_countBrokenCites 57 = .ok (.iload 7, 2) := by decide +kernel
theorem dX1_countBrokenCites_59 : decode cX1_countBrokenCites 59 = .ok (.invokevirtual 170, 3) := by decide +kernel
theorem dX1_countBrokenCites_62 : decode cX1_countBrokenCites 62 = .ok (.invokevirtual 79, 3) := by decide +kernel
theorem dX1_countBrokenCites_65 : decode cX1_countBrokenCites 65 = .ok (.astore 8, 2) := by decide +kernel
theorem dX1_countBrokenCites_67 : decode cX1_countBrokenCites 67 = .ok (.aload 8, 2) := by decide +kernel
theorem dX1_countBrokenCites_69 : decode cX1_countBrokenCites 69 = .ok (.ifnull 15, 3) := by decide +kernel
theorem dX1_countBrokenCites_72 : decode cX1_countBrokenCites 72 = .ok (.aload 8, 2) := by decide +kernel
theorem dX1_countBrokenCites_74 : decode cX1_countBrokenCites 74 = .ok (.aload_n 0, 1) := by decide +kernel
theorem dX1_countBrokenCites_75 : decode cX1_countBrokenCites 75 = .ok (.getfield 21, 3) := by decide +kernel
theorem dX1_countBrokenCites_78 : decode cX1_countBrokenCites 78 = .ok (.invokevirtual 109, 3) := by decide +kernel
theorem dX1_countBrokenCites_81 : decode cX1_countBrokenCites 81 = .ok (.ifCond .ne 6, 3) := by decide +kernel
theorem dX1_countBrokenCites_84 : decode cX1_countBrokenCites 84 = .ok (.iinc 1 1, 3) := by decide +kernel
theorem dX1_countBrokenCites_87 : decode cX1_countBrokenCites 87 = .ok (.iinc 7 1, 3) := by decide +kernel
theorem dX1_countBrokenCites_90 : decode cX1_countBrokenCites 90 = .ok (.goto (-43), 3) := by decide +kernel
theorem dX1_countBrokenCites_93 : decode cX1_countBrokenCites 93 = .ok (.iinc 4 1, 3) := by decide +kernel
theorem dX1_countBrokenCites_96 : decode cX1_countBrokenCites 96 = .ok (.goto (-83), 3) := by decide +kernel
theorem dX1_countBrokenCites_99 : decode cX1_countBrokenCites 99 = .ok (.iload_n 1, 1) := by decide +kernel
theorem dX1_countBrokenCites_100 : decode cX1_countBrokenCites 100 = .ok (.ireturn, 1) := by decide +kernel
theorem dX2_init_0 : decode cX2_init 0 = .ok (.aload_n 0, 1) := by decide +kernel
theorem dX2_init_1 : decode cX2_init 1 = .ok (.invokespecial 3, 3) := by decide +kernel
theorem dX2_init_4 : decode cX2_init 4 = .ok (.aload_n 0, 1) := by decide +kernel
theorem dX2_init_5 : decode cX2_init 5 = .ok (.bipush 16, 2) := by decide +kernel
theorem dX2_init_7 : decode cX2_init 7 = .ok (.newarray .int, 2) := by decide +kernel
theorem dX2_init_9 : decode cX2_init 9 = .ok (.putfield 9, 3) := by decide +kernel
theorem dX2_init_12 : decode cX2_init 12 = .ok (.aload_n 0, 1) := by decide +kernel
theorem dX2_init_13 : decode cX2_init 13 = .ok (.bipush 16, 2) := by decide +kernel
theorem dX2_init_15 : decode cX2_init 15 = .ok (.newarray .int, 2) := by decide +kernel
theorem dX2_init_17 : decode cX2_init 17 = .ok (.putfield 15, 3) := by decide +kernel
theorem dX2_init_20 : decode cX2_init 20 = .ok (.aload_n 0, 1) := by decide +kernel
theorem dX2_init_21 : decode cX2_init 21 = .ok (.bipush 17, 2) := by decide +kernel
theorem dX2_init_23 : decode cX2_init 23 = .ok (.newarray .int, 2) := by decide +kernel
theorem dX2_init_25 : decode cX2_init 25 = .ok (.putfield 18, 3) := by decide +kernel
theorem dX2_init_28 : decode cX2_init 28 = .ok (.return_, 1) := by decide +kernel
theorem dX2_hasSlot_0 : decode cX2_hasSlot 0 = .ok (.iload_n 0, 1) := by decide +kernel
theorem dX2_hasSlot_1 : decode cX2_hasSlot 1 = .ok (.iload_n 1, 1) := by decide +kernel
theorem dX2_hasSlot_2 : decode cX2_hasSlot 2 = .ok (.iushr, 1) := by decide +kernel
theorem dX2_hasSlot_3 : decode cX2_hasSlot 3 = .ok (.iconst 1, 1) := by decide +kernel
theorem dX2_hasSlot_4 : decode cX2_hasSlot 4 = .ok (.iand, 1) := by decide +kernel
theorem dX2_hasSlot_5 : decode cX2_hasSlot 5 = .ok (.iconst 1, 1) := by decide +kernel
theorem dX2_hasSlot_6 : decode cX2_hasSlot 6 = .ok (.if_icmp .ne 7, 3) := by decide +kernel
theorem dX2_hasSlot_9 : decode cX2_hasSlot 9 = .ok (.iconst 1, 1) := by decide +kernel
theorem dX2_hasSlot_10 : decode cX2_hasSlot 10 = .ok (.goto 4, 3) := by decide +kernel
theorem dX2_hasSlot_13 : decode cX2_hasSlot 13 = .ok (.iconst 0, 1) := by decide +kernel
theorem dX2_hasSlot_14 : decode cX2_hasSlot 14 = .ok (.ireturn, 1) := by decide +kernel
theorem dX2_read_0 : decode cX2_read 0 = .ok (.iconst 0, 1) := by decide +kernel
theorem dX2_read_1 : decode cX2_read 1 = .ok (.istore_n 2, 1) := by decide +kernel
theorem dX2_read_2 : decode cX2_read 2 = .ok (.iload_n 2, 1) := by decide +kernel
theorem dX2_read_3 : decode cX2_read 3 = .ok (.bipush 16, 2) := by decide +kernel
theorem dX2_read_5 : decode cX2_read 5 = .ok (.if_icmp .ge 38, 3) := by decide +kernel
theorem dX2_read_8 : decode cX2_read 8 = .ok (.aload_n 1, 1) := by decide +kernel
theorem dX2_read_9 : decode cX2_read 9 = .ok (.getfield 21, 3) := by decide +kernel
theorem dX2_read_12 : decode cX2_read 12 = .ok (.iload_n 2, 1) := by decide +kernel
theorem dX2_read_13 : decode cX2_read 13 = .ok (.aaload, 1) := by decide +kernel
theorem dX2_read_14 : decode cX2_read 14 = .ok (.astore_n 3, 1) := by decide +kernel
theorem dX2_read_15 : decode cX2_read 15 = .ok (.aload_n 0, 1) := by decide +kernel
theorem dX2_read_16 : decode cX2_read 16 = .ok (.getfield 9, 3) := by decide +kernel
theorem dX2_read_19 : decode cX2_read 19 = .ok (.iload_n 2, 1) := by decide +kernel
theorem dX2_read_20 : decode cX2_read 20 = .ok (.aload_n 3, 1) := by decide +kernel
theorem dX2_read_21 : decode cX2_read 21 = .ok (.getfield 27, 3) := by decide +kernel
theorem dX2_read_24 : decode cX2_read 24 = .ok (.ifCond .eq 11, 3) := by decide +kernel
theorem dX2_read_27 : decode cX2_read 27 = .ok (.aload_n 3, 1) := by decide +kernel
theorem dX2_read_28 : decode cX2_read 28 = .ok (.aload_n 1, 1) := by decide +kernel
theorem dX2_read_29 : decode cX2_read 29 = .ok (.invokestatic 33, 3) := by decide +kernel
theorem dX2_read_32 : decode cX2_read 32 = .ok (.goto 4, 3) := by decide +kernel
theorem dX2_read_35 : decode cX2_read 35 = .ok (.iconst 0, 1) := by decide +kernel
theorem dX2_read_36 : decode cX2_read 36 = .ok (.iastore, 1) := by decide +kernel
theorem dX2_read_37 : decode cX2_read 37 = .ok (.iinc 2 1, 3) := by decide +kernel
theorem dX2_read_40 : decode cX2_read 40 = .ok (.goto (-38), 3) := by decide +kernel
theorem dX2_read_43 : decode cX2_read 43 = .ok (.return_, 1) := by decide +kernel
theorem dX2_slotsCitedBy_0 : decode cX2_slotsCitedBy 0 = .ok (.iconst 0, 1) := by decide +kernel
theorem dX2_slotsCitedBy_1 : decode cX2_slotsCitedBy 1 = .ok (.istore_n 2, 1) := by decide +kernel
theorem dX2_slotsCitedBy_2 : decode cX2_slotsCitedBy 2 = .ok (.aload_n 0, 1) := by decide +kernel
theorem dX2_slotsCitedBy_3 : decode cX2_slotsCitedBy 3 = .ok (.invokevirtual 37, 3) := by decide +kernel
theorem dX2_slotsCitedBy_6 : decode cX2_slotsCitedBy 6 = .ok (.istore_n 3, 1) := by decide +kernel
theorem dX2_slotsCitedBy_7 : decode cX2_slotsCitedBy 7 = .ok (.iconst 0, 1) := by decide +kernel
theorem dX2_slotsCitedBy_8 : decode cX2_slotsCitedBy 8 = .ok (.istore 4, 2) := by decide +kernel
theorem dX2_slotsCitedBy_10 : decode cX2_slotsCitedBy 10 = .ok (.iload 4, 2) := by decide +kernel
theorem dX2_slotsCitedBy_12 : decode cX2_slotsCitedBy 12 = .ok (.iload_n 3, 1) := by decide +kernel
theorem dX2_slotsCitedBy_13 : decode cX2_slotsCitedBy 13 = .ok (.if_icmp .ge 34, 3) := by decide +kernel
theorem dX2_slotsCitedBy_16 : decode cX2_slotsCitedBy 16 = .ok (.aload_n 1, 1) := by decide +kernel
theorem dX2_slotsCitedBy_17 : decode cX2_slotsCitedBy 17 = .ok (.aload_n 0, 1) := by decide +kernel
theorem dX2_slotsCitedBy_18 : decode cX2_slotsCitedBy 18 = .ok (.iload 4, 2) := by decide +kernel
theorem dX2_slotsCitedBy_20 : decode cX2_slotsCitedBy 20 = .ok (.invokevirtual 41, 3) := by decide +kernel
theorem dX2_slotsCitedBy_23 : decode cX2_slotsCitedBy 23 = .ok (.invokevirtual 45, 3) := by decide +kernel
theorem dX2_slotsCitedBy_26 : decode cX2_slotsCitedBy 26 = .ok (.istore 5, 2) := by decide +kernel
theorem dX2_slotsCitedBy_28 : decode cX2_slotsCitedBy 28 = .ok (.iload 5, 2) := by decide +kernel
theorem dX2_slotsCitedBy_30 : decode cX2_slotsCitedBy 30 = .ok (.iconst (-1), 1) := by decide +kernel
theorem dX2_slotsCitedBy_31 : decode cX2_slotsCitedBy 31 = .ok (.if_icmp .eq 10, 3) := by decide +kernel
theorem dX2_slotsCitedBy_34 : decode cX2_slotsCitedBy 34 = .ok (.iload_n 2, 1) := by decide +kernel
theorem dX2_slotsCitedBy_35 : decode cX2_slotsCitedBy 35 = .ok (.iconst 1, 1) := by decide +kernel
theorem dX2_slotsCitedBy_36 : decode cX2_slotsCitedBy 36 = .ok (.iload 5, 2) := by decide +kernel
theorem dX2_slotsCitedBy_38 : decode cX2_slotsCitedBy 38 = .ok (.ishl, 1) := by decide +kernel
theorem dX2_slotsCitedBy_39 : decode cX2_slotsCitedBy 39 = .ok (.ior, 1) := by decide +kernel
theorem dX2_slotsCitedBy_40 : decode cX2_slotsCitedBy 40 = .ok (.istore_n 2, 1) := by decide +kernel
theorem dX2_slotsCitedBy_41 : decode cX2_slotsCitedBy 41 = .ok (.iinc 4 1, 3) := by decide +kernel
theorem dX2_slotsCitedBy_44 : decode cX2_slotsCitedBy 44 = .ok (.goto (-34), 3) := by decide +kernel
theorem dX2_slotsCitedBy_47 : decode cX2_slotsCitedBy 47 = .ok (.iload_n 2, 1) := by decide +kernel
theorem dX2_slotsCitedBy_48 : decode cX2_slotsCitedBy 48 = .ok (.ireturn, 1) := by decide +kernel
theorem dX2_countCiters_0 : decode cX2_countCiters 0 = .ok (.iconst 0, 1) := by decide +kernel
theorem dX2_countCiters_1 : decode cX2_countCiters 1 = .ok (.istore_n 2, 1) := by decide +kernel
theorem dX2_countCiters_2 : decode cX2_countCiters 2 = .ok (.aload_n 0, 1) := by decide +kernel
theorem dX2_countCiters_3 : decode cX2_countCiters 3 = .ok (.getfield 9, 3) := by decide +kernel
theorem dX2_countCiters_6 : decode cX2_countCiters 6 = .ok (.astore_n 3, 1) := by decide +kernel
theorem dX2_countCiters_7 : decode cX2_countCiters 7 = .ok (.aload_n 3, 1) := by decide +kernel
theorem dX2_countCiters_8 : decode cX2_countCiters 8 = .ok (.arraylength, 1) := by decide +kernel
theorem dX2_countCiters_9 : decode cX2_countCiters 9 = .ok (.istore 4, 2) := by decide +kernel
theorem dX2_countCiters_11 : decode cX2_countCiters 11 = .ok (.iconst 0, 1) := by decide +kernel
theorem dX2_countCiters_12 : decode cX2_countCiters 12 = .ok (.istore 5, 2) := by decide +kernel
theorem dX2_countCiters_14 : decode cX2_countCiters 14 = .ok (.iload 5, 2) := by decide +kernel
theorem dX2_countCiters_16 : decode cX2_countCiters 16 = .ok (.iload 4, 2) := by decide +kernel
theorem dX2_countCiters_18 : decode cX2_countCiters 18 = .ok (.if_icmp .ge 27, 3) := by decide +kernel
theorem dX2_countCiters_21 : decode cX2_countCiters 21 = .ok (.aload_n 3, 1) := by decide +kernel
theorem dX2_countCiters_22 : decode cX2_countCiters 22 = .ok (.iload 5, 2) := by decide +kernel
theorem dX2_countCiters_24 : decode cX2_countCiters 24 = .ok (.iaload, 1) := by decide +kernel
theorem dX2_countCiters_25 : decode cX2_countCiters 25 = .ok (.istore 6, 2) := by decide +kernel
theorem dX2_countCiters_27 : decode cX2_countCiters 27 = .ok (.iload 6, 2) := by decide +kernel
theorem dX2_countCiters_29 : decode cX2_countCiters 29 = .ok (.iload_n 1, 1) := by decide +kernel
theorem dX2_countCiters_30 : decode cX2_countCiters 30 = .ok (.invokestatic 48, 3) := by decide +kernel
theorem dX2_countCiters_33 : decode cX2_countCiters 33 = .ok (.ifCond .eq 6, 3) := by decide +kernel
theorem dX2_countCiters_36 : decode cX2_countCiters 36 = .ok (.iinc 2 1, 3) := by decide +kernel
theorem dX2_countCiters_39 : decode cX2_countCiters 39 = .ok (.iinc 5 1, 3) := by decide +kernel
theorem dX2_countCiters_42 : decode cX2_countCiters 42 = .ok (.goto (-28), 3) := by decide +kernel
theorem dX2_countCiters_45 : decode cX2_countCiters 45 = .ok (.iload_n 2, 1) := by decide +kernel
theorem dX2_countCiters_46 : decode cX2_countCiters 46 = .ok (.ireturn, 1) := by decide +kernel
theorem dX2_slotsFoundFrom_0 : decode cX2_slotsFoundFrom 0 = .ok (.iconst 0, 1) := by decide +kernel
theorem dX2_slotsFoundFrom_1 : decode cX2_slotsFoundFrom 1 = .ok (.istore_n 2, 1) := by decide +kernel
theorem dX2_slotsFoundFrom_2 : decode cX2_slotsFoundFrom 2 = .ok (.iconst 1, 1) := by decide +kernel
theorem dX2_slotsFoundFrom_3 : decode cX2_slotsFoundFrom 3 = .ok (.istore_n 3, 1) := by decide +kernel
theorem dX2_slotsFoundFrom_4 : decode cX2_slotsFoundFrom 4 = .ok (.aload_n 0, 1) := by decide +kernel
theorem dX2_slotsFoundFrom_5 : decode cX2_slotsFoundFrom 5 = .ok (.getfield 18, 3) := by decide +kernel
theorem dX2_slotsFoundFrom_8 : decode cX2_slotsFoundFrom 8 = .ok (.iconst 0, 1) := by decide +kernel
theorem dX2_slotsFoundFrom_9 : decode cX2_slotsFoundFrom 9 = .ok (.iload_n 1, 1) := by decide +kernel
theorem dX2_slotsFoundFrom_10 : decode cX2_slotsFoundFrom 10 = .ok (.iastore, 1) := by decide +kernel
theorem dX2_slotsFoundFrom_11 : decode cX2_slotsFoundFrom 11 = .ok (.iconst 0, 1) := by decide +kernel
theorem dX2_slotsFoundFrom_12 : decode cX2_slotsFoundFrom 12 = .ok (.istore 4, 2) := by decide +kernel
theorem dX2_slotsFoundFrom_14 : decode cX2_slotsFoundFrom 14 = .ok (.iload 4, 2) := by decide +kernel
theorem dX2_slotsFoundFrom_16 : decode cX2_slotsFoundFrom 16 = .ok (.iload_n 3, 1) := by decide +kernel
theorem dX2_slotsFoundFrom_17 : decode cX2_slotsFoundFrom 17 = .ok (.if_icmp .ge 88, 3) := by decide +kernel
theorem dX2_slotsFoundFrom_20 : decode cX2_slotsFoundFrom 20 = .ok (.iload 4, 2) := by decide +kernel
theorem dX2_slotsFoundFrom_22 : decode cX2_slotsFoundFrom 22 = .ok (.aload_n 0, 1) := by decide +kernel
theorem dX2_slotsFoundFrom_23 : decode cX2_slotsFoundFrom 23 = .ok (.getfield 18, 3) := by decide +kernel
theorem dX2_slotsFoundFrom_26 : decode cX2_slotsFoundFrom 26 = .ok (.arraylength, 1) := by decide +kernel
theorem dX2_slotsFoundFrom_27 : decode cX2_slotsFoundFrom 27 = .ok (.if_icmp .ge 78, 3) := by decide +kernel
theorem dX2_slotsFoundFrom_30 : decode cX2_slotsFoundFrom 30 = .ok (.aload_n 0, 1) := by decide +kernel
theorem dX2_slotsFoundFrom_31 : decode cX2_slotsFoundFrom 31 = .ok (.getfield 9, 3) := by decide +kernel
theorem dX2_slotsFoundFrom_34 : decode cX2_slotsFoundFrom 34 = .ok (.aload_n 0, 1) := by decide +kernel
theorem dX2_slotsFoundFrom_35 : decode cX2_slotsFoundFrom 35 = .ok (.getfield 18, 3) := by decide +kernel
theorem dX2_slotsFoundFrom_38 : decode cX2_slotsFoundFrom 38 = .ok (.iload 4, 2) := by decide +kernel
theorem dX2_slotsFoundFrom_40 : decode cX2_slotsFoundFrom 40 = .ok (.iaload, 1) := by decide +kernel
theorem dX2_slotsFoundFrom_41 : decode cX2_slotsFoundFrom 41 = .ok (.iaload, 1) := by decide +kernel
theorem dX2_slotsFoundFrom_42 : decode cX2_slotsFoundFrom 42 = .ok (.iload_n 2, 1) := by decide +kernel
theorem dX2_slotsFoundFrom_43 : decode cX2_slotsFoundFrom 43 = .ok (.iconst (-1), 1) := by decide +kernel
theorem dX2_slotsFoundFrom_44 : decode cX2_slotsFoundFrom 44 = .ok (.ixor, 1) := by decide +kernel
theorem dX2_slotsFoundFrom_45 : decode cX2_slotsFoundFrom 45 = .ok (.iand, 1) := by decide +kernel
theorem dX2_slotsFoundFrom_46 : decode cX2_slotsFoundFrom 46 = .ok (.istore 5, 2) := by decide +kernel
theorem dX2_slotsFoundFrom_48 : decode cX2_slotsFoundFrom 48 = .ok (.iload_n 2, 1) := by decide +kernel
theorem dX2_slotsFoundFrom_49 : decode cX2_slotsFoundFrom 49 = .ok (.iload 5, 2) := by decide +kernel
theorem dX2_slotsFoundFrom_51 : decode cX2_slotsFoundFrom 51 = .ok (.ior, 1) := by decide +kernel
theorem dX2_slotsFoundFrom_52 : decode cX2_slotsFoundFrom 52 = .ok (.istore_n 2, 1) := by decide +kernel
theorem dX2_slotsFoundFrom_53 : decode cX2_slotsFoundFrom 53 = .ok (.iconst 0, 1) := by decide +kernel
theorem dX2_slotsFoundFrom_54 : decode cX2_slotsFoundFrom 54 = .ok (.istore 6, 2) := by decide +kernel
theorem dX2_slotsFoundFrom_56 : decode cX2_slotsFoundFrom 56 = .ok (.iload 6, 2) := by decide +kernel
theorem dX2_slotsFoundFrom_58 : decode cX2_slotsFoundFrom 58 = .ok (.bipush 16, 2) := by decide +kernel
theorem dX2_slotsFoundFrom_60 : decode cX2_slotsFoundFrom 60 = .ok (.if_icmp .ge 39, 3) := by decide +kernel
theorem dX2_slotsFoundFrom_63 : decode cX2_slotsFoundFrom 63 = .ok (.iload 5, 2) := by decide +kernel
theorem dX2_slotsFoundFrom_65 : decode cX2_slotsFoundFrom 65 = .ok (.iload 6, 2) := by decide +kernel
theorem dX2_slotsFoundFrom_67 : decode cX2_slotsFoundFrom 67 = .ok (.invokestatic 48, 3) := by decide +kernel
theorem dX2_slotsFoundFrom_70 : decode cX2_slotsFoundFrom 70 = .ok (.ifCond .eq 23, 3) := by decide +kernel
theorem dX2_slotsFoundFrom_73 : decode cX2_slotsFoundFrom 73 = .ok (.iload_n 3, 1) := by decide +kernel
theorem dX2_slotsFoundFrom_74 : decode cX2_slotsFoundFrom 74 = .ok (.aload_n 0, 1) := by decide +kernel
theorem dX2_slotsFoundFrom_75 : decode cX2_slotsFoundFrom 75 = .ok (.getfield 18, 3) := by decide +kernel
theorem dX2_slotsFoundFrom_78 : decode cX2_slotsFoundFrom 78 = .ok (.arraylength, 1) := by decide +kernel
theorem dX2_slotsFoundFrom_79 : decode cX2_slotsFoundFrom 79 = .ok (.if_icmp .ge 14, 3) := by decide +kernel
theorem dX2_slotsFoundFrom_82 : decode cX2_slotsFoundFrom 82 = .ok (.aload_n 0, 1) := by decide +kernel
theorem dX2_slotsFoundFrom_83 : decode cX2_slotsFoundFrom 83 = .ok (.getfield 18, 3) := by decide +kernel
theorem dX2_slotsFoundFrom_86 : decode cX2_slotsFoundFrom 86 = .ok (.iload_n 3, 1) := by decide +kernel
theorem dX2_slotsFoundFrom_87 : decode cX2_slotsFoundFrom 87 = .ok (.iload 6, 2) := by decide +kernel
theorem dX2_slotsFoundFrom_89 : decode cX2_slotsFoundFrom 89 = .ok (.iastore, 1) := by decide +kernel
theorem dX2_slotsFoundFrom_90 : decode cX2_slotsFoundFrom 90 = .ok (.iinc 3 1, 3) := by decide +kernel
theorem dX2_slotsFoundFrom_93 : decode cX2_slotsFoundFrom 93 = .ok (.iinc 6 1, 3) := by decide +kernel
theorem dX2_slotsFoundFrom_96 : decode cX2_slotsFoundFrom 96 = .ok (.goto (-40), 3) := by decide +kernel
theorem dX2_slotsFoundFrom_99 : decode cX2_slotsFoundFrom 99 = .ok (.iinc 4 1, 3) := by decide +kernel
theorem dX2_slotsFoundFrom_102 : decode cX2_slotsFoundFrom 102 = .ok (.goto (-88), 3) := by decide +kernel
theorem dX2_slotsFoundFrom_105 : decode cX2_slotsFoundFrom 105 = .ok (.iload_n 2, 1) := by decide +kernel
theorem dX2_slotsFoundFrom_106 : decode cX2_slotsFoundFrom 106 = .ok (.ireturn, 1) := by decide +kernel
theorem dX2_close_0 : decode cX2_close 0 = .ok (.aload_n 0, 1) := by decide +kernel
theorem dX2_close_1 : decode cX2_close 1 = .ok (.getfield 9, 3) := by decide +kernel
theorem dX2_close_4 : decode cX2_close 4 = .ok (.iconst 0, 1) := by decide +kernel
theorem dX2_close_5 : decode cX2_close 5 = .ok (.aload_n 0, 1) := by decide +kernel
theorem dX2_close_6 : decode cX2_close 6 = .ok (.getfield 15, 3) := by decide +kernel
theorem dX2_close_9 : decode cX2_close 9 = .ok (.iconst 0, 1) := by decide +kernel
theorem dX2_close_10 : decode cX2_close 10 = .ok (.bipush 16, 2) := by decide +kernel
theorem dX2_close_12 : decode cX2_close 12 = .ok (.invokestatic 52, 3) := by decide +kernel
theorem dX2_close_15 : decode cX2_close 15 = .ok (.iconst 0, 1) := by decide +kernel
theorem dX2_close_16 : decode cX2_close 16 = .ok (.istore_n 1, 1) := by decide +kernel
theorem dX2_close_17 : decode cX2_close 17 = .ok (.iload_n 1, 1) := by decide +kernel
theorem dX2_close_18 : decode cX2_close 18 = .ok (.bipush 16, 2) := by decide +kernel
theorem dX2_close_20 : decode cX2_close 20 = .ok (.if_icmp .ge 51, 3) := by decide +kernel
theorem dX2_close_23 : decode cX2_close 23 = .ok (.iconst 0, 1) := by decide +kernel
theorem dX2_close_24 : decode cX2_close 24 = .ok (.istore_n 2, 1) := by decide +kernel
theorem dX2_close_25 : decode cX2_close 25 = .ok (.iload_n 2, 1) := by decide +kernel
theorem dX2_close_26 : decode cX2_close 26 = .ok (.bipush 16, 2) := by decide +kernel
theorem dX2_close_28 : decode cX2_close 28 = .ok (.if_icmp .ge 37, 3) := by decide +kernel
theorem dX2_close_31 : decode cX2_close 31 = .ok (.aload_n 0, 1) := by decide +kernel
theorem dX2_close_32 : decode cX2_close 32 = .ok (.getfield 15, 3) := by decide +kernel
theorem dX2_close_35 : decode cX2_close 35 = .ok (.iload_n 2, 1) := by decide +kernel
theorem dX2_close_36 : decode cX2_close 36 = .ok (.iaload, 1) := by decide +kernel
theorem dX2_close_37 : decode cX2_close 37 = .ok (.iload_n 1, 1) := by decide +kernel
theorem dX2_close_38 : decode cX2_close 38 = .ok (.invokestatic 48, 3) := by decide +kernel
theorem dX2_close_41 : decode cX2_close 41 = .ok (.ifCond .eq 18, 3) := by decide +kernel
theorem dX2_close_44 : decode cX2_close 44 = .ok (.aload_n 0, 1) := by decide +kernel
theorem dX2_close_45 : decode cX2_close 45 = .ok (.getfield 15, 3) := by decide +kernel
theorem dX2_close_48 : decode cX2_close 48 = .ok (.iload_n 2, 1) := by decide +kernel
theorem dX2_close_49 : decode cX2_close 49 = .ok (.dup2, 1) := by decide +kernel
theorem dX2_close_50 : decode cX2_close 50 = .ok (.iaload, 1) := by decide +kernel
theorem dX2_close_51 : decode cX2_close 51 = .ok (.aload_n 0, 1) := by decide +kernel
theorem dX2_close_52 : decode cX2_close 52 = .ok (.getfield 15, 3) := by decide +kernel
theorem dX2_close_55 : decode cX2_close 55 = .ok (.iload_n 1, 1) := by decide +kernel
theorem dX2_close_56 : decode cX2_close 56 = .ok (.iaload, 1) := by decide +kernel
theorem dX2_close_57 : decode cX2_close 57 = .ok (.ior, 1) := by decide +kernel
theorem dX2_close_58 : decode cX2_close 58 = .ok (.iastore, 1) := by decide +kernel
theorem dX2_close_59 : decode cX2_close 59 = .ok (.iinc 2 1, 3) := by decide +kernel
theorem dX2_close_62 : decode cX2_close 62 = .ok (.goto (-37), 3) := by decide +kernel
theorem dX2_close_65 : decode cX2_close 65 = .ok (.iinc 1 1, 3) := by decide +kernel
theorem dX2_close_68 : decode cX2_close 68 = .ok (.goto (-51), 3) := by decide +kernel
theorem dX2_close_71 : decode cX2_close 71 = .ok (.return_, 1) := by decide +kernel
theorem dX2_slotsClosedFrom_0 : decode cX2_slotsClosedFrom 0 = .ok (.aload_n 0, 1) := by decide +kernel
theorem dX2_slotsClosedFrom_1 : decode cX2_slotsClosedFrom 1 = .ok (.getfield 15, 3) := by decide +kernel
theorem dX2_slotsClosedFrom_4 : decode cX2_slotsClosedFrom 4 = .ok (.iload_n 1, 1) := by decide +kernel
theorem dX2_slotsClosedFrom_5 : decode cX2_slotsClosedFrom 5 = .ok (.iaload, 1) := by decide +kernel
theorem dX2_slotsClosedFrom_6 : decode cX2_slotsClosedFrom 6 = .ok (.ireturn, 1) := by decide +kernel
theorem dX3_init_0 : decode cX3_init 0 = .ok (.aload_n 0, 1) := by decide +kernel
theorem dX3_init_1 : decode cX3_init 1 = .ok (.invokespecial 3, 3) := by decide +kernel
theorem dX3_init_4 : decode cX3_init 4 = .ok (.aload_n 0, 1) := by decide +kernel
theorem dX3_init_5 : decode cX3_init 5 = .ok (.iconst 0, 1) := by decide +kernel
theorem dX3_init_6 : decode cX3_init 6 = .ok (.putfield 9, 3) := by decide +kernel
theorem dX3_init_9 : decode cX3_init 9 = .ok (.aload_n 0, 1) := by decide +kernel
theorem dX3_init_10 : decode cX3_init 10 = .ok (.iconst (-1), 1) := by decide +kernel
theorem dX3_init_11 : decode cX3_init 11 = .ok (.putfield 15, 3) := by decide +kernel
theorem dX3_init_14 : decode cX3_init 14 = .ok (.aload_n 0, 1) := by decide +kernel
theorem dX3_init_15 : decode cX3_init 15 = .ok (.iconst 0, 1) := by decide +kernel
theorem dX3_init_16 : decode cX3_init 16 = .ok (.putfield 19, 3) := by decide +kernel
theorem dX3_init_19 : decode cX3_init 19 = .ok (.aload_n 0, 1) := by decide +kernel
theorem dX3_init_20 : decode cX3_init 20 = .ok (.iconst 0, 1) := by decide +kernel
theorem dX3_init_21 : decode cX3_init 21 = .ok (.putfield 22, 3) := by decide +kernel
theorem dX3_init_24 : decode cX3_init 24 = .ok (.aload_n 0, 1) := by decide +kernel
theorem dX3_init_25 : decode cX3_init 25 = .ok (.iconst (-1), 1) := by decide +kernel
theorem dX3_init_26 : decode cX3_init 26 = .ok (.putfield 25, 3) := by decide +kernel
theorem dX3_init_29 : decode cX3_init 29 = .ok (.aload_n 0, 1) := by decide +kernel
theorem dX3_init_30 : decode cX3_init 30 = .ok (.bipush 8, 2) := by decide +kernel
theorem dX3_init_32 : decode cX3_init 32 = .ok (.newarray .int, 2) := by decide +kernel
theorem dX3_init_34 : decode cX3_init 34 = .ok (.putfield 28, 3) := by decide +kernel
theorem dX3_init_37 : decode cX3_init 37 = .ok (.aload_n 0, 1) := by decide +kernel
theorem dX3_init_38 : decode cX3_init 38 = .ok (.bipush 8, 2) := by decide +kernel
theorem dX3_init_40 : decode cX3_init 40 = .ok (.newarray .long, 2) := by decide +kernel
theorem dX3_init_42 : decode cX3_init 42 = .ok (.putfield 32, 3) := by decide +kernel
theorem dX3_init_45 : decode cX3_init 45 = .ok (.aload_n 0, 1) := by decide +kernel
theorem dX3_init_46 : decode cX3_init 46 = .ok (.iconst 4, 1) := by decide +kernel
theorem dX3_init_47 : decode cX3_init 47 = .ok (.newarray .int, 2) := by decide +kernel
theorem dX3_init_49 : decode cX3_init 49 = .ok (.putfield 36, 3) := by decide +kernel
theorem dX3_init_52 : decode cX3_init 52 = .ok (.return_, 1) := by decide +kernel
theorem dX3_copyFrom_0 : decode cX3_copyFrom 0 = .ok (.aload_n 0, 1) := by decide +kernel
theorem dX3_copyFrom_1 : decode cX3_copyFrom 1 = .ok (.aload_n 1, 1) := by decide +kernel
theorem dX3_copyFrom_2 : decode cX3_copyFrom 2 = .ok (.getfield 9, 3) := by decide +kernel
theorem dX3_copyFrom_5 : decode cX3_copyFrom 5 = .ok (.putfield 9, 3) := by decide +kernel
theorem dX3_copyFrom_8 : decode cX3_copyFrom 8 = .ok (.aload_n 0, 1) := by decide +kernel
theorem dX3_copyFrom_9 : decode cX3_copyFrom 9 = .ok (.aload_n 1, 1) := by decide +kernel
theorem dX3_copyFrom_10 : decode cX3_copyFrom 10 = .ok (.getfield 15, 3) := by decide +kernel
theorem dX3_copyFrom_13 : decode cX3_copyFrom 13 = .ok (.putfield 15, 3) := by decide +kernel
theorem dX3_copyFrom_16 : decode cX3_copyFrom 16 = .ok (.aload_n 0, 1) := by decide +kernel
theorem dX3_copyFrom_17 : decode cX3_copyFrom 17 = .ok (.aload_n 1, 1) := by decide +kernel
theorem dX3_copyFrom_18 : decode cX3_copyFrom 18 = .ok (.getfield 19, 3) := by decide +kernel
theorem dX3_copyFrom_21 : decode cX3_copyFrom 21 = .ok (.putfield 19, 3) := by decide +kernel
theorem dX3_copyFrom_24 : decode cX3_copyFrom 24 = .ok (.aload_n 0, 1) := by decide +kernel
theorem dX3_copyFrom_25 : decode cX3_copyFrom 25 = .ok (.aload_n 1, 1) := by decide +kernel
theorem dX3_copyFrom_26 : decode cX3_copyFrom 26 = .ok (.getfield 22, 3) := by decide +kernel
theorem dX3_copyFrom_29 : decode cX3_copyFrom 29 = .ok (.putfield 22, 3) := by decide +kernel
theorem dX3_copyFrom_32 : decode cX3_copyFrom 32 = .ok (.aload_n 0, 1) := by decide +kernel
theorem dX3_copyFrom_33 : decode cX3_copyFrom 33 = .ok (.aload_n 1, 1) := by decide +kernel
theorem dX3_copyFrom_34 : decode cX3_copyFrom 34 = .ok (.getfield 25, 3) := by decide +kernel
theorem dX3_copyFrom_37 : decode cX3_copyFrom 37 = .ok (.putfield 25, 3) := by decide +kernel
theorem dX3_copyFrom_40 : decode cX3_copyFrom 40 = .ok (.aload_n 1, 1) := by decide +kernel
theorem dX3_copyFrom_41 : decode cX3_copyFrom 41 = .ok (.getfield 28, 3) := by decide +kernel
theorem dX3_copyFrom_44 : decode cX3_copyFrom 44 = .ok (.iconst 0, 1) := by decide +kernel
theorem dX3_copyFrom_45 : decode cX3_copyFrom 45 = .ok (.aload_n 0, 1) := by decide +kernel
theorem dX3_copyFrom_46 : decode cX3_copyFrom 46 = .ok (.getfield 28, 3) := by decide +kernel
theorem dX3_copyFrom_49 : decode cX3_copyFrom 49 = .ok (.iconst 0, 1) := by decide +kernel
theorem dX3_copyFrom_50 : decode cX3_copyFrom 50 = .ok (.bipush 8, 2) := by decide +kernel
theorem dX3_copyFrom_52 : decode cX3_copyFrom 52 = .ok (.invokestatic 39, 3) := by decide +kernel
theorem dX3_copyFrom_55 : decode cX3_copyFrom 55 = .ok (.aload_n 1, 1) := by decide +kernel
theorem dX3_copyFrom_56 : decode cX3_copyFrom 56 = .ok (.getfield 32, 3) := by decide +kernel
theorem dX3_copyFrom_59 : decode cX3_copyFrom 59 = .ok (.iconst 0, 1) := by decide +kernel
theorem dX3_copyFrom_60 : decode cX3_copyFrom 60 = .ok (.aload_n 0, 1) := by decide +kernel
theorem dX3_copyFrom_61 : decode cX3_copyFrom 61 = .ok (.getfield 32, 3) := by decide +kernel
theorem dX3_copyFrom_64 : decode cX3_copyFrom 64 = .ok (.iconst 0, 1) := by decide +kernel
theorem dX3_copyFrom_65 : decode cX3_copyFrom 65 = .ok (.bipush 8, 2) := by decide +kernel
theorem dX3_copyFrom_67 : decode cX3_copyFrom 67 = .ok (.invokestatic 39, 3) := by decide +kernel
theorem dX3_copyFrom_70 : decode cX3_copyFrom 70 = .ok (.aload_n 1, 1) := by decide +kernel
theorem dX3_copyFrom_71 : decode cX3_copyFrom 71 = .ok (.getfield 36, 3) := by decide +kernel
theorem dX3_copyFrom_74 : decode cX3_copyFrom 74 = .ok (.iconst 0, 1) := by decide +kernel
theorem dX3_copyFrom_75 : decode cX3_copyFrom 75 = .ok (.aload_n 0, 1) := by decide +kernel
theorem dX3_copyFrom_76 : decode cX3_copyFrom 76 = .ok (.getfield 36, 3) := by decide +kernel
theorem dX3_copyFrom_79 : decode cX3_copyFrom 79 = .ok (.iconst 0, 1) := by decide +kernel
theorem dX3_copyFrom_80 : decode cX3_copyFrom 80 = .ok (.iconst 4, 1) := by decide +kernel
theorem dX3_copyFrom_81 : decode cX3_copyFrom 81 = .ok (.invokestatic 39, 3) := by decide +kernel
theorem dX3_copyFrom_84 : decode cX3_copyFrom 84 = .ok (.return_, 1) := by decide +kernel
theorem dX3_begin_0 : decode cX3_begin 0 = .ok (.aload_n 0, 1) := by decide +kernel
theorem dX3_begin_1 : decode cX3_begin 1 = .ok (.iconst 1, 1) := by decide +kernel
theorem dX3_begin_2 : decode cX3_begin 2 = .ok (.putfield 9, 3) := by decide +kernel
theorem dX3_begin_5 : decode cX3_begin 5 = .ok (.aload_n 0, 1) := by decide +kernel
theorem dX3_begin_6 : decode cX3_begin 6 = .ok (.iload_n 1, 1) := by decide +kernel
theorem dX3_begin_7 : decode cX3_begin 7 = .ok (.putfield 15, 3) := by decide +kernel
theorem dX3_begin_10 : decode cX3_begin 10 = .ok (.aload_n 0, 1) := by decide +kernel
theorem dX3_begin_11 : decode cX3_begin 11 = .ok (.iload_n 2, 1) := by decide +kernel
theorem dX3_begin_12 : decode cX3_begin 12 = .ok (.putfield 19, 3) := by decide +kernel
theorem dX3_begin_15 : decode cX3_begin 15 = .ok (.aload_n 0, 1) := by decide +kernel
theorem dX3_begin_16 : decode cX3_begin 16 = .ok (.iload_n 3, 1) := by decide +kernel
theorem dX3_begin_17 : decode cX3_begin 17 = .ok (.putfield 22, 3) := by decide +kernel
theorem dX3_begin_20 : decode cX3_begin 20 = .ok (.aload_n 0, 1) := by decide +kernel
theorem dX3_begin_21 : decode cX3_begin 21 = .ok (.iconst (-1), 1) := by decide +kernel
theorem dX3_begin_22 : decode cX3_begin 22 = .ok (.putfield 25, 3) := by decide +kernel
theorem dX3_begin_25 : decode cX3_begin 25 = .ok (.aload_n 0, 1) := by decide +kernel
theorem dX3_begin_26 : decode cX3_begin 26 = .ok (.iload_n 3, 1) := by decide +kernel
theorem dX3_begin_27 : decode cX3_begin 27 = .ok (.lload 4, 2) := by decide +kernel
theorem dX3_begin_29 : decode cX3_begin 29 = .ok (.invokevirtual 45, 3) := by decide +kernel
theorem dX3_begin_32 : decode cX3_begin 32 = .ok (.iconst 0, 1) := by decide +kernel
theorem dX3_begin_33 : decode cX3_begin 33 = .ok (.istore 6, 2) := by decide +kernel
theorem dX3_begin_35 : decode cX3_begin 35 = .ok (.iload 6, 2) := by decide +kernel
theorem dX3_begin_37 : decode cX3_begin 37 = .ok (.aload_n 0, 1) := by decide +kernel
theorem dX3_begin_38 : decode cX3_begin 38 = .ok (.getfield 36, 3) := by decide +kernel
theorem dX3_begin_41 : decode cX3_begin 41 = .ok (.arraylength, 1) := by decide +kernel
theorem dX3_begin_42 : decode cX3_begin 42 = .ok (.if_icmp .ge 17, 3) := by decide +kernel
theorem dX3_begin_45 : decode cX3_begin 45 = .ok (.aload_n 0, 1) := by decide +kernel
theorem dX3_begin_46 : decode cX3_begin 46 = .ok (.getfield 36, 3) := by decide +kernel
theorem dX3_begin_49 : decode cX3_begin 49 = .ok (.iload 6, 2) := by decide +kernel
theorem dX3_begin_51 : decode cX3_begin 51 = .ok (.iconst (-1), 1) := by decide +kernel
theorem dX3_begin_52 : decode cX3_begin 52 = .ok (.iastore, 1) := by decide +kernel
theorem dX3_begin_53 : decode cX3_begin 53 = .ok (.iinc 6 1, 3) := by decide +kernel
theorem dX3_begin_56 : decode cX3_begin 56 = .ok (.goto (-21), 3) := by decide +kernel
theorem dX3_begin_59 : decode cX3_begin 59 = .ok (.return_, 1) := by decide +kernel
theorem dX3_hasSunset_0 : decode cX3_hasSunset 0 = .ok (.aload_n 0, 1) := by decide +kernel
theorem dX3_hasSunset_1 : decode cX3_hasSunset 1 = .ok (.getfield 25, 3) := by decide +kernel
theorem dX3_hasSunset_4 : decode cX3_hasSunset 4 = .ok (.iconst (-1), 1) := by decide +kernel
theorem dX3_hasSunset_5 : decode cX3_hasSunset 5 = .ok (.if_icmp .eq 7, 3) := by decide +kernel
theorem dX3_hasSunset_8 : decode cX3_hasSunset 8 = .ok (.iconst 1, 1) := by decide +kernel
theorem dX3_hasSunset_9 : decode cX3_hasSunset 9 = .ok (.goto 4, 3) := by decide +kernel
theorem dX3_hasSunset_12 : decode cX3_hasSunset 12 = .ok (.iconst 0, 1) := by decide +kernel
theorem dX3_hasSunset_13 : decode cX3_hasSunset 13 = .ok (.ireturn, 1) := by decide +kernel
theorem dX3_holdsOn_0 : decode cX3_holdsOn 0 = .ok (.iload_n 1, 1) := by decide +kernel
theorem dX3_holdsOn_1 : decode cX3_holdsOn 1 = .ok (.aload_n 0, 1) := by decide +kernel
theorem dX3_holdsOn_2 : decode cX3_holdsOn 2 = .ok (.getfield 22, 3) := by decide +kernel
theorem dX3_holdsOn_5 : decode cX3_holdsOn 5 = .ok (.if_icmp .lt 22, 3) := by decide +kernel
theorem dX3_holdsOn_8 : decode cX3_holdsOn 8 = .ok (.aload_n 0, 1) := by decide +kernel
theorem dX3_holdsOn_9 : decode cX3_holdsOn 9 = .ok (.invokevirtual 49, 3) := by decide +kernel
theorem dX3_holdsOn_12 : decode cX3_holdsOn 12 = .ok (.ifCond .eq 11, 3) := by decide +kernel
theorem dX3_holdsOn_15 : decode cX3_holdsOn 15 = .ok (.iload_n 1, 1) := by decide +kernel
theorem dX3_holdsOn_16 : decode cX3_holdsOn 16 = .ok (.aload_n 0, 1) := by decide +kernel
theorem dX3_holdsOn_17 : decode cX3_holdsOn 17 = .ok (.getfield 25, 3) := by decide +kernel
theorem dX3_holdsOn_20 : decode cX3_holdsOn 20 = .ok (.if_icmp .gt 7, 3) := by decide +kernel
theorem dX3_holdsOn_23 : decode cX3_holdsOn 23 = .ok (.iconst 1, 1) := by decide +kernel
theorem dX3_holdsOn_24 : decode cX3_holdsOn 24 = .ok (.goto 4, 3) := by decide +kernel
theorem dX3_holdsOn_27 : decode cX3_holdsOn 27 = .ok (.iconst 0, 1) := by decide +kernel
theorem dX3_holdsOn_28 : decode cX3_holdsOn 28 = .ok (.ireturn, 1) := by decide +kernel
theorem dX3_lapsedBy_0 : decode cX3_lapsedBy 0 = .ok (.aload_n 0, 1) := by decide +kernel
theorem dX3_lapsedBy_1 : decode cX3_lapsedBy 1 = .ok (.invokevirtual 49, 3) := by decide +kernel
theorem dX3_lapsedBy_4 : decode cX3_lapsedBy 4 = .ok (.ifCond .eq 15, 3) := by decide +kernel
theorem dX3_lapsedBy_7 : decode cX3_lapsedBy 7 = .ok (.aload_n 0, 1) := by decide +kernel
theorem dX3_lapsedBy_8 : decode cX3_lapsedBy 8 = .ok (.getfield 25, 3) := by decide +kernel
theorem dX3_lapsedBy_11 : decode cX3_lapsedBy 11 = .ok (.iload_n 1, 1) := by decide +kernel
theorem dX3_lapsedBy_12 : decode cX3_lapsedBy 12 = .ok (.if_icmp .ge 7, 3) := by decide +kernel
theorem dX3_lapsedBy_15 : decode cX3_lapsedBy 15 = .ok (.iconst 1, 1) := by decide +kernel
theorem dX3_lapsedBy_16 : decode cX3_lapsedBy 16 = .ok (.goto 4, 3) := by decide +kernel
theorem dX3_lapsedBy_19 : decode cX3_lapsedBy 19 = .ok (.iconst 0, 1) := by decide +kernel
theorem dX3_lapsedBy_20 : decode cX3_lapsedBy 20 = .ok (.ireturn, 1) := by decide +kernel
theorem dX3_countVersions_0 : decode cX3_countVersions 0 = .ok (.iconst 0, 1) := by decide +kernel
theorem dX3_countVersions_1 : decode cX3_countVersions 1 = .ok (.istore_n 1, 1) := by decide +kernel
theorem dX3_countVersions_2 : decode cX3_countVersions 2 = .ok (.iload_n 1, 1) := by decide +kernel
theorem dX3_countVersions_3 : decode cX3_countVersions 3 = .ok (.aload_n 0, 1) := by decide +kernel
theorem dX3_countVersions_4 : decode cX3_countVersions 4 = .ok (.getfield 32, 3) := by decide +kernel
theorem dX3_countVersions_7 : decode cX3_countVersions 7 = .ok (.arraylength, 1) := by decide +kernel
theorem dX3_countVersions_8 : decode cX3_countVersions 8 = .ok (.if_icmp .ge 20, 3) := by decide +kernel
theorem dX3_countVersions_11 : decode cX3_countVersions 11 = .ok (.aload_n 0, 1) := by decide +kernel
theorem dX3_countVersions_12 : decode cX3_countVersions 12 = .ok (.getfield 32, 3) := by decide +kernel
theorem dX3_countVersions_15 : decode cX3_countVersions 15 = .ok (.iload_n 1, 1) := by decide +kernel
theorem dX3_countVersions_16 : decode cX3_countVersions 16 = .ok (.laload, 1) := by decide +kernel
theorem dX3_countVersions_17 : decode cX3_countVersions 17 = .ok (.lconst 0, 1) := by decide +kernel
theorem dX3_countVersions_18 : decode cX3_countVersions 18 = .ok (.lcmp, 1) := by decide +kernel
theorem dX3_countVersions_19 : decode cX3_countVersions 19 = .ok (.ifCond .eq 9, 3) := by decide +kernel
theorem dX3_countVersions_22 : decode cX3_countVersions 22 = .ok (.iinc 1 1, 3) := by decide +kernel
theorem dX3_countVersions_25 : decode cX3_countVersions 25 = .ok (.goto (-23), 3) := by decide +kernel
theorem dX3_countVersions_28 : decode cX3_countVersions 28 = .ok (.iload_n 1, 1) := by decide +kernel
theorem dX3_countVersions_29 : decode cX3_countVersions 29 = .ok (.ireturn, 1) := by decide +kernel
theorem dX3_firstDay_0 : decode cX3_firstDay 0 = .ok (.aload_n 0, 1) := by decide +kernel
theorem dX3_firstDay_1 : decode cX3_firstDay 1 = .ok (.getfield 28, 3) := by decide +kernel
theorem dX3_firstDay_4 : decode cX3_firstDay 4 = .ok (.iconst 0, 1) := by decide +kernel
theorem dX3_firstDay_5 : decode cX3_firstDay 5 = .ok (.iaload, 1) := by decide +kernel
theorem dX3_firstDay_6 : decode cX3_firstDay 6 = .ok (.ireturn, 1) := by decide +kernel
theorem dX3_latestText_0 : decode cX3_latestText 0 = .ok (.aload_n 0, 1) := by decide +kernel
theorem dX3_latestText_1 : decode cX3_latestText 1 = .ok (.invokevirtual 53, 3) := by decide +kernel
theorem dX3_latestText_4 : decode cX3_latestText 4 = .ok (.istore_n 1, 1) := by decide +kernel
theorem dX3_latestText_5 : decode cX3_latestText 5 = .ok (.iload_n 1, 1) := by decide +kernel
theorem dX3_latestText_6 : decode cX3_latestText 6 = .ok (.iconst 1, 1) := by decide +kernel
theorem dX3_latestText_7 : decode cX3_latestText 7 = .ok (.if_icmp .ge 7, 3) := by decide +kernel
theorem dX3_latestText_10 : decode cX3_latestText 10 = .ok (.lconst 0, 1) := by decide +kernel
theorem dX3_latestText_11 : decode cX3_latestText 11 = .ok (.goto 11, 3) := by decide +kernel
theorem dX3_latestText_14 : decode cX3_latestText 14 = .ok (.aload_n 0, 1) := by decide +kernel
theorem dX3_latestText_15 : decode cX3_latestText 15 = .ok (.getfield 32, 3) := by decide +kernel
theorem dX3_latestText_18 : decode cX3_latestText 18 = .ok (.iload_n 1, 1) := by decide +kernel
theorem dX3_latestText_19 : decode cX3_latestText 19 = .ok (.iconst 1, 1) := by decide +kernel
theorem dX3_latestText_20 : decode cX3_latestText 20 = .ok (.isub, 1) := by decide +kernel
theorem dX3_latestText_21 : decode cX3_latestText 21 = .ok (.laload, 1) := by decide +kernel
theorem dX3_latestText_22 : decode cX3_latestText 22 = .ok (.lreturn, 1) := by decide +kernel
theorem dX3_textOnDay_0 : decode cX3_textOnDay 0 = .ok (.aload_n 0, 1) := by decide +kernel
theorem dX3_textOnDay_1 : decode cX3_textOnDay 1 = .ok (.invokevirtual 53, 3) := by decide +kernel
theorem dX3_textOnDay_4 : decode cX3_textOnDay 4 = .ok (.istore_n 2, 1) := by decide +kernel
theorem dX3_textOnDay_5 : decode cX3_textOnDay 5 = .ok (.lconst 0, 1) := by decide +kernel
theorem dX3_textOnDay_6 : decode cX3_textOnDay 6 = .ok (.lstore_n 3, 1) := by decide +kernel
theorem dX3_textOnDay_7 : decode cX3_textOnDay 7 = .ok (.iconst 0, 1) := by decide +kernel
theorem dX3_textOnDay_8 : decode cX3_textOnDay 8 = .ok (.istore 5, 2) := by decide +kernel
theorem dX3_textOnDay_10 : decode cX3_textOnDay 10 = .ok (.iload 5, 2) := by decide +kernel
theorem dX3_textOnDay_12 : decode cX3_textOnDay 12 = .ok (.iload_n 2, 1) := by decide +kernel
theorem dX3_textOnDay_13 : decode cX3_textOnDay 13 = .ok (.if_icmp .ge 28, 3) := by decide +kernel
theorem dX3_textOnDay_16 : decode cX3_textOnDay 16 = .ok (.aload_n 0, 1) := by decide +kernel
theorem dX3_textOnDay_17 : decode cX3_textOnDay 17 = .ok (.getfield 28, 3) := by decide +kernel
theorem dX3_textOnDay_20 : decode cX3_textOnDay 20 = .ok (.iload 5, 2) := by decide +kernel
theorem dX3_textOnDay_22 : decode cX3_textOnDay 22 = .ok (.iaload, 1) := by decide +kernel
theorem dX3_textOnDay_23 : decode cX3_textOnDay 23 = .ok (.iload_n 1, 1) := by decide +kernel
theorem dX3_textOnDay_24 : decode cX3_textOnDay 24 = .ok (.if_icmp .gt 11, 3) := by decide +kernel
theorem dX3_textOnDay_27 : decode cX3_textOnDay 27 = .ok (.aload_n 0, 1) := by decide +kernel
theorem dX3_textOnDay_28 : decode cX3_textOnDay 28 = .ok (.getfield 32, 3) := by decide +kernel
theorem dX3_textOnDay_31 : decode cX3_textOnDay 31 = .ok (.iload 5, 2) := by decide +kernel
theorem dX3_textOnDay_33 : decode cX3_textOnDay 33 = .ok (.laload, 1) := by decide +kernel
theorem dX3_textOnDay_34 : decode cX3_textOnDay 34 = .ok (.lstore_n 3, 1) := by decide +kernel
theorem dX3_textOnDay_35 : decode cX3_textOnDay 35 = .ok (.iinc 5 1, 3) := by decide +kernel
theorem dX3_textOnDay_38 : decode cX3_textOnDay 38 = .ok (.goto (-28), 3) := by decide +kernel
theorem dX3_textOnDay_41 : decode cX3_textOnDay 41 = .ok (.lload_n 3, 1) := by decide +kernel
theorem dX3_textOnDay_42 : decode cX3_textOnDay 42 = .ok (.lreturn, 1) := by decide +kernel
theorem dX3_hasRoomForVersion_0 : decode cX3_hasRoomForVersion 0 = .ok (.aload_n 0, 1) := by decide +kernel
theorem dX3_hasRoomForVersion_1 : decode cX3_hasRoomForVersion 1 = .ok (.invokevirtual 53, 3) := by decide +kernel
theorem dX3_hasRoomForVersion_4 : decode cX3_hasRoomForVersion 4 = .ok (.bipush 8, 2) := by decide +kernel
theorem dX3_hasRoomForVersion_6 : decode cX3_hasRoomForVersion 6 = .ok (.if_icmp .ge 7, 3) := by decide +kernel
theorem dX3_hasRoomForVersion_9 : decode cX3_hasRoomForVersion 9 = .ok (.iconst 1, 1) := by decide +kernel
theorem dX3_hasRoomForVersion_10 : decode cX3_hasRoomForVersion 10 = .ok (.goto 4, 3) := by decide +kernel
theorem dX3_hasRoomForVersion_13 : decode cX3_hasRoomForVersion 13 = .ok (.iconst 0, 1) := by decide +kernel
theorem dX3_hasRoomForVersion_14 : decode cX3_hasRoomForVersion 14 = .ok (.ireturn, 1) := by decide +kernel
theorem dX3_addVersion_0 : decode cX3_addVersion 0 = .ok (.aload_n 0, 1) := by decide +kernel
theorem dX3_addVersion_1 : decode cX3_addVersion 1 = .ok (.invokevirtual 53, 3) := by decide +kernel
theorem dX3_addVersion_4 : decode cX3_addVersion 4 = .ok (.istore 4, 2) := by decide +kernel
theorem dX3_addVersion_6 : decode cX3_addVersion 6 = .ok (.iload 4, 2) := by decide +kernel
theorem dX3_addVersion_8 : decode cX3_addVersion 8 = .ok (.bipush 8, 2) := by decide +kernel
theorem dX3_addVersion_10 : decode cX3_addVersion 10 = .ok (.if_icmp .ge 19, 3) := by decide +kernel
theorem dX3_addVersion_13 : decode cX3_addVersion 13 = .ok (.aload_n 0, 1) := by decide +kernel
theorem dX3_addVersion_14 : decode cX3_addVersion 14 = .ok (.getfield 28, 3) := by decide +kernel
theorem dX3_addVersion_17 : decode cX3_addVersion 17 = .ok (.iload 4, 2) := by decide +kernel
theorem dX3_addVersion_19 : decode cX3_addVersion 19 = .ok (.iload_n 1, 1) := by decide +kernel
theorem dX3_addVersion_20 : decode cX3_addVersion 20 = .ok (.iastore, 1) := by decide +kernel
theorem dX3_addVersion_21 : decode cX3_addVersion 21 = .ok (.aload_n 0, 1) := by decide +kernel
theorem dX3_addVersion_22 : decode cX3_addVersion 22 = .ok (.getfield 32, 3) := by decide +kernel
theorem dX3_addVersion_25 : decode cX3_addVersion 25 = .ok (.iload 4, 2) := by decide +kernel
theorem dX3_addVersion_27 : decode cX3_addVersion 27 = .ok (.lload_n 2, 1) := by decide +kernel
theorem dX3_addVersion_28 : decode cX3_addVersion 28 = .ok (.lastore, 1) := by decide +kernel
theorem dX3_addVersion_29 : decode cX3_addVersion 29 = .ok (.return_, 1) := by decide +kernel
theorem dX3_keepLastVersion_0 : decode cX3_keepLastVersion 0 = .ok (.aload_n 0, 1) := by decide +kernel
theorem dX3_keepLastVersion_1 : decode cX3_keepLastVersion 1 = .ok (.invokevirtual 53, 3) := by decide +kernel
theorem dX3_keepLastVersion_4 : decode cX3_keepLastVersion 4 = .ok (.istore_n 1, 1) := by decide +kernel
theorem dX3_keepLastVersion_5 : decode cX3_keepLastVersion 5 = .ok (.iload_n 1, 1) := by decide +kernel
theorem dX3_keepLastVersion_6 : decode cX3_keepLastVersion 6 = .ok (.ifCond .le 23, 3) := by decide +kernel
theorem dX3_keepLastVersion_9 : decode cX3_keepLastVersion 9 = .ok (.aload_n 0, 1) := by decide +kernel
theorem dX3_keepLastVersion_10 : decode cX3_keepLastVersion 10 = .ok (.aload_n 0, 1) := by decide +kernel
theorem dX3_keepLastVersion_11 : decode cX3_keepLastVersion 11 = .ok (.getfield 28, 3) := by decide +kernel
theorem dX3_keepLastVersion_14 : decode cX3_keepLastVersion 14 = .ok (.iload_n 1, 1) := by decide +kernel
theorem dX3_keepLastVersion_15 : decode cX3_keepLastVersion 15 = .ok (.iconst 1, 1) := by decide +kernel
theorem dX3_keepLastVersion_16 : decode cX3_keepLastVersion 16 = .ok (.isub, 1) := by decide +kernel
theorem dX3_keepLastVersion_17 : decode cX3_keepLastVersion 17 = .ok (.iaload, 1) := by decide +kernel
theorem dX3_keepLastVersion_18 : decode cX3_keepLastVersion 18 = .ok (.aload_n 0, 1) := by decide +kernel
theorem dX3_keepLastVersion_19 : decode cX3_keepLastVersion 19 = .ok (.getfield 32, 3) := by decide +kernel
theorem dX3_keepLastVersion_22 : decode cX3_keepLastVersion 22 = .ok (.iload_n 1, 1) := by decide +kernel
theorem dX3_keepLastVersion_23 : decode cX3_keepLastVersion 23 = .ok (.iconst 1, 1) := by decide +kernel
theorem dX3_keepLastVersion_24 : decode cX3_keepLastVersion 24 = .ok (.isub, 1) := by decide +kernel
theorem dX3_keepLastVersion_25 : decode cX3_keepLastVersion 25 = .ok (.laload, 1) := by decide +kernel
theorem dX3_keepLastVersion_26 : decode cX3_keepLastVersion 26 = .ok (.invokevirtual 45, 3) := by decide +kernel
theorem dX3_keepLastVersion_29 : decode cX3_keepLastVersion 29 = .ok (.return_, 1) := by decide +kernel
theorem dX3_keepOnly_0 : decode cX3_keepOnly 0 = .ok (.iconst 0, 1) := by decide +kernel
theorem dX3_keepOnly_1 : decode cX3_keepOnly 1 = .ok (.istore 4, 2) := by decide +kernel
theorem dX3_keepOnly_3 : decode cX3_keepOnly 3 = .ok (.iload 4, 2) := by decide +kernel
theorem dX3_keepOnly_5 : decode cX3_keepOnly 5 = .ok (.aload_n 0, 1) := by decide +kernel
theorem dX3_keepOnly_6 : decode cX3_keepOnly 6 = .ok (.getfield 32, 3) := by decide +kernel
theorem dX3_keepOnly_9 : decode cX3_keepOnly 9 = .ok (.arraylength, 1) := by decide +kernel
theorem dX3_keepOnly_10 : decode cX3_keepOnly 10 = .ok (.if_icmp .ge 17, 3) := by decide +kernel
theorem dX3_keepOnly_13 : decode cX3_keepOnly 13 = .ok (.aload_n 0, 1) := by decide +kernel
theorem dX3_keepOnly_14 : decode cX3_keepOnly 14 = .ok (.getfield 32, 3) := by decide +kernel
theorem dX3_keepOnly_17 : decode cX3_keepOnly 17 = .ok (.iload 4, 2) := by decide +kernel
theorem dX3_keepOnly_19 : decode cX3_keepOnly 19 = .ok (.lconst 0, 1) := by decide +kernel
theorem dX3_keepOnly_20 : decode cX3_keepOnly 20 = .ok (.lastore, 1) := by decide +kernel
theorem dX3_keepOnly_21 : decode cX3_keepOnly 21 = .ok (.iinc 4 1, 3) := by decide +kernel
theorem dX3_keepOnly_24 : decode cX3_keepOnly 24 = .ok (.goto (-21), 3) := by decide +kernel
theorem dX3_keepOnly_27 : decode cX3_keepOnly 27 = .ok (.aload_n 0, 1) := by decide +kernel
theorem dX3_keepOnly_28 : decode cX3_keepOnly 28 = .ok (.getfield 28, 3) := by decide +kernel
theorem dX3_keepOnly_31 : decode cX3_keepOnly 31 = .ok (.iconst 0, 1) := by decide +kernel
theorem dX3_keepOnly_32 : decode cX3_keepOnly 32 = .ok (.iload_n 1, 1) := by decide +kernel
theorem dX3_keepOnly_33 : decode cX3_keepOnly 33 = .ok (.iastore, 1) := by decide +kernel
theorem dX3_keepOnly_34 : decode cX3_keepOnly 34 = .ok (.aload_n 0, 1) := by decide +kernel
theorem dX3_keepOnly_35 : decode cX3_keepOnly 35 = .ok (.getfield 32, 3) := by decide +kernel
theorem dX3_keepOnly_38 : decode cX3_keepOnly 38 = .ok (.iconst 0, 1) := by decide +kernel
theorem dX3_keepOnly_39 : decode cX3_keepOnly 39 = .ok (.lload_n 2, 1) := by decide +kernel
theorem dX3_keepOnly_40 : decode cX3_keepOnly 40 = .ok (.lastore, 1) := by decide +kernel
theorem dX3_keepOnly_41 : decode cX3_keepOnly 41 = .ok (.return_, 1) := by decide +kernel
theorem dX3_countCites_0 : decode cX3_countCites 0 = .ok (.iconst 0, 1) := by decide +kernel
theorem dX3_countCites_1 : decode cX3_countCites 1 = .ok (.istore_n 1, 1) := by decide +kernel
theorem dX3_countCites_2 : decode cX3_countCites 2 = .ok (.iload_n 1, 1) := by decide +kernel
theorem dX3_countCites_3 : decode cX3_countCites 3 = .ok (.aload_n 0, 1) := by decide +kernel
theorem dX3_countCites_4 : decode cX3_countCites 4 = .ok (.getfield 36, 3) := by decide +kernel
theorem dX3_countCites_7 : decode cX3_countCites 7 = .ok (.arraylength, 1) := by decide +kernel
theorem dX3_countCites_8 : decode cX3_countCites 8 = .ok (.if_icmp .ge 19, 3) := by decide +kernel
theorem dX3_countCites_11 : decode cX3_countCites 11 = .ok (.aload_n 0, 1) := by decide +kernel
theorem dX3_countCites_12 : decode cX3_countCites 12 = .ok (.getfield 36, 3) := by decide +kernel
theorem dX3_countCites_15 : decode cX3_countCites 15 = .ok (.iload_n 1, 1) := by decide +kernel
theorem dX3_countCites_16 : decode cX3_countCites 16 = .ok (.iaload, 1) := by decide +kernel
theorem dX3_countCites_17 : decode cX3_countCites 17 = .ok (.iconst (-1), 1) := by decide +kernel
theorem dX3_countCites_18 : decode cX3_countCites 18 = .ok (.if_icmp .eq 9, 3) := by decide +kernel
theorem dX3_countCites_21 : decode cX3_countCites 21 = .ok (.iinc 1 1, 3) := by decide +kernel
theorem dX3_countCites_24 : decode cX3_countCites 24 = .ok (.goto (-22), 3) := by decide +kernel
theorem dX3_countCites_27 : decode cX3_countCites 27 = .ok (.iload_n 1, 1) := by decide +kernel
theorem dX3_countCites_28 : decode cX3_countCites 28 = .ok (.ireturn, 1) := by decide +kernel
theorem dX3_citeAtPlace_0 : decode cX3_citeAtPlace 0 = .ok (.iload_n 1, 1) := by decide +kernel
theorem dX3_citeAtPlace_1 : decode cX3_citeAtPlace 1 = .ok (.ifCond .lt 12, 3) := by decide +kernel
theorem dX3_citeAtPlace_4 : decode cX3_citeAtPlace 4 = .ok (.iload_n 1, 1) := by decide +kernel
theorem dX3_citeAtPlace_5 : decode cX3_citeAtPlace 5 = .ok (.aload_n 0, 1) := by decide +kernel
theorem dX3_citeAtPlace_6 : decode cX3_citeAtPlace 6 = .ok (.getfield 36, 3) := by decide +kernel
theorem dX3_citeAtPlace_9 : decode cX3_citeAtPlace 9 = .ok (.arraylength, 1) := by decide +kernel
theorem dX3_citeAtPlace_10 : decode cX3_citeAtPlace 10 = .ok (.if_icmp .lt 7, 3) := by decide +kernel
theorem dX3_citeAtPlace_13 : decode cX3_citeAtPlace 13 = .ok (.iconst (-1), 1) := by decide +kernel
theorem dX3_citeAtPlace_14 : decode cX3_citeAtPlace 14 = .ok (.goto 9, 3) := by decide +kernel
theorem dX3_citeAtPlace_17 : decode cX3_citeAtPlace 17 = .ok (.aload_n 0, 1) := by decide +kernel
theorem dX3_citeAtPlace_18 : decode cX3_citeAtPlace 18 = .ok (.getfield 36, 3) := by decide +kernel
theorem dX3_citeAtPlace_21 : decode cX3_citeAtPlace 21 = .ok (.iload_n 1, 1) := by decide +kernel
theorem dX3_citeAtPlace_22 : decode cX3_citeAtPlace 22 = .ok (.iaload, 1) := by decide +kernel
theorem dX3_citeAtPlace_23 : decode cX3_citeAtPlace 23 = .ok (.ireturn, 1) := by decide +kernel
theorem dX3_citesId_0 : decode cX3_citesId 0 = .ok (.aload_n 0, 1) := by decide +kernel
theorem dX3_citesId_1 : decode cX3_citesId 1 = .ok (.iload_n 1, 1) := by decide +kernel
theorem dX3_citesId_2 : decode cX3_citesId 2 = .ok (.invokevirtual 57, 3) := by decide +kernel
theorem dX3_citesId_5 : decode cX3_citesId 5 = .ok (.iconst (-1), 1) := by decide +kernel
theorem dX3_citesId_6 : decode cX3_citesId 6 = .ok (.if_icmp .eq 7, 3) := by decide +kernel
theorem dX3_citesId_9 : decode cX3_citesId 9 = .ok (.iconst 1, 1) := by decide +kernel
theorem dX3_citesId_10 : decode cX3_citesId 10 = .ok (.goto 4, 3) := by decide +kernel
theorem dX3_citesId_13 : decode cX3_citesId 13 = .ok (.iconst 0, 1) := by decide +kernel
theorem dX3_citesId_14 : decode cX3_citesId 14 = .ok (.ireturn, 1) := by decide +kernel
theorem dX3_addCite_0 : decode cX3_addCite 0 = .ok (.aload_n 0, 1) := by decide +kernel
theorem dX3_addCite_1 : decode cX3_addCite 1 = .ok (.invokevirtual 61, 3) := by decide +kernel
theorem dX3_addCite_4 : decode cX3_addCite 4 = .ok (.istore_n 2, 1) := by decide +kernel
theorem dX3_addCite_5 : decode cX3_addCite 5 = .ok (.iload_n 2, 1) := by decide +kernel
theorem dX3_addCite_6 : decode cX3_addCite 6 = .ok (.aload_n 0, 1) := by decide +kernel
theorem dX3_addCite_7 : decode cX3_addCite 7 = .ok (.getfield 36, 3) := by decide +kernel
theorem dX3_addCite_10 : decode cX3_addCite 10 = .ok (.arraylength, 1) := by decide +kernel
theorem dX3_addCite_11 : decode cX3_addCite 11 = .ok (.if_icmp .ge 10, 3) := by decide +kernel
theorem dX3_addCite_14 : decode cX3_addCite 14 = .ok (.aload_n 0, 1) := by decide +kernel
theorem dX3_addCite_15 : decode cX3_addCite 15 = .ok (.getfield 36, 3) := by decide +kernel
theorem dX3_addCite_18 : decode cX3_addCite 18 = .ok (.iload_n 2, 1) := by decide +kernel
theorem dX3_addCite_19 : decode cX3_addCite 19 = .ok (.iload_n 1, 1) := by decide +kernel
theorem dX3_addCite_20 : decode cX3_addCite 20 = .ok (.iastore, 1) := by decide +kernel
theorem dX3_addCite_21 : decode cX3_addCite 21 = .ok (.return_, 1) := by decide +kernel
theorem dX3_removeCite_0 : decode cX3_removeCite 0 = .ok (.aload_n 0, 1) := by decide +kernel
theorem dX3_removeCite_1 : decode cX3_removeCite 1 = .ok (.iload_n 1, 1) := by decide +kernel
theorem dX3_removeCite_2 : decode cX3_removeCite 2 = .ok (.invokevirtual 57, 3) := by decide +kernel
theorem dX3_removeCite_5 : decode cX3_removeCite 5 = .ok (.istore_n 2, 1) := by decide +kernel
theorem dX3_removeCite_6 : decode cX3_removeCite 6 = .ok (.iload_n 2, 1) := by decide +kernel
theorem dX3_removeCite_7 : decode cX3_removeCite 7 = .ok (.iconst (-1), 1) := by decide +kernel
theorem dX3_removeCite_8 : decode cX3_removeCite 8 = .ok (.if_icmp .ne 4, 3) := by decide +kernel
theorem dX3_removeCite_11 : decode cX3_removeCite 11 = .ok (.return_, 1) := by decide +kernel
theorem dX3_removeCite_12 : decode cX3_removeCite 12 = .ok (.iload_n 2, 1) := by decide +kernel
theorem dX3_removeCite_13 : decode cX3_removeCite 13 = .ok (.istore_n 3, 1) := by decide +kernel
theorem dX3_removeCite_14 : decode cX3_removeCite 14 = .ok (.iload_n 3, 1) := by decide +kernel
theorem dX3_removeCite_15 : decode cX3_removeCite 15 = .ok (.iconst 1, 1) := by decide +kernel
theorem dX3_removeCite_16 : decode cX3_removeCite 16 = .ok (.iadd, 1) := by decide +kernel
theorem dX3_removeCite_17 : decode cX3_removeCite 17 = .ok (.aload_n 0, 1) := by decide +kernel
theorem dX3_removeCite_18 : decode cX3_removeCite 18 = .ok (.getfield 36, 3) := by decide +kernel
theorem dX3_removeCite_21 : decode cX3_removeCite 21 = .ok (.arraylength, 1) := by decide +kernel
theorem dX3_removeCite_22 : decode cX3_removeCite 22 = .ok (.if_icmp .ge 23, 3) := by decide +kernel
theorem dX3_removeCite_25 : decode cX3_removeCite 25 = .ok (.aload_n 0, 1) := by decide +kernel
theorem dX3_removeCite_26 : decode cX3_removeCite 26 = .ok (.getfield 36, 3) := by decide +kernel
theorem dX3_removeCite_29 : decode cX3_removeCite 29 = .ok (.iload_n 3, 1) := by decide +kernel
theorem dX3_removeCite_30 : decode cX3_removeCite 30 = .ok (.aload_n 0, 1) := by decide +kernel
theorem dX3_removeCite_31 : decode cX3_removeCite 31 = .ok (.getfield 36, 3) := by decide +kernel
theorem dX3_removeCite_34 : decode cX3_removeCite 34 = .ok (.iload_n 3, 1) := by decide +kernel
theorem dX3_removeCite_35 : decode cX3_removeCite 35 = .ok (.iconst 1, 1) := by decide +kernel
theorem dX3_removeCite_36 : decode cX3_removeCite 36 = .ok (.iadd, 1) := by decide +kernel
theorem dX3_removeCite_37 : decode cX3_removeCite 37 = .ok (.iaload, 1) := by decide +kernel
theorem dX3_removeCite_38 : decode cX3_removeCite 38 = .ok (.iastore, 1) := by decide +kernel
theorem dX3_removeCite_39 : decode cX3_removeCite 39 = .ok (.iinc 3 1, 3) := by decide +kernel
theorem dX3_removeCite_42 : decode cX3_removeCite 42 = .ok (.goto (-28), 3) := by decide +kernel
theorem dX3_removeCite_45 : decode cX3_removeCite 45 = .ok (.aload_n 0, 1) := by decide +kernel
theorem dX3_removeCite_46 : decode cX3_removeCite 46 = .ok (.getfield 36, 3) := by decide +kernel
theorem dX3_removeCite_49 : decode cX3_removeCite 49 = .ok (.aload_n 0, 1) := by decide +kernel
theorem dX3_removeCite_50 : decode cX3_removeCite 50 = .ok (.getfield 36, 3) := by decide +kernel
theorem dX3_removeCite_53 : decode cX3_removeCite 53 = .ok (.arraylength, 1) := by decide +kernel
theorem dX3_removeCite_54 : decode cX3_removeCite 54 = .ok (.iconst 1, 1) := by decide +kernel
theorem dX3_removeCite_55 : decode cX3_removeCite 55 = .ok (.isub, 1) := by decide +kernel
theorem dX3_removeCite_56 : decode cX3_removeCite 56 = .ok (.iconst (-1), 1) := by decide +kernel
theorem dX3_removeCite_57 : decode cX3_removeCite 57 = .ok (.iastore, 1) := by decide +kernel
theorem dX3_removeCite_58 : decode cX3_removeCite 58 = .ok (.return_, 1) := by decide +kernel
theorem dX3_placeOfCite_0 : decode cX3_placeOfCite 0 = .ok (.aload_n 0, 1) := by decide +kernel
theorem dX3_placeOfCite_1 : decode cX3_placeOfCite 1 = .ok (.invokevirtual 61, 3) := by decide +kernel
theorem dX3_placeOfCite_4 : decode cX3_placeOfCite 4 = .ok (.istore_n 2, 1) := by decide +kernel
theorem dX3_placeOfCite_5 : decode cX3_placeOfCite 5 = .ok (.iconst 0, 1) := by decide +kernel
theorem dX3_placeOfCite_6 : decode cX3_placeOfCite 6 = .ok (.istore_n 3, 1) := by decide +kernel
theorem dX3_placeOfCite_7 : decode cX3_placeOfCite 7 = .ok (.iload_n 3, 1) := by decide +kernel
theorem dX3_placeOfCite_8 : decode cX3_placeOfCite 8 = .ok (.iload_n 2, 1) := by decide +kernel
theorem dX3_placeOfCite_9 : decode cX3_placeOfCite 9 = .ok (.if_icmp .ge 21, 3) := by decide +kernel
theorem dX3_placeOfCite_12 : decode cX3_placeOfCite 12 = .ok (.aload_n 0, 1) := by decide +kernel
theorem dX3_placeOfCite_13 : decode cX3_placeOfCite 13 = .ok (.getfield 36, 3) := by decide +kernel
theorem dX3_placeOfCite_16 : decode cX3_placeOfCite 16 = .ok (.iload_n 3, 1) := by decide +kernel
theorem dX3_placeOfCite_17 : decode cX3_placeOfCite 17 = .ok (.iaload, 1) := by decide +kernel
theorem dX3_placeOfCite_18 : decode cX3_placeOfCite 18 = .ok (.iload_n 1, 1) := by decide +kernel
theorem dX3_placeOfCite_19 : decode cX3_placeOfCite 19 = .ok (.if_icmp .ne 5, 3) := by decide +kernel
theorem dX3_placeOfCite_22 : decode cX3_placeOfCite 22 = .ok (.iload_n 3, 1) := by decide +kernel
theorem dX3_placeOfCite_23 : decode cX3_placeOfCite 23 = .ok (.ireturn, 1) := by decide +kernel
theorem dX3_placeOfCite_24 : decode cX3_placeOfCite 24 = .ok (.iinc 3 1, 3) := by decide +kernel
theorem dX3_placeOfCite_27 : decode cX3_placeOfCite 27 = .ok (.goto (-20), 3) := by decide +kernel
theorem dX3_placeOfCite_30 : decode cX3_placeOfCite 30 = .ok (.iconst (-1), 1) := by decide +kernel
theorem dX3_placeOfCite_31 : decode cX3_placeOfCite 31 = .ok (.ireturn, 1) := by decide +kernel
theorem dX4_init_0 : decode cX4_init 0 = .ok (.aload_n 0, 1) := by decide +kernel
theorem dX4_init_1 : decode cX4_init 1 = .ok (.invokespecial 1, 3) := by decide +kernel
theorem dX4_init_4 : decode cX4_init 4 = .ok (.aload_n 0, 1) := by decide +kernel
theorem dX4_init_5 : decode cX4_init 5 = .ok (.getstatic 7, 3) := by decide +kernel
theorem dX4_init_8 : decode cX4_init 8 = .ok (.putfield 13, 3) := by decide +kernel
theorem dX4_init_11 : decode cX4_init 11 = .ok (.aload_n 0, 1) := by decide +kernel
theorem dX4_init_12 : decode cX4_init 12 = .ok (.iconst 0, 1) := by decide +kernel
theorem dX4_init_13 : decode cX4_init 13 = .ok (.putfield 18, 3) := by decide +kernel
theorem dX4_init_16 : decode cX4_init 16 = .ok (.aload_n 0, 1) := by decide +kernel
theorem dX4_init_17 : decode cX4_init 17 = .ok (.iconst 0, 1) := by decide +kernel
theorem dX4_init_18 : decode cX4_init 18 = .ok (.putfield 22, 3) := by decide +kernel
theorem dX4_init_21 : decode cX4_init 21 = .ok (.aload_n 0, 1) := by decide +kernel
theorem dX4_init_22 : decode cX4_init 22 = .ok (.bipush 97, 2) := by decide +kernel
theorem dX4_init_24 : decode cX4_init 24 = .ok (.putfield 25, 3) := by decide +kernel
theorem dX4_init_27 : decode cX4_init 27 = .ok (.return_, 1) := by decide +kernel
theorem dX4_applyTo_0 : decode cX4_applyTo 0 = .ok (.getstatic 29, 3) := by decide +kernel
theorem dX4_applyTo_3 : decode cX4_applyTo 3 = .ok (.aload_n 0, 1) := by decide +kernel
theorem dX4_applyTo_4 : decode cX4_applyTo 4 = .ok (.getfield 13, 3) := by decide +kernel
theorem dX4_applyTo_7 : decode cX4_applyTo 7 = .ok (.invokevirtual 35, 3) := by decide +kernel
theorem dX4_applyTo_10 : decode cX4_applyTo 10 = .ok (.iaload, 1) := by decide +kernel
theorem dX4_applyTo_11 : decode cX4_applyTo 11 = .ok (.tableswitch 166 1 9 #[49, 62, 79, 96, 109, 122, 135, 148, 157], 49) := by decide +kernel
theorem dX4_applyTo_60 : decode cX4_applyTo 60 = .ok (.aload_n 1, 1) := by decide +kernel
theorem dX4_applyTo_61 : decode cX4_applyTo 61 = .ok (.aload_n 0, 1) := by decide +kernel
theorem dX4_applyTo_62 : decode cX4_applyTo 62 = .ok (.getfield 18, 3) := by decide +kernel
theorem dX4_applyTo_65 : decode cX4_applyTo 65 = .ok (.aload_n 0, 1) := by decide +kernel
theorem dX4_applyTo_66 : decode cX4_applyTo 66 = .ok (.getfield 25, 3) := by decide +kernel
theorem dX4_applyTo_69 : decode cX4_applyTo 69 = .ok (.invokevirtual 39, 3) := by decide +kernel
theorem dX4_applyTo_72 : decode cX4_applyTo 72 = .ok (.ireturn, 1) := by decide +kernel
theorem dX4_applyTo_73 : decode cX4_applyTo 73 = .ok (.aload_n 1, 1) := by decide +kernel
theorem dX4_applyTo_74 : decode cX4_applyTo 74 = .ok (.aload_n 0, 1) := by decide +kernel
theorem dX4_applyTo_75 : decode cX4_applyTo 75 = .ok (.getfield 18, 3) := by decide +kernel
theorem dX4_applyTo_78 : decode cX4_applyTo 78 = .ok (.aload_n 0, 1) := by decide +kernel
theorem dX4_applyTo_79 : decode cX4_applyTo 79 = .ok (.getfield 22, 3) := by decide +kernel
theorem dX4_applyTo_82 : decode cX4_applyTo 82 = .ok (.aload_n 0, 1) := by decide +kernel
theorem dX4_applyTo_83 : decode cX4_applyTo 83 = .ok (.getfield 25, 3) := by decide +kernel
theorem dX4_applyTo_86 : decode cX4_applyTo 86 = .ok (.invokevirtual 45, 3) := by decide +kernel
theorem dX4_applyTo_89 : decode cX4_applyTo 89 = .ok (.ireturn, 1) := by decide +kernel
theorem dX4_applyTo_90 : decode cX4_applyTo 90 = .ok (.aload_n 1, 1) := by decide +kernel
theorem dX4_applyTo_91 : decode cX4_applyTo 91 = .ok (.aload_n 0, 1) := by decide +kernel
theorem dX4_applyTo_92 : decode cX4_applyTo 92 = .ok (.getfield 18, 3) := by decide +kernel
theorem dX4_applyTo_95 : decode cX4_applyTo 95 = .ok (.aload_n 0, 1) := by decide +kernel
theorem dX4_applyTo_96 : decode cX4_applyTo 96 = .ok (.getfield 22, 3) := by decide +kernel
theorem dX4_applyTo_99 : decode cX4_applyTo 99 = .ok (.aload_n 0, 1) := by decide +kernel
theorem dX4_applyTo_100 : decode cX4_applyTo 100 = .ok (.getfield 25, 3) := by decide +kernel
theorem dX4_applyTo_103 : decode cX4_applyTo 103 = .ok (.invokevirtual 49, 3) := by decide +kernel
theorem dX4_applyTo_106 : decode cX4_applyTo 106 = .ok (.ireturn, 1) := by decide +kernel
theorem dX4_applyTo_107 : decode cX4_applyTo 107 = .ok (.aload_n 1, 1) := by decide +kernel
theorem dX4_applyTo_108 : decode cX4_applyTo 108 = .ok (.aload_n 0, 1) := by decide +kernel
theorem dX4_applyTo_109 : decode cX4_applyTo 109 = .ok (.getfield 18, 3) := by decide +kernel
theorem dX4_applyTo_112 : decode cX4_applyTo 112 = .ok (.aload_n 0, 1) := by decide +kernel
theorem dX4_applyTo_113 : decode cX4_applyTo 113 = .ok (.getfield 22, 3) := by decide +kernel
theorem dX4_applyTo_116 : decode cX4_applyTo 116 = .ok (.invokevirtual 52, 3) := by decide +kernel
theorem dX4_applyTo_119 : decode cX4_applyTo 119 = .ok (.ireturn, 1) := by decide +kernel
theorem dX4_applyTo_120 : decode cX4_applyTo 120 = .ok (.aload_n 1, 1) := by decide +kernel
theorem dX4_applyTo_121 : decode cX4_applyTo 121 = .ok (.aload_n 0, 1) := by decide +kernel
theorem dX4_applyTo_122 : decode cX4_applyTo 122 = .ok (.getfield 18, 3) := by decide +kernel
theorem dX4_applyTo_125 : decode cX4_applyTo 125 = .ok (.aload_n 0, 1) := by decide +kernel
theorem dX4_applyTo_126 : decode cX4_applyTo 126 = .ok (.getfield 22, 3) := by decide +kernel
theorem dX4_applyTo_129 : decode cX4_applyTo 129 = .ok (.invokevirtual 56, 3) := by decide +kernel
theorem dX4_applyTo_132 : decode cX4_applyTo 132 = .ok (.ireturn, 1) := by decide +kernel
theorem dX4_applyTo_133 : decode cX4_applyTo 133 = .ok (.aload_n 1, 1) := by decide +kernel
theorem dX4_applyTo_134 : decode cX4_applyTo 134 = .ok (.aload_n 0, 1) := by decide +kernel
theorem dX4_applyTo_135 : decode cX4_applyTo 135 = .ok (.getfield 18, 3) := by decide +kernel
theorem dX4_applyTo_138 : decode cX4_applyTo 138 = .ok (.aload_n 0, 1) := by decide +kernel
theorem dX4_applyTo_139 : decode cX4_applyTo 139 = .ok (.getfield 22, 3) := by decide +kernel
theorem dX4_applyTo_142 : decode cX4_applyTo 142 = .ok (.invokevirtual 59, 3) := by decide +kernel
theorem dX4_applyTo_145 : decode cX4_applyTo 145 = .ok (.ireturn, 1) := by decide +kernel
theorem dX4_applyTo_146 : decode cX4_applyTo 146 = .ok (.aload_n 1, 1) := by decide +kernel
theorem dX4_applyTo_147 : decode cX4_applyTo 147 = .ok (.aload_n 0, 1) := by decide +kernel
theorem dX4_applyTo_148 : decode cX4_applyTo 148 = .ok (.getfield 18, 3) := by decide +kernel
theorem dX4_applyTo_151 : decode cX4_applyTo 151 = .ok (.aload_n 0, 1) := by decide +kernel
theorem dX4_applyTo_152 : decode cX4_applyTo 152 = .ok (.getfield 22, 3) := by decide +kernel
theorem dX4_applyTo_155 : decode cX4_applyTo 155 = .ok (.invokevirtual 62, 3) := by decide +kernel
theorem dX4_applyTo_158 : decode cX4_applyTo 158 = .ok (.ireturn, 1) := by decide +kernel
theorem dX4_applyTo_159 : decode cX4_applyTo 159 = .ok (.aload_n 1, 1) := by decide +kernel
theorem dX4_applyTo_160 : decode cX4_applyTo 160 = .ok (.aload_n 0, 1) := by decide +kernel
theorem dX4_applyTo_161 : decode cX4_applyTo 161 = .ok (.getfield 18, 3) := by decide +kernel
theorem dX4_applyTo_164 : decode cX4_applyTo 164 = .ok (.invokevirtual 65, 3) := by decide +kernel
theorem dX4_applyTo_167 : decode cX4_applyTo 167 = .ok (.ireturn, 1) := by decide +kernel
theorem dX4_applyTo_168 : decode cX4_applyTo 168 = .ok (.aload_n 1, 1) := by decide +kernel
theorem dX4_applyTo_169 : decode cX4_applyTo 169 = .ok (.aload_n 0, 1) := by decide +kernel
theorem dX4_applyTo_170 : decode cX4_applyTo 170 = .ok (.getfield 18, 3) := by decide +kernel
theorem dX4_applyTo_173 : decode cX4_applyTo 173 = .ok (.invokevirtual 69, 3) := by decide +kernel
theorem dX4_applyTo_176 : decode cX4_applyTo 176 = .ok (.ireturn, 1) := by decide +kernel
theorem dX4_applyTo_177 : decode cX4_applyTo 177 = .ok (.aload_n 1, 1) := by decide +kernel
theorem dX4_applyTo_178 : decode cX4_applyTo 178 = .ok (.invokevirtual 72, 3) := by decide +kernel
theorem dX4_applyTo_181 : decode cX4_applyTo 181 = .ok (.ireturn, 1) := by decide +kernel
theorem dX5_init_0 : decode cX5_init 0 = .ok (.aload_n 0, 1) := by decide +kernel
theorem dX5_init_1 : decode cX5_init 1 = .ok (.invokespecial 3, 3) := by decide +kernel
theorem dX5_init_4 : decode cX5_init 4 = .ok (.aload_n 0, 1) := by decide +kernel
theorem dX5_init_5 : decode cX5_init 5 = .ok (.bipush 13, 2) := by decide +kernel
theorem dX5_init_7 : decode cX5_init 7 = .ok (.bipush 13, 2) := by decide +kernel
theorem dX5_init_9 : decode cX5_init 9 = .ok (.multianewarray 9 2, 4) := by decide +kernel
theorem dX5_init_13 : decode cX5_init 13 = .ok (.putfield 11, 3) := by decide +kernel
theorem dX5_init_16 : decode cX5_init 16 = .ok (.return_, 1) := by decide +kernel
theorem dX5_byBeginnings_0 : decode cX5_byBeginnings 0 = .ok (.lload_n 1, 1) := by decide +kernel
theorem dX5_byBeginnings_1 : decode cX5_byBeginnings 1 = .ok (.invokestatic 16, 3) := by decide +kernel
theorem dX5_byBeginnings_4 : decode cX5_byBeginnings 4 = .ok (.istore 5, 2) := by decide +kernel
theorem dX5_byBeginnings_6 : decode cX5_byBeginnings 6 = .ok (.lload_n 3, 1) := by decide +kernel
theorem dX5_byBeginnings_7 : decode cX5_byBeginnings 7 = .ok (.invokestatic 16, 3) := by decide +kernel
theorem dX5_byBeginnings_10 : decode cX5_byBeginnings 10 = .ok (.istore 6, 2) := by decide +kernel
theorem dX5_byBeginnings_12 : decode cX5_byBeginnings 12 = .ok (.iconst 0, 1) := by decide +kernel
theorem dX5_byBeginnings_13 : decode cX5_byBeginnings 13 = .ok (.istore 7, 2) := by decide +kernel
theorem dX5_byBeginnings_15 : decode cX5_byBeginnings 15 = .ok (.iload 7, 2) := by decide +kernel
theorem dX5_byBeginnings_17 : decode cX5_byBeginnings 17 = .ok (.iload 5, 2) := by decide +kernel
theorem dX5_byBeginnings_19 : decode cX5_byBeginnings 19 = .ok (.if_icmp .gt 138, 3) := by decide +kernel
theorem dX5_byBeginnings_22 : decode cX5_byBeginnings 22 = .ok (.iconst 0, 1) := by decide +kernel
theorem dX5_byBeginnings_23 : decode cX5_byBeginnings 23 = .ok (.istore 8, 2) := by decide +kernel
theorem dX5_byBeginnings_25 : decode cX5_byBeginnings 25 = .ok (.iload 8, 2) := by decide +kernel
theorem dX5_byBeginnings_27 : decode cX5_byBeginnings 27 = .ok (.iload 6, 2) := by decide +kernel
theorem dX5_byBeginnings_29 : decode cX5_byBeginnings 29 = .ok (.if_icmp .gt 122, 3) := by decide +kernel
theorem dX5_byBeginnings_32 : decode cX5_byBeginnings 32 = .ok (.iload 7, 2) := by decide +kernel
theorem dX5_byBeginnings_34 : decode cX5_byBeginnings 34 = .ok (.ifCond .eq 8, 3) := by decide +kernel
theorem dX5_byBeginnings_37 : decode cX5_byBeginnings 37 = .ok (.iload 8, 2) := by decide +kernel
theorem dX5_byBeginnings_39 : decode cX5_byBeginnings 39 = .ok (.ifCond .ne 21, 3) := by decide +kernel
theorem dX5_byBeginnings_42 : decode cX5_byBeginnings 42 = .ok (.aload_n 0, 1) := by decide +kernel
theorem dX5_byBeginnings_43 : decode cX5_byBeginnings 43 = .ok (.getfield 11, 3) := by decide +kernel
theorem dX5_byBeginnings_46 : decode cX5_byBeginnings 46 = .ok (.iload 7, 2) := by decide +kernel
theorem dX5_byBeginnings_48 : decode cX5_byBeginnings 48 = .ok (.aaload, 1) := by decide +kernel
theorem dX5_byBeginnings_49 : decode cX5_byBeginnings 49 = .ok (.iload 8, 2) := by decide +kernel
theorem dX5_byBeginnings_51 : decode cX5_byBeginnings 51 = .ok (.iload 7, 2) := by decide +kernel
theorem dX5_byBeginnings_53 : decode cX5_byBeginnings 53 = .ok (.iload 8, 2) := by decide +kernel
theorem dX5_byBeginnings_55 : decode cX5_byBeginnings 55 = .ok (.iadd, 1) := by decide +kernel
theorem dX5_byBeginnings_56 : decode cX5_byBeginnings 56 = .ok (.iastore, 1) := by decide +kernel
theorem dX5_byBeginnings_57 : decode cX5_byBeginnings 57 = .ok (.goto 88, 3) := by decide +kernel
theorem dX5_byBeginnings_60 : decode cX5_byBeginnings 60 = .ok (.lload_n 1, 1) := by decide +kernel
theorem dX5_byBeginnings_61 : decode cX5_byBeginnings 61 = .ok (.iload 7, 2) := by decide +kernel
theorem dX5_byBeginnings_63 : decode cX5_byBeginnings 63 = .ok (.iconst 1, 1) := by decide +kernel
theorem dX5_byBeginnings_64 : decode cX5_byBeginnings 64 = .ok (.isub, 1) := by decide +kernel
theorem dX5_byBeginnings_65 : decode cX5_byBeginnings 65 = .ok (.invokestatic 22, 3) := by decide +kernel
theorem dX5_byBeginnings_68 : decode cX5_byBeginnings 68 = .ok (.lload_n 3, 1) := by decide +kernel
theorem dX5_byBeginnings_69 : decode cX5_byBeginnings 69 = .ok (.iload 8, 2) := by decide +kernel
theorem dX5_byBeginnings_71 : decode cX5_byBeginnings 71 = .ok (.iconst 1, 1) := by decide +kernel
theorem dX5_byBeginnings_72 : decode cX5_byBeginnings 72 = .ok (.isub, 1) := by decide +kernel
theorem dX5_byBeginnings_73 : decode cX5_byBeginnings 73 = .ok (.invokestatic 22, 3) := by decide +kernel
theorem dX5_byBeginnings_76 : decode cX5_byBeginnings 76 = .ok (.if_icmp .ne 30, 3) := by decide +kernel
theorem dX5_byBeginnings_79 : decode cX5_byBeginnings 79 = .ok (.aload_n 0, 1) := by decide +kernel
theorem dX5_byBeginnings_80 : decode cX5_byBeginnings 80 = .ok (.getfield 11, 3) := by decide +kernel
theorem dX5_byBeginnings_83 : decode cX5_byBeginnings 83 = .ok (.iload 7, 2) := by decide +kernel
theorem dX5_byBeginnings_85 : decode cX5_byBeginnings 85 = .ok (.aaload, 1) := by decide +kernel
theorem dX5_byBeginnings_86 : decode cX5_byBeginnings 86 = .ok (.iload 8, 2) := by decide +kernel
theorem dX5_byBeginnings_88 : decode cX5_byBeginnings 88 = .ok (.aload_n 0, 1) := by decide +kernel
theorem dX5_byBeginnings_89 : decode cX5_byBeginnings 89 = .ok (.getfield 11, 3) := by decide +kernel
theorem dX5_byBeginnings_92 : decode cX5_byBeginnings 92 = .ok (.iload 7, 2) := by decide +kernel
theorem dX5_byBeginnings_94 : decode cX5_byBeginnings 94 = .ok (.iconst 1, 1) := by decide +kernel
theorem dX5_byBeginnings_95 : decode cX5_byBeginnings 95 = .ok (.isub, 1) := by decide +kernel
theorem dX5_byBeginnings_96 : decode cX5_byBeginnings 96 = .ok (.aaload, 1) := by decide +kernel
theorem dX5_byBeginnings_97 : decode cX5_byBeginnings 97 = .ok (.iload 8, 2) := by decide +kernel
theorem dX5_byBeginnings_99 : decode cX5_byBeginnings 99 = .ok (.iconst 1, 1) := by decide +kernel
theorem dX5_byBeginnings_100 : decode cX5_byBeginnings 100 = .ok (.isub, 1) := by decide +kernel
theorem dX5_byBeginnings_101 : decode cX5_byBeginnings 101 = .ok (.iaload, 1) := by decide +kernel
theorem dX5_byBeginnings_102 : decode cX5_byBeginnings 102 = .ok (.iastore, 1) := by decide +kernel
theorem dX5_byBeginnings_103 : decode cX5_byBeginnings 103 = .ok (.goto 42, 3) := by decide +kernel
theorem dX5_byBeginnings_106 : decode cX5_byBeginnings 106 = .ok (.aload_n 0, 1) := by decide +kernel
theorem dX5_byBeginnings_107 : decode cX5_byBeginnings 107 = .ok (.getfield 11, 3) := by decide +kernel
theorem dX5_byBeginnings_110 : decode cX5_byBeginnings 110 = .ok (.iload 7, 2) := by decide +kernel
theorem dX5_byBeginnings_112 : decode cX5_byBeginnings 112 = .ok (.aaload, 1) := by decide +kernel
theorem dX5_byBeginnings_113 : decode cX5_byBeginnings 113 = .ok (.iload 8, 2) := by decide +kernel
theorem dX5_byBeginnings_115 : decode cX5_byBeginnings 115 = .ok (.iconst 1, 1) := by decide +kernel
theorem dX5_byBeginnings_116 : decode cX5_byBeginnings 116 = .ok (.aload_n 0, 1) := by decide +kernel
theorem dX5_byBeginnings_117 : decode cX5_byBeginnings 117 = .ok (.getfield 11, 3) := by decide +kernel
theorem dX5_byBeginnings_120 : decode cX5_byBeginnings 120 = .ok (.iload 7, 2) := by decide +kernel
theorem dX5_byBeginnings_122 : decode cX5_byBeginnings 122 = .ok (.iconst 1, 1) := by decide +kernel
theorem dX5_byBeginnings_123 : decode cX5_byBeginnings 123 = .ok (.isub, 1) := by decide +kernel
theorem dX5_byBeginnings_124 : decode cX5_byBeginnings 124 = .ok (.aaload, 1) := by decide +kernel
theorem dX5_byBeginnings_125 : decode cX5_byBeginnings 125 = .ok (.iload 8, 2) := by decide +kernel
theorem dX5_byBeginnings_127 : decode cX5_byBeginnings 127 = .ok (.iaload, 1) := by decide +kernel
theorem dX5_byBeginnings_128 : decode cX5_byBeginnings 128 = .ok (.aload_n 0, 1) := by decide +kernel
theorem dX5_byBeginnings_129 : decode cX5_byBeginnings 129 = .ok (.getfield 11, 3) := by decide +kernel
theorem dX5_byBeginnings_132 : decode cX5_byBeginnings 132 = .ok (.iload 7, 2) := by decide +kernel
theorem dX5_byBeginnings_134 : decode cX5_byBeginnings 134 = .ok (.aaload, 1) := by decide +kernel
theorem dX5_byBeginnings_135 : decode cX5_byBeginnings 135 = .ok (.iload 8, 2) := by decide +kernel
theorem dX5_byBeginnings_137 : decode cX5_byBeginnings 137 = .ok (.iconst 1, 1) := by decide +kernel
theorem dX5_byBeginnings_138 : decode cX5_byBeginnings 138 = .ok (.isub, 1) := by decide +kernel
theorem dX5_byBeginnings_139 : decode cX5_byBeginnings 139 = .ok (.iaload, 1) := by decide +kernel
theorem dX5_byBeginnings_140 : decode cX5_byBeginnings 140 = .ok (.invokestatic 26, 3) := by decide +kernel
theorem dX5_byBeginnings_143 : decode cX5_byBeginnings 143 = .ok (.iadd, 1) := by decide +kernel
theorem dX5_byBeginnings_144 : decode cX5_byBeginnings 144 = .ok (.iastore, 1) := by decide +kernel
theorem dX5_byBeginnings_145 : decode cX5_byBeginnings 145 = .ok (.iinc 8 1, 3) := by decide +kernel
theorem dX5_byBeginnings_148 : decode cX5_byBeginnings 148 = .ok (.goto (-123), 3) := by decide +kernel
theorem dX5_byBeginnings_151 : decode cX5_byBeginnings 151 = .ok (.iinc 7 1, 3) := by decide +kernel
theorem dX5_byBeginnings_154 : decode cX5_byBeginnings 154 = .ok (.goto (-139), 3) := by decide +kernel
theorem dX5_byBeginnings_157 : decode cX5_byBeginnings 157 = .ok (.aload_n 0, 1) := by decide +kernel
theorem dX5_byBeginnings_158 : decode cX5_byBeginnings 158 = .ok (.getfield 11, 3) := by decide +kernel
theorem dX5_byBeginnings_161 : decode cX5_byBeginnings 161 = .ok (.iload 5, 2) := by decide +kernel
theorem dX5_byBeginnings_163 : decode cX5_byBeginnings 163 = .ok (.aaload, 1) := by decide +kernel
theorem dX5_byBeginnings_164 : decode cX5_byBeginnings 164 = .ok (.iload 6, 2) := by decide +kernel
theorem dX5_byBeginnings_166 : decode cX5_byBeginnings 166 = .ok (.iaload, 1) := by decide +kernel
theorem dX5_byBeginnings_167 : decode cX5_byBeginnings 167 = .ok (.ireturn, 1) := by decide +kernel
theorem dX5_byEnds_0 : decode cX5_byEnds 0 = .ok (.lload_n 1, 1) := by decide +kernel
theorem dX5_byEnds_1 : decode cX5_byEnds 1 = .ok (.invokestatic 16, 3) := by decide +kernel
theorem dX5_byEnds_4 : decode cX5_byEnds 4 = .ok (.istore 5, 2) := by decide +kernel
theorem dX5_byEnds_6 : decode cX5_byEnds 6 = .ok (.lload_n 3, 1) := by decide +kernel
theorem dX5_byEnds_7 : decode cX5_byEnds 7 = .ok (.invokestatic 16, 3) := by decide +kernel
theorem dX5_byEnds_10 : decode cX5_byEnds 10 = .ok (.istore 6, 2) := by decide +kernel
theorem dX5_byEnds_12 : decode cX5_byEnds 12 = .ok (.iload 5, 2) := by decide +kernel
theorem dX5_byEnds_14 : decode cX5_byEnds 14 = .ok (.istore 7, 2) := by decide +kernel
theorem dX5_byEnds_16 : decode cX5_byEnds 16 = .ok (.iload 7, 2) := by decide +kernel
theorem dX5_byEnds_18 : decode cX5_byEnds 18 = .ok (.ifCond .lt 143, 3) := by decide +kernel
theorem dX5_byEnds_21 : decode cX5_byEnds 21 = .ok (.iload 6, 2) := by decide +kernel
theorem dX5_byEnds_23 : decode cX5_byEnds 23 = .ok (.istore 8, 2) := by decide +kernel
theorem dX5_byEnds_25 : decode cX5_byEnds 25 = .ok (.iload 8, 2) := by decide +kernel
theorem dX5_byEnds_27 : decode cX5_byEnds 27 = .ok (.ifCond .lt 128, 3) := by decide +kernel
theorem dX5_byEnds_30 : decode cX5_byEnds 30 = .ok (.iload 7, 2) := by decide +kernel
theorem dX5_byEnds_32 : decode cX5_byEnds 32 = .ok (.iload 5, 2) := by decide +kernel
theorem dX5_byEnds_34 : decode cX5_byEnds 34 = .ok (.if_icmp .eq 10, 3) := by decide +kernel
theorem dX5_byEnds_37 : decode cX5_byEnds 37 = .ok (.iload 8, 2) := by decide +kernel
theorem dX5_byEnds_39 : decode cX5_byEnds 39 = .ok (.iload 6, 2) := by decide +kernel
theorem dX5_byEnds_41 : decode cX5_byEnds 41 = .ok (.if_icmp .ne 27, 3) := by decide +kernel
theorem dX5_byEnds_44 : decode cX5_byEnds 44 = .ok (.aload_n 0, 1) := by decide +kernel
theorem dX5_byEnds_45 : decode cX5_byEnds 45 = .ok (.getfield 11, 3) := by decide +kernel
theorem dX5_byEnds_48 : decode cX5_byEnds 48 = .ok (.iload 7, 2) := by decide +kernel
theorem dX5_byEnds_50 : decode cX5_byEnds 50 = .ok (.aaload, 1) := by decide +kernel
theorem dX5_byEnds_51 : decode cX5_byEnds 51 = .ok (.iload 8, 2) := by decide +kernel
theorem dX5_byEnds_53 : decode cX5_byEnds 53 = .ok (.iload 5, 2) := by decide +kernel
theorem dX5_byEnds_55 : decode cX5_byEnds 55 = .ok (.iload 7, 2) := by decide +kernel
theorem dX5_byEnds_57 : decode cX5_byEnds 57 = .ok (.isub, 1) := by decide +kernel
theorem dX5_byEnds_58 : decode cX5_byEnds 58 = .ok (.iload 6, 2) := by decide +kernel
theorem dX5_byEnds_60 : decode cX5_byEnds 60 = .ok (.iadd, 1) := by decide +kernel
theorem dX5_byEnds_61 : decode cX5_byEnds 61 = .ok (.iload 8, 2) := by decide +kernel
theorem dX5_byEnds_63 : decode cX5_byEnds 63 = .ok (.isub, 1) := by decide +kernel
theorem dX5_byEnds_64 : decode cX5_byEnds 64 = .ok (.iastore, 1) := by decide +kernel
theorem dX5_byEnds_65 : decode cX5_byEnds 65 = .ok (.goto 84, 3) := by decide +kernel
theorem dX5_byEnds_68 : decode cX5_byEnds 68 = .ok (.lload_n 1, 1) := by decide +kernel
theorem dX5_byEnds_69 : decode cX5_byEnds 69 = .ok (.iload 7, 2) := by decide +kernel
theorem dX5_byEnds_71 : decode cX5_byEnds 71 = .ok (.invokestatic 22, 3) := by decide +kernel
theorem dX5_byEnds_74 : decode cX5_byEnds 74 = .ok (.lload_n 3, 1) := by decide +kernel
theorem dX5_byEnds_75 : decode cX5_byEnds 75 = .ok (.iload 8, 2) := by decide +kernel
theorem dX5_byEnds_77 : decode cX5_byEnds 77 = .ok (.invokestatic 22, 3) := by decide +kernel
theorem dX5_byEnds_80 : decode cX5_byEnds 80 = .ok (.if_icmp .ne 30, 3) := by decide +kernel
theorem dX5_byEnds_83 : decode cX5_byEnds 83 = .ok (.aload_n 0, 1) := by decide +kernel
theorem dX5_byEnds_84 : decode cX5_byEnds 84 = .ok (.getfield 11, 3) := by decide +kernel
theorem dX5_byEnds_87 : decode cX5_byEnds 87 = .ok (.iload 7, 2) := by decide +kernel
theorem dX5_byEnds_89 : decode cX5_byEnds 89 = .ok (.aaload, 1) := by decide +kernel
theorem dX5_byEnds_90 : decode cX5_byEnds 90 = .ok (.iload 8, 2) := by decide +kernel
theorem dX5_byEnds_92 : decode cX5_byEnds 92 = .ok (.aload_n 0, 1) := by decide +kernel
theorem dX5_byEnds_93 : decode cX5_byEnds 93 = .ok (.getfield 11, 3) := by decide +kernel
theorem dX5_byEnds_96 : decode cX5_byEnds 96 = .ok (.iload 7, 2) := by decide +kernel
theorem dX5_byEnds_98 : decode cX5_byEnds 98 = .ok (.iconst 1, 1) := by decide +kernel
theorem dX5_byEnds_99 : decode cX5_byEnds 99 = .ok (.iadd, 1) := by decide +kernel
theorem dX5_byEnds_100 : decode cX5_byEnds 100 = .ok (.aaload, 1) := by decide +kernel
theorem dX5_byEnds_101 : decode cX5_byEnds 101 = .ok (.iload 8, 2) := by decide +kernel
theorem dX5_byEnds_103 : decode cX5_byEnds 103 = .ok (.iconst 1, 1) := by decide +kernel
theorem dX5_byEnds_104 : decode cX5_byEnds 104 = .ok (.iadd, 1) := by decide +kernel
theorem dX5_byEnds_105 : decode cX5_byEnds 105 = .ok (.iaload, 1) := by decide +kernel
theorem dX5_byEnds_106 : decode cX5_byEnds 106 = .ok (.iastore, 1) := by decide +kernel
theorem dX5_byEnds_107 : decode cX5_byEnds 107 = .ok (.goto 42, 3) := by decide +kernel
theorem dX5_byEnds_110 : decode cX5_byEnds 110 = .ok (.aload_n 0, 1) := by decide +kernel
theorem dX5_byEnds_111 : decode cX5_byEnds 111 = .ok (.getfield 11, 3) := by decide +kernel
theorem dX5_byEnds_114 : decode cX5_byEnds 114 = .ok (.iload 7, 2) := by decide +kernel
theorem dX5_byEnds_116 : decode cX5_byEnds 116 = .ok (.aaload, 1) := by decide +kernel
theorem dX5_byEnds_117 : decode cX5_byEnds 117 = .ok (.iload 8, 2) := by decide +kernel
theorem dX5_byEnds_119 : decode cX5_byEnds 119 = .ok (.iconst 1, 1) := by decide +kernel
theorem dX5_byEnds_120 : decode cX5_byEnds 120 = .ok (.aload_n 0, 1) := by decide +kernel
theorem dX5_byEnds_121 : decode cX5_byEnds 121 = .ok (.getfield 11, 3) := by decide +kernel
theorem dX5_byEnds_124 : decode cX5_byEnds 124 = .ok (.iload 7, 2) := by decide +kernel
theorem dX5_byEnds_126 : decode cX5_byEnds 126 = .ok (.iconst 1, 1) := by decide +kernel
theorem dX5_byEnds_127 : decode cX5_byEnds 127 = .ok (.iadd, 1) := by decide +kernel
theorem dX5_byEnds_128 : decode cX5_byEnds 128 = .ok (.aaload, 1) := by decide +kernel
theorem dX5_byEnds_129 : decode cX5_byEnds 129 = .ok (.iload 8, 2) := by decide +kernel
theorem dX5_byEnds_131 : decode cX5_byEnds 131 = .ok (.iaload, 1) := by decide +kernel
theorem dX5_byEnds_132 : decode cX5_byEnds 132 = .ok (.aload_n 0, 1) := by decide +kernel
theorem dX5_byEnds_133 : decode cX5_byEnds 133 = .ok (.getfield 11, 3) := by decide +kernel
theorem dX5_byEnds_136 : decode cX5_byEnds 136 = .ok (.iload 7, 2) := by decide +kernel
theorem dX5_byEnds_138 : decode cX5_byEnds 138 = .ok (.aaload, 1) := by decide +kernel
theorem dX5_byEnds_139 : decode cX5_byEnds 139 = .ok (.iload 8, 2) := by decide +kernel
theorem dX5_byEnds_141 : decode cX5_byEnds 141 = .ok (.iconst 1, 1) := by decide +kernel
theorem dX5_byEnds_142 : decode cX5_byEnds 142 = .ok (.iadd, 1) := by decide +kernel
theorem dX5_byEnds_143 : decode cX5_byEnds 143 = .ok (.iaload, 1) := by decide +kernel
theorem dX5_byEnds_144 : decode cX5_byEnds 144 = .ok (.invokestatic 26, 3) := by decide +kernel
theorem dX5_byEnds_147 : decode cX5_byEnds 147 = .ok (.iadd, 1) := by decide +kernel
theorem dX5_byEnds_148 : decode cX5_byEnds 148 = .ok (.iastore, 1) := by decide +kernel
theorem dX5_byEnds_149 : decode cX5_byEnds 149 = .ok (.iinc 8 (-1), 3) := by decide +kernel
theorem dX5_byEnds_152 : decode cX5_byEnds 152 = .ok (.goto (-127), 3) := by decide +kernel
theorem dX5_byEnds_155 : decode cX5_byEnds 155 = .ok (.iinc 7 (-1), 3) := by decide +kernel
theorem dX5_byEnds_158 : decode cX5_byEnds 158 = .ok (.goto (-142), 3) := by decide +kernel
theorem dX5_byEnds_161 : decode cX5_byEnds 161 = .ok (.aload_n 0, 1) := by decide +kernel
theorem dX5_byEnds_162 : decode cX5_byEnds 162 = .ok (.getfield 11, 3) := by decide +kernel
theorem dX5_byEnds_165 : decode cX5_byEnds 165 = .ok (.iconst 0, 1) := by decide +kernel
theorem dX5_byEnds_166 : decode cX5_byEnds 166 = .ok (.aaload, 1) := by decide +kernel
theorem dX5_byEnds_167 : decode cX5_byEnds 167 = .ok (.iconst 0, 1) := by decide +kernel
theorem dX5_byEnds_168 : decode cX5_byEnds 168 = .ok (.iaload, 1) := by decide +kernel
theorem dX5_byEnds_169 : decode cX5_byEnds 169 = .ok (.ireturn, 1) := by decide +kernel
theorem dX6_init_0 : decode cX6_init 0 = .ok (.aload_n 0, 1) := by decide +kernel
theorem dX6_init_1 : decode cX6_init 1 = .ok (.invokespecial 3, 3) := by decide +kernel
theorem dX6_init_4 : decode cX6_init 4 = .ok (.aload_n 0, 1) := by decide +kernel
theorem dX6_init_5 : decode cX6_init 5 = .ok (.bipush 8, 2) := by decide +kernel
theorem dX6_init_7 : decode cX6_init 7 = .ok (.anewarray 9, 3) := by decide +kernel
theorem dX6_init_10 : decode cX6_init 10 = .ok (.putfield 11, 3) := by decide +kernel
theorem dX6_init_13 : decode cX6_init 13 = .ok (.aload_n 0, 1) := by decide +kernel
theorem dX6_init_14 : decode cX6_init 14 = .ok (.new 9, 3) := by decide +kernel
theorem dX6_init_17 : decode cX6_init 17 = .ok (.dup, 1) := by decide +kernel
theorem dX6_init_18 : decode cX6_init 18 = .ok (.invokespecial 17, 3) := by decide +kernel
theorem dX6_init_21 : decode cX6_init 21 = .ok (.putfield 18, 3) := by decide +kernel
theorem dX6_init_24 : decode cX6_init 24 = .ok (.aload_n 0, 1) := by decide +kernel
theorem dX6_init_25 : decode cX6_init 25 = .ok (.iconst 0, 1) := by decide +kernel
theorem dX6_init_26 : decode cX6_init 26 = .ok (.putfield 22, 3) := by decide +kernel
theorem dX6_init_29 : decode cX6_init 29 = .ok (.aload_n 0, 1) := by decide +kernel
theorem dX6_init_30 : decode cX6_init 30 = .ok (.iconst 0, 1) := by decide +kernel
theorem dX6_init_31 : decode cX6_init 31 = .ok (.putfield 26, 3) := by decide +kernel
theorem dX6_init_34 : decode cX6_init 34 = .ok (.iconst 0, 1) := by decide +kernel
theorem dX6_init_35 : decode cX6_init 35 = .ok (.istore_n 1, 1) := by decide +kernel
theorem dX6_init_36 : decode cX6_init 36 = .ok (.iload_n 1, 1) := by decide +kernel
theorem dX6_init_37 : decode cX6_init 37 = .ok (.aload_n 0, 1) := by decide +kernel
theorem dX6_init_38 : decode cX6_init 38 = .ok (.getfield 11, 3) := by decide +kernel
theorem dX6_init_41 : decode cX6_init 41 = .ok (.arraylength, 1) := by decide +kernel
theorem dX6_init_42 : decode cX6_init 42 = .ok (.if_icmp .ge 22, 3) := by decide +kernel
theorem dX6_init_45 : decode cX6_init 45 = .ok (.aload_n 0, 1) := by decide +kernel
theorem dX6_init_46 : decode cX6_init 46 = .ok (.getfield 11, 3) := by decide +kernel
theorem dX6_init_49 : decode cX6_init 49 = .ok (.iload_n 1, 1) := by decide +kernel
theorem dX6_init_50 : decode cX6_init 50 = .ok (.new 9, 3) := by decide +kernel
theorem dX6_init_53 : decode cX6_init 53 = .ok (.dup, 1) := by decide +kernel
theorem dX6_init_54 : decode cX6_init 54 = .ok (.invokespecial 17, 3) := by decide +kernel
theorem dX6_init_57 : decode cX6_init 57 = .ok (.aastore, 1) := by decide +kernel
theorem dX6_init_58 : decode cX6_init 58 = .ok (.iinc 1 1, 3) := by decide +kernel
theorem dX6_init_61 : decode cX6_init 61 = .ok (.goto (-25), 3) := by decide +kernel
theorem dX6_init_64 : decode cX6_init 64 = .ok (.return_, 1) := by decide +kernel
theorem dX6_open_0 : decode cX6_open 0 = .ok (.aload_n 0, 1) := by decide +kernel
theorem dX6_open_1 : decode cX6_open 1 = .ok (.getfield 18, 3) := by decide +kernel
theorem dX6_open_4 : decode cX6_open 4 = .ok (.aload_n 1, 1) := by decide +kernel
theorem dX6_open_5 : decode cX6_open 5 = .ok (.invokevirtual 29, 3) := by decide +kernel
theorem dX6_open_8 : decode cX6_open 8 = .ok (.return_, 1) := by decide +kernel
theorem dX6_keep_0 : decode cX6_keep 0 = .ok (.aload_n 0, 1) := by decide +kernel
theorem dX6_keep_1 : decode cX6_keep 1 = .ok (.aload_n 0, 1) := by decide +kernel
theorem dX6_keep_2 : decode cX6_keep 2 = .ok (.getfield 22, 3) := by decide +kernel
theorem dX6_keep_5 : decode cX6_keep 5 = .ok (.iconst 1, 1) := by decide +kernel
theorem dX6_keep_6 : decode cX6_keep 6 = .ok (.iadd, 1) := by decide +kernel
theorem dX6_keep_7 : decode cX6_keep 7 = .ok (.bipush 8, 2) := by decide +kernel
theorem dX6_keep_9 : decode cX6_keep 9 = .ok (.invokestatic 33, 3) := by decide +kernel
theorem dX6_keep_12 : decode cX6_keep 12 = .ok (.putfield 22, 3) := by decide +kernel
theorem dX6_keep_15 : decode cX6_keep 15 = .ok (.aload_n 0, 1) := by decide +kernel
theorem dX6_keep_16 : decode cX6_keep 16 = .ok (.getfield 11, 3) := by decide +kernel
theorem dX6_keep_19 : decode cX6_keep 19 = .ok (.aload_n 0, 1) := by decide +kernel
theorem dX6_keep_20 : decode cX6_keep 20 = .ok (.getfield 22, 3) := by decide +kernel
theorem dX6_keep_23 : decode cX6_keep 23 = .ok (.aaload, 1) := by decide +kernel
theorem dX6_keep_24 : decode cX6_keep 24 = .ok (.astore_n 1, 1) := by decide +kernel
theorem dX6_keep_25 : decode cX6_keep 25 = .ok (.aload_n 0, 1) := by decide +kernel
theorem dX6_keep_26 : decode cX6_keep 26 = .ok (.getfield 11, 3) := by decide +kernel
theorem dX6_keep_29 : decode cX6_keep 29 = .ok (.aload_n 0, 1) := by decide +kernel
theorem dX6_keep_30 : decode cX6_keep 30 = .ok (.getfield 22, 3) := by decide +kernel
theorem dX6_keep_33 : decode cX6_keep 33 = .ok (.aload_n 0, 1) := by decide +kernel
theorem dX6_keep_34 : decode cX6_keep 34 = .ok (.getfield 18, 3) := by decide +kernel
theorem dX6_keep_37 : decode cX6_keep 37 = .ok (.aastore, 1) := by decide +kernel
theorem dX6_keep_38 : decode cX6_keep 38 = .ok (.aload_n 0, 1) := by decide +kernel
theorem dX6_keep_39 : decode cX6_keep 39 = .ok (.aload_n 1, 1) := by decide +kernel
theorem dX6_keep_40 : decode cX6_keep 40 = .ok (.putfield 18, 3) := by decide +kernel
theorem dX6_keep_43 : decode cX6_keep 43 = .ok (.aload_n 0, 1) := by decide +kernel
theorem dX6_keep_44 : decode cX6_keep 44 = .ok (.aload_n 0, 1) := by decide +kernel
theorem dX6_keep_45 : decode cX6_keep 45 = .ok (.getfield 26, 3) := by decide +kernel
theorem dX6_keep_48 : decode cX6_keep 48 = .ok (.iconst 1, 1) := by decide +kernel
theorem dX6_keep_49 : decode cX6_keep 49 = .ok (.iadd, 1) := by decide +kernel
theorem dX6_keep_50 : decode cX6_keep 50 = .ok (.bipush 8, 2) := by decide +kernel
theorem dX6_keep_52 : decode cX6_keep 52 = .ok (.invokestatic 39, 3) := by decide +kernel
theorem dX6_keep_55 : decode cX6_keep 55 = .ok (.putfield 26, 3) := by decide +kernel
theorem dX6_keep_58 : decode cX6_keep 58 = .ok (.return_, 1) := by decide +kernel
theorem dX6_abandon_0 : decode cX6_abandon 0 = .ok (.aload_n 1, 1) := by decide +kernel
theorem dX6_abandon_1 : decode cX6_abandon 1 = .ok (.aload_n 0, 1) := by decide +kernel
theorem dX6_abandon_2 : decode cX6_abandon 2 = .ok (.getfield 18, 3) := by decide +kernel
theorem dX6_abandon_5 : decode cX6_abandon 5 = .ok (.invokevirtual 29, 3) := by decide +kernel
theorem dX6_abandon_8 : decode cX6_abandon 8 = .ok (.return_, 1) := by decide +kernel
theorem dX6_stepBack_0 : decode cX6_stepBack 0 = .ok (.aload_n 1, 1) := by decide +kernel
theorem dX6_stepBack_1 : decode cX6_stepBack 1 = .ok (.aload_n 0, 1) := by decide +kernel
theorem dX6_stepBack_2 : decode cX6_stepBack 2 = .ok (.getfield 11, 3) := by decide +kernel
theorem dX6_stepBack_5 : decode cX6_stepBack 5 = .ok (.aload_n 0, 1) := by decide +kernel
theorem dX6_stepBack_6 : decode cX6_stepBack 6 = .ok (.getfield 22, 3) := by decide +kernel
theorem dX6_stepBack_9 : decode cX6_stepBack 9 = .ok (.aaload, 1) := by decide +kernel
theorem dX6_stepBack_10 : decode cX6_stepBack 10 = .ok (.invokevirtual 29, 3) := by decide +kernel
theorem dX6_stepBack_13 : decode cX6_stepBack 13 = .ok (.aload_n 0, 1) := by decide +kernel
theorem dX6_stepBack_14 : decode cX6_stepBack 14 = .ok (.aload_n 0, 1) := by decide +kernel
theorem dX6_stepBack_15 : decode cX6_stepBack 15 = .ok (.getfield 22, 3) := by decide +kernel
theorem dX6_stepBack_18 : decode cX6_stepBack 18 = .ok (.iconst 1, 1) := by decide +kernel
theorem dX6_stepBack_19 : decode cX6_stepBack 19 = .ok (.isub, 1) := by decide +kernel
theorem dX6_stepBack_20 : decode cX6_stepBack 20 = .ok (.bipush 8, 2) := by decide +kernel
theorem dX6_stepBack_22 : decode cX6_stepBack 22 = .ok (.invokestatic 33, 3) := by decide +kernel
theorem dX6_stepBack_25 : decode cX6_stepBack 25 = .ok (.putfield 22, 3) := by decide +kernel
theorem dX6_stepBack_28 : decode cX6_stepBack 28 = .ok (.aload_n 0, 1) := by decide +kernel
theorem dX6_stepBack_29 : decode cX6_stepBack 29 = .ok (.dup, 1) := by decide +kernel
theorem dX6_stepBack_30 : decode cX6_stepBack 30 = .ok (.getfield 26, 3) := by decide +kernel
theorem dX6_stepBack_33 : decode cX6_stepBack 33 = .ok (.iconst 1, 1) := by decide +kernel
theorem dX6_stepBack_34 : decode cX6_stepBack 34 = .ok (.isub, 1) := by decide +kernel
theorem dX6_stepBack_35 : decode cX6_stepBack 35 = .ok (.putfield 26, 3) := by decide +kernel
theorem dX6_stepBack_38 : decode cX6_stepBack 38 = .ok (.return_, 1) := by decide +kernel
theorem dX6_clear_0 : decode cX6_clear 0 = .ok (.aload_n 0, 1) := by decide +kernel
theorem dX6_clear_1 : decode cX6_clear 1 = .ok (.iconst 0, 1) := by decide +kernel
theorem dX6_clear_2 : decode cX6_clear 2 = .ok (.putfield 26, 3) := by decide +kernel
theorem dX6_clear_5 : decode cX6_clear 5 = .ok (.return_, 1) := by decide +kernel
theorem dX8_init_0 : decode cX8_init 0 = .ok (.aload_n 0, 1) := by decide +kernel
theorem dX8_init_1 : decode cX8_init 1 = .ok (.invokespecial 3, 3) := by decide +kernel
theorem dX8_init_4 : decode cX8_init 4 = .ok (.aload_n 0, 1) := by decide +kernel
theorem dX8_init_5 : decode cX8_init 5 = .ok (.new 9, 3) := by decide +kernel
theorem dX8_init_8 : decode cX8_init 8 = .ok (.dup, 1) := by decide +kernel
theorem dX8_init_9 : decode cX8_init 9 = .ok (.invokespecial 11, 3) := by decide +kernel
theorem dX8_init_12 : decode cX8_init 12 = .ok (.putfield 12, 3) := by decide +kernel
theorem dX8_init_15 : decode cX8_init 15 = .ok (.aload_n 0, 1) := by decide +kernel
theorem dX8_init_16 : decode cX8_init 16 = .ok (.bipush 12, 2) := by decide +kernel
theorem dX8_init_18 : decode cX8_init 18 = .ok (.anewarray 18, 3) := by decide +kernel
theorem dX8_init_21 : decode cX8_init 21 = .ok (.putfield 20, 3) := by decide +kernel
theorem dX8_init_24 : decode cX8_init 24 = .ok (.aload_n 0, 1) := by decide +kernel
theorem dX8_init_25 : decode cX8_init 25 = .ok (.iconst 0, 1) := by decide +kernel
theorem dX8_init_26 : decode cX8_init 26 = .ok (.putfield 24, 3) := by decide +kernel
theorem dX8_init_29 : decode cX8_init 29 = .ok (.aload_n 0, 1) := by decide +kernel
theorem dX8_init_30 : decode cX8_init 30 = .ok (.iconst 0, 1) := by decide +kernel
theorem dX8_init_31 : decode cX8_init 31 = .ok (.putfield 28, 3) := by decide +kernel
theorem dX8_init_34 : decode cX8_init 34 = .ok (.iconst 0, 1) := by decide +kernel
theorem dX8_init_35 : decode cX8_init 35 = .ok (.istore_n 1, 1) := by decide +kernel
theorem dX8_init_36 : decode cX8_init 36 = .ok (.iload_n 1, 1) := by decide +kernel
theorem dX8_init_37 : decode cX8_init 37 = .ok (.aload_n 0, 1) := by decide +kernel
theorem dX8_init_38 : decode cX8_init 38 = .ok (.getfield 20, 3) := by decide +kernel
theorem dX8_init_41 : decode cX8_init 41 = .ok (.arraylength, 1) := by decide +kernel
theorem dX8_init_42 : decode cX8_init 42 = .ok (.if_icmp .ge 22, 3) := by decide +kernel
theorem dX8_init_45 : decode cX8_init 45 = .ok (.aload_n 0, 1) := by decide +kernel
theorem dX8_init_46 : decode cX8_init 46 = .ok (.getfield 20, 3) := by decide +kernel
theorem dX8_init_49 : decode cX8_init 49 = .ok (.iload_n 1, 1) := by decide +kernel
theorem dX8_init_50 : decode cX8_init 50 = .ok (.new 18, 3) := by decide +kernel
theorem dX8_init_53 : decode cX8_init 53 = .ok (.dup, 1) := by decide +kernel
theorem dX8_init_54 : decode cX8_init 54 = .ok (.invokespecial 31, 3) := by decide +kernel
theorem dX8_init_57 : decode cX8_init 57 = .ok (.aastore, 1) := by decide +kernel
theorem dX8_init_58 : decode cX8_init 58 = .ok (.iinc 1 1, 3) := by decide +kernel
theorem dX8_init_61 : decode cX8_init 61 = .ok (.goto (-25), 3) := by decide +kernel
theorem dX8_init_64 : decode cX8_init 64 = .ok (.return_, 1) := by decide +kernel
theorem dX8_isFull_0 : decode cX8_isFull 0 = .ok (.aload_n 0, 1) := by decide +kernel
theorem dX8_isFull_1 : decode cX8_isFull 1 = .ok (.getfield 12, 3) := by decide +kernel
theorem dX8_isFull_4 : decode cX8_isFull 4 = .ok (.invokevirtual 32, 3) := by decide +kernel
theorem dX8_isFull_7 : decode cX8_isFull 7 = .ok (.bipush 60, 2) := by decide +kernel
theorem dX8_isFull_9 : decode cX8_isFull 9 = .ok (.if_icmp .lt 7, 3) := by decide +kernel
theorem dX8_isFull_12 : decode cX8_isFull 12 = .ok (.iconst 1, 1) := by decide +kernel
theorem dX8_isFull_13 : decode cX8_isFull 13 = .ok (.goto 4, 3) := by decide +kernel
theorem dX8_isFull_16 : decode cX8_isFull 16 = .ok (.iconst 0, 1) := by decide +kernel
theorem dX8_isFull_17 : decode cX8_isFull 17 = .ok (.ireturn, 1) := by decide +kernel
theorem dX8_append_0 : decode cX8_append 0 = .ok (.aload_n 0, 1) := by decide +kernel
theorem dX8_append_1 : decode cX8_append 1 = .ok (.getfield 12, 3) := by decide +kernel
theorem dX8_append_4 : decode cX8_append 4 = .ok (.iload_n 1, 1) := by decide +kernel
theorem dX8_append_5 : decode cX8_append 5 = .ok (.invokevirtual 36, 3) := by decide +kernel
theorem dX8_append_8 : decode cX8_append 8 = .ok (.pop, 1) := by decide +kernel
theorem dX8_append_9 : decode cX8_append 9 = .ok (.aload_n 0, 1) := by decide +kernel
theorem dX8_append_10 : decode cX8_append 10 = .ok (.getfield 12, 3) := by decide +kernel
theorem dX8_append_13 : decode cX8_append 13 = .ok (.invokevirtual 32, 3) := by decide +kernel
theorem dX8_append_16 : decode cX8_append 16 = .ok (.ireturn, 1) := by decide +kernel
theorem dX8_empty_0 : decode cX8_empty 0 = .ok (.aload_n 0, 1) := by decide +kernel
theorem dX8_empty_1 : decode cX8_empty 1 = .ok (.getfield 12, 3) := by decide +kernel
theorem dX8_empty_4 : decode cX8_empty 4 = .ok (.iconst 0, 1) := by decide +kernel
theorem dX8_empty_5 : decode cX8_empty 5 = .ok (.invokevirtual 40, 3) := by decide +kernel
theorem dX8_empty_8 : decode cX8_empty 8 = .ok (.return_, 1) := by decide +kernel
theorem dX8_applyTo_0 : decode cX8_applyTo 0 = .ok (.iconst 0, 1) := by decide +kernel
theorem dX8_applyTo_1 : decode cX8_applyTo 1 = .ok (.istore_n 2, 1) := by decide +kernel
theorem dX8_applyTo_2 : decode cX8_applyTo 2 = .ok (.iload_n 2, 1) := by decide +kernel
theorem dX8_applyTo_3 : decode cX8_applyTo 3 = .ok (.aload_n 0, 1) := by decide +kernel
theorem dX8_applyTo_4 : decode cX8_applyTo 4 = .ok (.getfield 24, 3) := by decide +kernel
theorem dX8_applyTo_7 : decode cX8_applyTo 7 = .ok (.if_icmp .ge 33, 3) := by decide +kernel
theorem dX8_applyTo_10 : decode cX8_applyTo 10 = .ok (.iload_n 2, 1) := by decide +kernel
theorem dX8_applyTo_11 : decode cX8_applyTo 11 = .ok (.aload_n 0, 1) := by decide +kernel
theorem dX8_applyTo_12 : decode cX8_applyTo 12 = .ok (.getfield 20, 3) := by decide +kernel
theorem dX8_applyTo_15 : decode cX8_applyTo 15 = .ok (.arraylength, 1) := by decide +kernel
theorem dX8_applyTo_16 : decode cX8_applyTo 16 = .ok (.if_icmp .ge 24, 3) := by decide +kernel
theorem dX8_applyTo_19 : decode cX8_applyTo 19 = .ok (.aload_n 0, 1) := by decide +kernel
theorem dX8_applyTo_20 : decode cX8_applyTo 20 = .ok (.getfield 20, 3) := by decide +kernel
theorem dX8_applyTo_23 : decode cX8_applyTo 23 = .ok (.iload_n 2, 1) := by decide +kernel
theorem dX8_applyTo_24 : decode cX8_applyTo 24 = .ok (.aaload, 1) := by decide +kernel
theorem dX8_applyTo_25 : decode cX8_applyTo 25 = .ok (.aload_n 1, 1) := by decide +kernel
theorem dX8_applyTo_26 : decode cX8_applyTo 26 = .ok (.invokevirtual 44, 3) := by decide +kernel
theorem dX8_applyTo_29 : decode cX8_applyTo 29 = .ok (.ifCond .ge 5, 3) := by decide +kernel
theorem dX8_applyTo_32 : decode cX8_applyTo 32 = .ok (.iload_n 2, 1) := by decide +kernel
theorem dX8_applyTo_33 : decode cX8_applyTo 33 = .ok (.ireturn, 1) := by decide +kernel
theorem dX8_applyTo_34 : decode cX8_applyTo 34 = .ok (.iinc 2 1, 3) := by decide +kernel
theorem dX8_applyTo_37 : decode cX8_applyTo 37 = .ok (.goto (-35), 3) := by decide +kernel
theorem dX8_applyTo_40 : decode cX8_applyTo 40 = .ok (.iconst (-1), 1) := by decide +kernel
theorem dX8_applyTo_41 : decode cX8_applyTo 41 = .ok (.ireturn, 1) := by decide +kernel
theorem dX8_read_0 : decode cX8_read 0 = .ok (.aload_n 0, 1) := by decide +kernel
theorem dX8_read_1 : decode cX8_read 1 = .ok (.iconst 0, 1) := by decide +kernel
theorem dX8_read_2 : decode cX8_read 2 = .ok (.putfield 28, 3) := by decide +kernel
theorem dX8_read_5 : decode cX8_read 5 = .ok (.aload_n 0, 1) := by decide +kernel
theorem dX8_read_6 : decode cX8_read 6 = .ok (.iconst 0, 1) := by decide +kernel
theorem dX8_read_7 : decode cX8_read 7 = .ok (.putfield 24, 3) := by decide +kernel
theorem dX8_read_10 : decode cX8_read 10 = .ok (.aload_n 0, 1) := by decide +kernel
theorem dX8_read_11 : decode cX8_read 11 = .ok (.getfield 20, 3) := by decide +kernel
theorem dX8_read_14 : decode cX8_read 14 = .ok (.astore_n 1, 1) := by decide +kernel
theorem dX8_read_15 : decode cX8_read 15 = .ok (.aload_n 1, 1) := by decide +kernel
theorem dX8_read_16 : decode cX8_read 16 = .ok (.arraylength, 1) := by decide +kernel
theorem dX8_read_17 : decode cX8_read 17 = .ok (.istore_n 2, 1) := by decide +kernel
theorem dX8_read_18 : decode cX8_read 18 = .ok (.iconst 0, 1) := by decide +kernel
theorem dX8_read_19 : decode cX8_read 19 = .ok (.istore_n 3, 1) := by decide +kernel
theorem dX8_read_20 : decode cX8_read 20 = .ok (.iload_n 3, 1) := by decide +kernel
theorem dX8_read_21 : decode cX8_read 21 = .ok (.iload_n 2, 1) := by decide +kernel
theorem dX8_read_22 : decode cX8_read 22 = .ok (.if_icmp .ge 71, 3) := by decide +kernel
theorem dX8_read_25 : decode cX8_read 25 = .ok (.aload_n 1, 1) := by decide +kernel
theorem dX8_read_26 : decode cX8_read 26 = .ok (.iload_n 3, 1) := by decide +kernel
theorem dX8_read_27 : decode cX8_read 27 = .ok (.aaload, 1) := by decide +kernel
theorem dX8_read_28 : decode cX8_read 28 = .ok (.astore 4, 2) := by decide +kernel
theorem dX8_read_30 : decode cX8_read 30 = .ok (.aload_n 0, 1) := by decide +kernel
theorem dX8_read_31 : decode cX8_read 31 = .ok (.aload 4, 2) := by decide +kernel
theorem dX8_read_33 : decode cX8_read 33 = .ok (.invokevirtual 48, 3) := by decide +kernel
theorem dX8_read_36 : decode cX8_read 36 = .ok (.ifCond .eq 12, 3) := by decide +kernel
theorem dX8_read_39 : decode cX8_read 39 = .ok (.aload_n 0, 1) := by decide +kernel
theorem dX8_read_40 : decode cX8_read 40 = .ok (.aload 4, 2) := by decide +kernel
theorem dX8_read_42 : decode cX8_read 42 = .ok (.invokevirtual 52, 3) := by decide +kernel
theorem dX8_read_45 : decode cX8_read 45 = .ok (.ifCond .ne 5, 3) := by decide +kernel
theorem dX8_read_48 : decode cX8_read 48 = .ok (.iconst 0, 1) := by decide +kernel
theorem dX8_read_49 : decode cX8_read 49 = .ok (.ireturn, 1) := by decide +kernel
theorem dX8_read_50 : decode cX8_read 50 = .ok (.aload_n 0, 1) := by decide +kernel
theorem dX8_read_51 : decode cX8_read 51 = .ok (.dup, 1) := by decide +kernel
theorem dX8_read_52 : decode cX8_read 52 = .ok (.getfield 24, 3) := by decide +kernel
theorem dX8_read_55 : decode cX8_read 55 = .ok (.iconst 1, 1) := by decide +kernel
theorem dX8_read_56 : decode cX8_read 56 = .ok (.iadd, 1) := by decide +kernel
theorem dX8_read_57 : decode cX8_read 57 = .ok (.putfield 24, 3) := by decide +kernel
theorem dX8_read_60 : decode cX8_read 60 = .ok (.aload_n 0, 1) := by decide +kernel
theorem dX8_read_61 : decode cX8_read 61 = .ok (.getfield 28, 3) := by decide +kernel
theorem dX8_read_64 : decode cX8_read 64 = .ok (.aload_n 0, 1) := by decide +kernel
theorem dX8_read_65 : decode cX8_read 65 = .ok (.getfield 12, 3) := by decide +kernel
theorem dX8_read_68 : decode cX8_read 68 = .ok (.invokevirtual 32, 3) := by decide +kernel
theorem dX8_read_71 : decode cX8_read 71 = .ok (.if_icmp .ne 5, 3) := by decide +kernel
theorem dX8_read_74 : decode cX8_read 74 = .ok (.iconst 1, 1) := by decide +kernel
theorem dX8_read_75 : decode cX8_read 75 = .ok (.ireturn, 1) := by decide +kernel
theorem dX8_read_76 : decode cX8_read 76 = .ok (.aload_n 0, 1) := by decide +kernel
theorem dX8_read_77 : decode cX8_read 77 = .ok (.bipush 59, 2) := by decide +kernel
theorem dX8_read_79 : decode cX8_read 79 = .ok (.invokevirtual 55, 3) := by decide +kernel
theorem dX8_read_82 : decode cX8_read 82 = .ok (.ifCond .ne 5, 3) := by decide +kernel
theorem dX8_read_85 : decode cX8_read 85 = .ok (.iconst 0, 1) := by decide +kernel
theorem dX8_read_86 : decode cX8_read 86 = .ok (.ireturn, 1) := by decide +kernel
theorem dX8_read_87 : decode cX8_read 87 = .ok (.iinc 3 1, 3) := by decide +kernel
theorem dX8_read_90 : decode cX8_read 90 = .ok (.goto (-70), 3) := by decide +kernel
theorem dX8_read_93 : decode cX8_read 93 = .ok (.iconst 0, 1) := by decide +kernel
theorem dX8_read_94 : decode cX8_read 94 = .ok (.ireturn, 1) := by decide +kernel
theorem dX8_readKeyword_0 : decode cX8_readKeyword 0 = .ok (.iconst 0, 1) := by decide +kernel
theorem dX8_readKeyword_1 : decode cX8_readKeyword 1 = .ok (.istore_n 2, 1) := by decide +kernel
theorem dX8_readKeyword_2 : decode cX8_readKeyword 2 = .ok (.getstatic 59, 3) := by decide +kernel
theorem dX8_readKeyword_5 : decode cX8_readKeyword 5 = .ok (.astore_n 3, 1) := by decide +kernel
theorem dX8_readKeyword_6 : decode cX8_readKeyword 6 = .ok (.aload_n 3, 1) := by decide +kernel
theorem dX8_readKeyword_7 : decode cX8_readKeyword 7 = .ok (.arraylength, 1) := by decide +kernel
theorem dX8_readKeyword_8 : decode cX8_readKeyword 8 = .ok (.istore 4, 2) := by decide +kernel
theorem dX8_readKeyword_10 : decode cX8_readKeyword 10 = .ok (.iconst 0, 1) := by decide +kernel
theorem dX8_readKeyword_11 : decode cX8_readKeyword 11 = .ok (.istore 5, 2) := by decide +kernel
theorem dX8_readKeyword_13 : decode cX8_readKeyword 13 = .ok (.iload 5, 2) := by decide +kernel
theorem dX8_readKeyword_15 : decode cX8_readKeyword 15 = .ok (.iload 4, 2) := by decide +kernel
theorem dX8_readKeyword_17 : decode cX8_readKeyword 17 = .ok (.if_icmp .ge 65, 3) := by decide +kernel
theorem dX8_readKeyword_20 : decode cX8_readKeyword 20 = .ok (.aload_n 3, 1) := by decide +kernel
theorem dX8_readKeyword_21 : decode cX8_readKeyword 21 = .ok (.iload 5, 2) := by decide +kernel
theorem dX8_readKeyword_23 : decode cX8_readKeyword 23 = .ok (.aaload, 1) := by decide +kernel
theorem dX8_readKeyword_24 : decode cX8_readKeyword 24 = .ok (.astore 6, 2) := by decide +kernel
theorem dX8_readKeyword_26 : decode cX8_readKeyword 26 = .ok (.aload_n 0, 1) := by decide +kernel
theorem dX8_readKeyword_27 : decode cX8_readKeyword 27 = .ok (.aload 6, 2) := by decide +kernel
theorem dX8_readKeyword_29 : decode cX8_readKeyword 29 = .ok (.getfield 63, 3) := by decide +kernel
theorem dX8_readKeyword_32 : decode cX8_readKeyword 32 = .ok (.invokevirtual 69, 3) := by decide +kernel
theorem dX8_readKeyword_35 : decode cX8_readKeyword 35 = .ok (.istore 7, 2) := by decide +kernel
theorem dX8_readKeyword_37 : decode cX8_readKeyword 37 = .ok (.iload_n 2, 1) := by decide +kernel
theorem dX8_readKeyword_38 : decode cX8_readKeyword 38 = .ok (.iload 7, 2) := by decide +kernel
theorem dX8_readKeyword_40 : decode cX8_readKeyword 40 = .ok (.invokestatic 73, 3) := by decide +kernel
theorem dX8_readKeyword_43 : decode cX8_readKeyword 43 = .ok (.istore_n 2, 1) := by decide +kernel
theorem dX8_readKeyword_44 : decode cX8_readKeyword 44 = .ok (.iload 7, 2) := by decide +kernel
theorem dX8_readKeyword_46 : decode cX8_readKeyword 46 = .ok (.aload 6, 2) := by decide +kernel
theorem dX8_readKeyword_48 : decode cX8_readKeyword 48 = .ok (.getfield 63, 3) := by decide +kernel
theorem dX8_readKeyword_51 : decode cX8_readKeyword 51 = .ok (.invokevirtual 79, 3) := by decide +kernel
theorem dX8_readKeyword_54 : decode cX8_readKeyword 54 = .ok (.if_icmp .ne 22, 3) := by decide +kernel
theorem dX8_readKeyword_57 : decode cX8_readKeyword 57 = .ok (.aload_n 1, 1) := by decide +kernel
theorem dX8_readKeyword_58 : decode cX8_readKeyword 58 = .ok (.aload 6, 2) := by decide +kernel
theorem dX8_readKeyword_60 : decode cX8_readKeyword 60 = .ok (.putfield 82, 3) := by decide +kernel
theorem dX8_readKeyword_63 : decode cX8_readKeyword 63 = .ok (.aload_n 0, 1) := by decide +kernel
theorem dX8_readKeyword_64 : decode cX8_readKeyword 64 = .ok (.dup, 1) := by decide +kernel
theorem dX8_readKeyword_65 : decode cX8_readKeyword 65 = .ok (.getfield 28, 3) := by decide +kernel
theorem dX8_readKeyword_68 : decode cX8_readKeyword 68 = .ok (.iload 7, 2) := by decide +kernel
theorem dX8_readKeyword_70 : decode cX8_readKeyword 70 = .ok (.iadd, 1) := by decide +kernel
theorem dX8_readKeyword_71 : decode cX8_readKeyword 71 = .ok (.putfield 28, 3) := by decide +kernel
theorem dX8_readKeyword_74 : decode cX8_readKeyword 74 = .ok (.iconst 1, 1) := by decide +kernel
theorem dX8_readKeyword_75 : decode cX8_readKeyword 75 = .ok (.ireturn, 1) := by decide +kernel
theorem dX8_readKeyword_76 : decode cX8_readKeyword 76 = .ok (.iinc 5 1, 3) := by decide +kernel
theorem dX8_readKeyword_79 : decode cX8_readKeyword 79 = .ok (.goto (-66), 3) := by decide +kernel
theorem dX8_readKeyword_82 : decode cX8_readKeyword 82 = .ok (.aload_n 0, 1) := by decide +kernel
theorem dX8_readKeyword_83 : decode cX8_readKeyword 83 = .ok (.dup, 1) := by decide +kernel
theorem dX8_readKeyword_84 : decode cX8_readKeyword 84 = .ok (.getfield 28, 3) := by decide +kernel
theorem dX8_readKeyword_87 : decode cX8_readKeyword 87 = .ok (.iload_n 2, 1) := by decide +kernel
theorem dX8_readKeyword_88 : decode cX8_readKeyword 88 = .ok (.iadd, 1) := by decide +kernel
theorem dX8_readKeyword_89 : decode cX8_readKeyword 89 = .ok (.putfield 28, 3) := by decide +kernel
theorem dX8_readKeyword_92 : decode cX8_readKeyword 92 = .ok (.iconst 0, 1) := by decide +kernel
theorem dX8_readKeyword_93 : decode cX8_readKeyword 93 = .ok (.ireturn, 1) := by decide +kernel
theorem dX8_countSame_0 : decode cX8_countSame 0 = .ok (.iconst 0, 1) := by decide +kernel
theorem dX8_countSame_1 : decode cX8_countSame 1 = .ok (.istore_n 2, 1) := by decide +kernel
theorem dX8_countSame_2 : decode cX8_countSame 2 = .ok (.iload_n 2, 1) := by decide +kernel
theorem dX8_countSame_3 : decode cX8_countSame 3 = .ok (.aload_n 1, 1) := by decide +kernel
theorem dX8_countSame_4 : decode cX8_countSame 4 = .ok (.invokevirtual 79, 3) := by decide +kernel
theorem dX8_countSame_7 : decode cX8_countSame 7 = .ok (.if_icmp .ge 22, 3) := by decide +kernel
theorem dX8_countSame_10 : decode cX8_countSame 10 = .ok (.aload_n 0, 1) := by decide +kernel
theorem dX8_countSame_11 : decode cX8_countSame 11 = .ok (.iload_n 2, 1) := by decide +kernel
theorem dX8_countSame_12 : decode cX8_countSame 12 = .ok (.aload_n 1, 1) := by decide +kernel
theorem dX8_countSame_13 : decode cX8_countSame 13 = .ok (.iload_n 2, 1) := by decide +kernel
theorem dX8_countSame_14 : decode cX8_countSame 14 = .ok (.invokevirtual 86, 3) := by decide +kernel
theorem dX8_countSame_17 : decode cX8_countSame 17 = .ok (.invokevirtual 90, 3) := by decide +kernel
theorem dX8_countSame_20 : decode cX8_countSame 20 = .ok (.ifCond .eq 9, 3) := by decide +kernel
theorem dX8_countSame_23 : decode cX8_countSame 23 = .ok (.iinc 2 1, 3) := by decide +kernel
theorem dX8_countSame_26 : decode cX8_countSame 26 = .ok (.goto (-24), 3) := by decide +kernel
theorem dX8_countSame_29 : decode cX8_countSame 29 = .ok (.iload_n 2, 1) := by decide +kernel
theorem dX8_countSame_30 : decode cX8_countSame 30 = .ok (.ireturn, 1) := by decide +kernel
theorem dX8_readForm_0 : decode cX8_readForm 0 = .ok (.aload_n 1, 1) := by decide +kernel
theorem dX8_readForm_1 : decode cX8_readForm 1 = .ok (.getfield 82, 3) := by decide +kernel
theorem dX8_readForm_4 : decode cX8_readForm 4 = .ok (.getfield 94, 3) := by decide +kernel
theorem dX8_readForm_7 : decode cX8_readForm 7 = .ok (.astore_n 2, 1) := by decide +kernel
theorem dX8_readForm_8 : decode cX8_readForm 8 = .ok (.iconst 0, 1) := by decide +kernel
theorem dX8_readForm_9 : decode cX8_readForm 9 = .ok (.istore_n 3, 1) := by decide +kernel
theorem dX8_readForm_10 : decode cX8_readForm 10 = .ok (.iload_n 3, 1) := by decide +kernel
theorem dX8_readForm_11 : decode cX8_readForm 11 = .ok (.aload_n 2, 1) := by decide +kernel
theorem dX8_readForm_12 : decode cX8_readForm 12 = .ok (.invokevirtual 79, 3) := by decide +kernel
theorem dX8_readForm_15 : decode cX8_readForm 15 = .ok (.if_icmp .ge 24, 3) := by decide +kernel
theorem dX8_readForm_18 : decode cX8_readForm 18 = .ok (.aload_n 0, 1) := by decide +kernel
theorem dX8_readForm_19 : decode cX8_readForm 19 = .ok (.aload_n 2, 1) := by decide +kernel
theorem dX8_readForm_20 : decode cX8_readForm 20 = .ok (.iload_n 3, 1) := by decide +kernel
theorem dX8_readForm_21 : decode cX8_readForm 21 = .ok (.invokevirtual 86, 3) := by decide +kernel
theorem dX8_readForm_24 : decode cX8_readForm 24 = .ok (.aload_n 1, 1) := by decide +kernel
theorem dX8_readForm_25 : decode cX8_readForm 25 = .ok (.invokevirtual 97, 3) := by decide +kernel
theorem dX8_readForm_28 : decode cX8_readForm 28 = .ok (.ifCond .ne 5, 3) := by decide +kernel
theorem dX8_readForm_31 : decode cX8_readForm 31 = .ok (.iconst 0, 1) := by decide +kernel
theorem dX8_readForm_32 : decode cX8_readForm 32 = .ok (.ireturn, 1) := by decide +kernel
theorem dX8_readForm_33 : decode cX8_readForm 33 = .ok (.iinc 3 1, 3) := by decide +kernel
theorem dX8_readForm_36 : decode cX8_readForm 36 = .ok (.goto (-26), 3) := by decide +kernel
theorem dX8_readForm_39 : decode cX8_readForm 39 = .ok (.iconst 1, 1) := by decide +kernel
theorem dX8_readForm_40 : decode cX8_readForm 40 = .ok (.ireturn, 1) := by decide +kernel
theorem dX8_readPart_0 : decode cX8_readPart 0 = .ok (.iload_n 1, 1) := by decide +kernel
theorem dX8_readPart_1 : decode cX8_readPart 1 = .ok (.lookupswitch 85 #[(49, 35), (50, 57), (110, 79)], 35) := by decide +kernel
theorem dX8_readPart_36 : decode cX8_readPart 36 = .ok (.aload_n 2, 1) := by decide +kernel
theorem dX8_readPart_37 : decode cX8_readPart 37 = .ok (.aload_n 0, 1) := by decide +kernel
theorem dX8_readPart_38 : decode cX8_readPart 38 = .ok (.invokevirtual 101, 3) := by decide +kernel
theorem dX8_readPart_41 : decode cX8_readPart 41 = .ok (.putfield 104, 3) := by decide +kernel
theorem dX8_readPart_44 : decode cX8_readPart 44 = .ok (.aload_n 2, 1) := by decide +kernel
theorem dX8_readPart_45 : decode cX8_readPart 45 = .ok (.getfield 104, 3) := by decide +kernel
theorem dX8_readPart_48 : decode cX8_readPart 48 = .ok (.iconst (-1), 1) := by decide +kernel
theorem dX8_readPart_49 : decode cX8_readPart 49 = .ok (.if_icmp .eq 7, 3) := by decide +kernel
theorem dX8_readPart_52 : decode cX8_readPart 52 = .ok (.iconst 1, 1) := by decide +kernel
theorem dX8_readPart_53 : decode cX8_readPart 53 = .ok (.goto 4, 3) := by decide +kernel
theorem dX8_readPart_56 : decode cX8_readPart 56 = .ok (.iconst 0, 1) := by decide +kernel
theorem dX8_readPart_57 : decode cX8_readPart 57 = .ok (.ireturn, 1) := by decide +kernel
theorem dX8_readPart_58 : decode cX8_readPart 58 = .ok (.aload_n 2, 1) := by decide +kernel
theorem dX8_readPart_59 : decode cX8_readPart 59 = .ok (.aload_n 0, 1) := by decide +kernel
theorem dX8_readPart_60 : decode cX8_readPart 60 = .ok (.invokevirtual 101, 3) := by decide +kernel
theorem dX8_readPart_63 : decode cX8_readPart 63 = .ok (.putfield 107, 3) := by decide +kernel
theorem dX8_readPart_66 : decode cX8_readPart 66 = .ok (.aload_n 2, 1) := by decide +kernel
theorem dX8_readPart_67 : decode cX8_readPart 67 = .ok (.getfield 107, 3) := by decide +kernel
theorem dX8_readPart_70 : decode cX8_readPart 70 = .ok (.iconst (-1), 1) := by decide +kernel
theorem dX8_readPart_71 : decode cX8_readPart 71 = .ok (.if_icmp .eq 7, 3) := by decide +kernel
theorem dX8_readPart_74 : decode cX8_readPart 74 = .ok (.iconst 1, 1) := by decide +kernel
theorem dX8_readPart_75 : decode cX8_readPart 75 = .ok (.goto 4, 3) := by decide +kernel
theorem dX8_readPart_78 : decode cX8_readPart 78 = .ok (.iconst 0, 1) := by decide +kernel
theorem dX8_readPart_79 : decode cX8_readPart 79 = .ok (.ireturn, 1) := by decide +kernel
theorem dX8_readPart_80 : decode cX8_readPart 80 = .ok (.aload_n 0, 1) := by decide +kernel
theorem dX8_readPart_81 : decode cX8_readPart 81 = .ok (.aload_n 2, 1) := by decide +kernel
theorem dX8_readPart_82 : decode cX8_readPart 82 = .ok (.invokevirtual 110, 3) := by decide +kernel
theorem dX8_readPart_85 : decode cX8_readPart 85 = .ok (.ireturn, 1) := by decide +kernel
theorem dX8_readPart_86 : decode cX8_readPart 86 = .ok (.aload_n 0, 1) := by decide +kernel
theorem dX8_readPart_87 : decode cX8_readPart 87 = .ok (.iload_n 1, 1) := by decide +kernel
theorem dX8_readPart_88 : decode cX8_readPart 88 = .ok (.invokevirtual 55, 3) := by decide +kernel
theorem dX8_readPart_91 : decode cX8_readPart 91 = .ok (.ireturn, 1) := by decide +kernel
theorem dX8_readNumber_0 : decode cX8_readNumber 0 = .ok (.iconst (-1), 1) := by decide +kernel
theorem dX8_readNumber_1 : decode cX8_readNumber 1 = .ok (.istore_n 1, 1) := by decide +kernel
theorem dX8_readNumber_2 : decode cX8_readNumber 2 = .ok (.iconst 0, 1) := by decide +kernel
theorem dX8_readNumber_3 : decode cX8_readNumber 3 = .ok (.istore_n 2, 1) := by decide +kernel
theorem dX8_readNumber_4 : decode cX8_readNumber 4 = .ok (.iload_n 2, 1) := by decide +kernel
theorem dX8_readNumber_5 : decode cX8_readNumber 5 = .ok (.iconst 3, 1) := by decide +kernel
theorem dX8_readNumber_6 : decode cX8_readNumber 6 = .ok (.if_icmp .ge 61, 3) := by decide +kernel
theorem dX8_readNumber_9 : decode cX8_readNumber 9 = .ok (.aload_n 0, 1) := by decide +kernel
theorem dX8_readNumber_10 : decode cX8_readNumber 10 = .ok (.bipush 48, 2) := by decide +kernel
theorem dX8_readNumber_12 : decode cX8_readNumber 12 = .ok (.bipush 57, 2) := by decide +kernel
theorem dX8_readNumber_14 : decode cX8_readNumber 14 = .ok (.invokevirtual 113, 3) := by decide +kernel
theorem dX8_readNumber_17 : decode cX8_readNumber 17 = .ok (.ifCond .eq 50, 3) := by decide +kernel
theorem dX8_readNumber_20 : decode cX8_readNumber 20 = .ok (.aload_n 0, 1) := by decide +kernel
theorem dX8_readNumber_21 : decode cX8_readNumber 21 = .ok (.getfield 12, 3) := by decide +kernel
theorem dX8_readNumber_24 : decode cX8_readNumber 24 = .ok (.aload_n 0, 1) := by decide +kernel
theorem dX8_readNumber_25 : decode cX8_readNumber 25 = .ok (.getfield 28, 3) := by decide +kernel
theorem dX8_readNumber_28 : decode cX8_readNumber 28 = .ok (.invokevirtual 117, 3) := by decide +kernel
theorem dX8_readNumber_31 : decode cX8_readNumber 31 = .ok (.bipush 48, 2) := by decide +kernel
theorem dX8_readNumber_33 : decode cX8_readNumber 33 = .ok (.isub, 1) := by decide +kernel
theorem dX8_readNumber_34 : decode cX8_readNumber 34 = .ok (.istore_n 3, 1) := by decide +kernel
theorem dX8_readNumber_35 : decode cX8_readNumber 35 = .ok (.iload_n 1, 1) := by decide +kernel
theorem dX8_readNumber_36 : decode cX8_readNumber 36 = .ok (.iconst (-1), 1) := by decide +kernel
theorem dX8_readNumber_37 : decode cX8_readNumber 37 = .ok (.if_icmp .ne 7, 3) := by decide +kernel
theorem dX8_readNumber_40 : decode cX8_readNumber 40 = .ok (.iload_n 3, 1) := by decide +kernel
theorem dX8_readNumber_41 : decode cX8_readNumber 41 = .ok (.goto 9, 3) := by decide +kernel
theorem dX8_readNumber_44 : decode cX8_readNumber 44 = .ok (.iload_n 1, 1) := by decide +kernel
theorem dX8_readNumber_45 : decode cX8_readNumber 45 = .ok (.bipush 10, 2) := by decide +kernel
theorem dX8_readNumber_47 : decode cX8_readNumber 47 = .ok (.imul, 1) := by decide +kernel
theorem dX8_readNumber_48 : decode cX8_readNumber 48 = .ok (.iload_n 3, 1) := by decide +kernel
theorem dX8_readNumber_49 : decode cX8_readNumber 49 = .ok (.iadd, 1) := by decide +kernel
theorem dX8_readNumber_50 : decode cX8_readNumber 50 = .ok (.istore_n 1, 1) := by decide +kernel
theorem dX8_readNumber_51 : decode cX8_readNumber 51 = .ok (.aload_n 0, 1) := by decide +kernel
theorem dX8_readNumber_52 : decode cX8_readNumber 52 = .ok (.dup, 1) := by decide +kernel
theorem dX8_readNumber_53 : decode cX8_readNumber 53 = .ok (.getfield 28, 3) := by decide +kernel
theorem dX8_readNumber_56 : decode cX8_readNumber 56 = .ok (.iconst 1, 1) := by decide +kernel
theorem dX8_readNumber_57 : decode cX8_readNumber 57 = .ok (.iadd, 1) := by decide +kernel
theorem dX8_readNumber_58 : decode cX8_readNumber 58 = .ok (.putfield 28, 3) := by decide +kernel
theorem dX8_readNumber_61 : decode cX8_readNumber 61 = .ok (.iinc 2 1, 3) := by decide +kernel
theorem dX8_readNumber_64 : decode cX8_readNumber 64 = .ok (.goto (-60), 3) := by decide +kernel
theorem dX8_readNumber_67 : decode cX8_readNumber 67 = .ok (.iload_n 1, 1) := by decide +kernel
theorem dX8_readNumber_68 : decode cX8_readNumber 68 = .ok (.ireturn, 1) := by decide +kernel
theorem dX8_readNote_0 : decode cX8_readNote 0 = .ok (.aload_n 0, 1) := by decide +kernel
theorem dX8_readNote_1 : decode cX8_readNote 1 = .ok (.bipush 97, 2) := by decide +kernel
theorem dX8_readNote_3 : decode cX8_readNote 3 = .ok (.bipush 103, 2) := by decide +kernel
theorem dX8_readNote_5 : decode cX8_readNote 5 = .ok (.invokevirtual 113, 3) := by decide +kernel
theorem dX8_readNote_8 : decode cX8_readNote 8 = .ok (.ifCond .ne 5, 3) := by decide +kernel
theorem dX8_readNote_11 : decode cX8_readNote 11 = .ok (.iconst 0, 1) := by decide +kernel
theorem dX8_readNote_12 : decode cX8_readNote 12 = .ok (.ireturn, 1) := by decide +kernel
theorem dX8_readNote_13 : decode cX8_readNote 13 = .ok (.aload_n 1, 1) := by decide +kernel
theorem dX8_readNote_14 : decode cX8_readNote 14 = .ok (.aload_n 0, 1) := by decide +kernel
theorem dX8_readNote_15 : decode cX8_readNote 15 = .ok (.getfield 12, 3) := by decide +kernel
theorem dX8_readNote_18 : decode cX8_readNote 18 = .ok (.aload_n 0, 1) := by decide +kernel
theorem dX8_readNote_19 : decode cX8_readNote 19 = .ok (.getfield 28, 3) := by decide +kernel
theorem dX8_readNote_22 : decode cX8_readNote 22 = .ok (.invokevirtual 117, 3) := by decide +kernel
theorem dX8_readNote_25 : decode cX8_readNote 25 = .ok (.putfield 118, 3) := by decide +kernel
theorem dX8_readNote_28 : decode cX8_readNote 28 = .ok (.aload_n 0, 1) := by decide +kernel
theorem dX8_readNote_29 : decode cX8_readNote 29 = .ok (.dup, 1) := by decide +kernel
theorem dX8_readNote_30 : decode cX8_readNote 30 = .ok (.getfield 28, 3) := by decide +kernel
theorem dX8_readNote_33 : decode cX8_readNote 33 = .ok (.iconst 1, 1) := by decide +kernel
theorem dX8_readNote_34 : decode cX8_readNote 34 = .ok (.iadd, 1) := by decide +kernel
theorem dX8_readNote_35 : decode cX8_readNote 35 = .ok (.putfield 28, 3) := by decide +kernel
theorem dX8_readNote_38 : decode cX8_readNote 38 = .ok (.iconst 1, 1) := by decide +kernel
theorem dX8_readNote_39 : decode cX8_readNote 39 = .ok (.ireturn, 1) := by decide +kernel
theorem dX8_readSign_0 : decode cX8_readSign 0 = .ok (.aload_n 0, 1) := by decide +kernel
theorem dX8_readSign_1 : decode cX8_readSign 1 = .ok (.iconst 0, 1) := by decide +kernel
theorem dX8_readSign_2 : decode cX8_readSign 2 = .ok (.iload_n 1, 1) := by decide +kernel
theorem dX8_readSign_3 : decode cX8_readSign 3 = .ok (.invokevirtual 90, 3) := by decide +kernel
theorem dX8_readSign_6 : decode cX8_readSign 6 = .ok (.ifCond .ne 5, 3) := by decide +kernel
theorem dX8_readSign_9 : decode cX8_readSign 9 = .ok (.iconst 0, 1) := by decide +kernel
theorem dX8_readSign_10 : decode cX8_readSign 10 = .ok (.ireturn, 1) := by decide +kernel
theorem dX8_readSign_11 : decode cX8_readSign 11 = .ok (.aload_n 0, 1) := by decide +kernel
theorem dX8_readSign_12 : decode cX8_readSign 12 = .ok (.dup, 1) := by decide +kernel
theorem dX8_readSign_13 : decode cX8_readSign 13 = .ok (.getfield 28, 3) := by decide +kernel
theorem dX8_readSign_16 : decode cX8_readSign 16 = .ok (.iconst 1, 1) := by decide +kernel
theorem dX8_readSign_17 : decode cX8_readSign 17 = .ok (.iadd, 1) := by decide +kernel
theorem dX8_readSign_18 : decode cX8_readSign 18 = .ok (.putfield 28, 3) := by decide +kernel
theorem dX8_readSign_21 : decode cX8_readSign 21 = .ok (.iconst 1, 1) := by decide +kernel
theorem dX8_readSign_22 : decode cX8_readSign 22 = .ok (.ireturn, 1) := by decide +kernel
theorem dX8_isNext_0 : decode cX8_isNext 0 = .ok (.aload_n 0, 1) := by decide +kernel
theorem dX8_isNext_1 : decode cX8_isNext 1 = .ok (.getfield 28, 3) := by decide +kernel
theorem dX8_isNext_4 : decode cX8_isNext 4 = .ok (.iload_n 1, 1) := by decide +kernel
theorem dX8_isNext_5 : decode cX8_isNext 5 = .ok (.iadd, 1) := by decide +kernel
theorem dX8_isNext_6 : decode cX8_isNext 6 = .ok (.istore_n 3, 1) := by decide +kernel
theorem dX8_isNext_7 : decode cX8_isNext 7 = .ok (.iload_n 3, 1) := by decide +kernel
theorem dX8_isNext_8 : decode cX8_isNext 8 = .ok (.aload_n 0, 1) := by decide +kernel
theorem dX8_isNext_9 : decode cX8_isNext 9 = .ok (.getfield 12, 3) := by decide +kernel
theorem dX8_isNext_12 : decode cX8_isNext 12 = .ok (.invokevirtual 32, 3) := by decide +kernel
theorem dX8_isNext_15 : decode cX8_isNext 15 = .ok (.if_icmp .ge 19, 3) := by decide +kernel
theorem dX8_isNext_18 : decode cX8_isNext 18 = .ok (.aload_n 0, 1) := by decide +kernel
theorem dX8_isNext_19 : decode cX8_isNext 19 = .ok (.getfield 12, 3) := by decide +kernel
theorem dX8_isNext_22 : decode cX8_isNext 22 = .ok (.iload_n 3, 1) := by decide +kernel
theorem dX8_isNext_23 : decode cX8_isNext 23 = .ok (.invokevirtual 117, 3) := by decide +kernel
theorem dX8_isNext_26 : decode cX8_isNext 26 = .ok (.iload_n 2, 1) := by decide +kernel
theorem dX8_isNext_27 : decode cX8_isNext 27 = .ok (.if_icmp .ne 7, 3) := by decide +kernel
theorem dX8_isNext_30 : decode cX8_isNext 30 = .ok (.iconst 1, 1) := by decide +kernel
theorem dX8_isNext_31 : decode cX8_isNext 31 = .ok (.goto 4, 3) := by decide +kernel
theorem dX8_isNext_34 : decode cX8_isNext 34 = .ok (.iconst 0, 1) := by decide +kernel
theorem dX8_isNext_35 : decode cX8_isNext 35 = .ok (.ireturn, 1) := by decide +kernel
theorem dX8_isNextIn_0 : decode cX8_isNextIn 0 = .ok (.aload_n 0, 1) := by decide +kernel
theorem dX8_isNextIn_1 : decode cX8_isNextIn 1 = .ok (.getfield 28, 3) := by decide +kernel
theorem dX8_isNextIn_4 : decode cX8_isNextIn 4 = .ok (.aload_n 0, 1) := by decide +kernel
theorem dX8_isNextIn_5 : decode cX8_isNextIn 5 = .ok (.getfield 12, 3) := by decide +kernel
theorem dX8_isNextIn_8 : decode cX8_isNextIn 8 = .ok (.invokevirtual 32, 3) := by decide +kernel
theorem dX8_isNextIn_11 : decode cX8_isNextIn 11 = .ok (.if_icmp .ge 37, 3) := by decide +kernel
theorem dX8_isNextIn_14 : decode cX8_isNextIn 14 = .ok (.aload_n 0, 1) := by decide +kernel
theorem dX8_isNextIn_15 : decode cX8_isNextIn 15 = .ok (.getfield 12, 3) := by decide +kernel
theorem dX8_isNextIn_18 : decode cX8_isNextIn 18 = .ok (.aload_n 0, 1) := by decide +kernel
theorem dX8_isNextIn_19 : decode cX8_isNextIn 19 = .ok (.getfield 28, 3) := by decide +kernel
theorem dX8_isNextIn_22 : decode cX8_isNextIn 22 = .ok (.invokevirtual 117, 3) := by decide +kernel
theorem dX8_isNextIn_25 : decode cX8_isNextIn 25 = .ok (.iload_n 1, 1) := by decide +kernel
theorem dX8_isNextIn_26 : decode cX8_isNextIn 26 = .ok (.if_icmp .lt 22, 3) := by decide +kernel
theorem dX8_isNextIn_29 : decode cX8_isNextIn 29 = .ok (.aload_n 0, 1) := by decide +kernel
theorem dX8_isNextIn_30 : decode cX8_isNextIn 30 = .ok (.getfield 12, 3) := by decide +kernel
theorem dX8_isNextIn_33 : decode cX8_isNextIn 33 = .ok (.aload_n 0, 1) := by decide +kernel
theorem dX8_isNextIn_34 : decode cX8_isNextIn 34 = .ok (.getfield 28, 3) := by decide +kernel
theorem dX8_isNextIn_37 : decode cX8_isNextIn 37 = .ok (.invokevirtual 117, 3) := by decide +kernel
theorem dX8_isNextIn_40 : decode cX8_isNextIn 40 = .ok (.iload_n 2, 1) := by decide +kernel
theorem dX8_isNextIn_41 : decode cX8_isNextIn 41 = .ok (.if_icmp .gt 7, 3) := by decide +kernel
theorem dX8_isNextIn_44 : decode cX8_isNextIn 44 = .ok (.iconst 1, 1) := by decide +kernel
theorem dX8_isNextIn_45 : decode cX8_isNextIn 45 = .ok (.goto 4, 3) := by decide +kernel
theorem dX8_isNextIn_48 : decode cX8_isNextIn 48 = .ok (.iconst 0, 1) := by decide +kernel
theorem dX8_isNextIn_49 : decode cX8_isNextIn 49 = .ok (.ireturn, 1) := by decide +kernel
theorem dX9_isNote_0 : decode cX9_isNote 0 = .ok (.iload_n 0, 1) := by decide +kernel
theorem dX9_isNote_1 : decode cX9_isNote 1 = .ok (.bipush 97, 2) := by decide +kernel
theorem dX9_isNote_3 : decode cX9_isNote 3 = .ok (.if_icmp .lt 13, 3) := by decide +kernel
theorem dX9_isNote_6 : decode cX9_isNote 6 = .ok (.iload_n 0, 1) := by decide +kernel
theorem dX9_isNote_7 : decode cX9_isNote 7 = .ok (.bipush 103, 2) := by decide +kernel
theorem dX9_isNote_9 : decode cX9_isNote 9 = .ok (.if_icmp .gt 7, 3) := by decide +kernel
theorem dX9_isNote_12 : decode cX9_isNote 12 = .ok (.iconst 1, 1) := by decide +kernel
theorem dX9_isNote_13 : decode cX9_isNote 13 = .ok (.goto 4, 3) := by decide +kernel
theorem dX9_isNote_16 : decode cX9_isNote 16 = .ok (.iconst 0, 1) := by decide +kernel
theorem dX9_isNote_17 : decode cX9_isNote 17 = .ok (.ireturn, 1) := by decide +kernel
theorem dX9_ofNote_0 : decode cX9_ofNote 0 = .ok (.iload_n 0, 1) := by decide +kernel
theorem dX9_ofNote_1 : decode cX9_ofNote 1 = .ok (.bipush 97, 2) := by decide +kernel
theorem dX9_ofNote_3 : decode cX9_ofNote 3 = .ok (.isub, 1) := by decide +kernel
theorem dX9_ofNote_4 : decode cX9_ofNote 4 = .ok (.iconst 1, 1) := by decide +kernel
theorem dX9_ofNote_5 : decode cX9_ofNote 5 = .ok (.iadd, 1) := by decide +kernel
theorem dX9_ofNote_6 : decode cX9_ofNote 6 = .ok (.i2l, 1) := by decide +kernel
theorem dX9_ofNote_7 : decode cX9_ofNote 7 = .ok (.lreturn, 1) := by decide +kernel
theorem dX9_lengthOf_0 : decode cX9_lengthOf 0 = .ok (.iconst 0, 1) := by decide +kernel
theorem dX9_lengthOf_1 : decode cX9_lengthOf 1 = .ok (.istore_n 2, 1) := by decide +kernel
theorem dX9_lengthOf_2 : decode cX9_lengthOf 2 = .ok (.iload_n 2, 1) := by decide +kernel
theorem dX9_lengthOf_3 : decode cX9_lengthOf 3 = .ok (.bipush 12, 2) := by decide +kernel
theorem dX9_lengthOf_5 : decode cX9_lengthOf 5 = .ok (.if_icmp .ge 17, 3) := by decide +kernel
theorem dX9_lengthOf_8 : decode cX9_lengthOf 8 = .ok (.lload_n 0, 1) := by decide +kernel
theorem dX9_lengthOf_9 : decode cX9_lengthOf 9 = .ok (.iload_n 2, 1) := by decide +kernel
theorem dX9_lengthOf_10 : decode cX9_lengthOf 10 = .ok (.invokestatic 9, 3) := by decide +kernel
theorem dX9_lengthOf_13 : decode cX9_lengthOf 13 = .ok (.ifCond .eq 9, 3) := by decide +kernel
theorem dX9_lengthOf_16 : decode cX9_lengthOf 16 = .ok (.iinc 2 1, 3) := by decide +kernel
theorem dX9_lengthOf_19 : decode cX9_lengthOf 19 = .ok (.goto (-17), 3) := by decide +kernel
theorem dX9_lengthOf_22 : decode cX9_lengthOf 22 = .ok (.iload_n 2, 1) := by decide +kernel
theorem dX9_lengthOf_23 : decode cX9_lengthOf 23 = .ok (.ireturn, 1) := by decide +kernel
theorem dX9_noteOf_0 : decode cX9_noteOf 0 = .ok (.bipush 97, 2) := by decide +kernel
theorem dX9_noteOf_2 : decode cX9_noteOf 2 = .ok (.lload_n 0, 1) := by decide +kernel
theorem dX9_noteOf_3 : decode cX9_noteOf 3 = .ok (.iload_n 2, 1) := by decide +kernel
theorem dX9_noteOf_4 : decode cX9_noteOf 4 = .ok (.invokestatic 9, 3) := by decide +kernel
theorem dX9_noteOf_7 : decode cX9_noteOf 7 = .ok (.iadd, 1) := by decide +kernel
theorem dX9_noteOf_8 : decode cX9_noteOf 8 = .ok (.iconst 1, 1) := by decide +kernel
theorem dX9_noteOf_9 : decode cX9_noteOf 9 = .ok (.isub, 1) := by decide +kernel
theorem dX9_noteOf_10 : decode cX9_noteOf 10 = .ok (.i2c, 1) := by decide +kernel
theorem dX9_noteOf_11 : decode cX9_noteOf 11 = .ok (.ireturn, 1) := by decide +kernel
theorem dX9_withInserted_0 : decode cX9_withInserted 0 = .ok (.lload_n 0, 1) := by decide +kernel
theorem dX9_withInserted_1 : decode cX9_withInserted 1 = .ok (.iconst 3, 1) := by decide +kernel
theorem dX9_withInserted_2 : decode cX9_withInserted 2 = .ok (.iload_n 2, 1) := by decide +kernel
theorem dX9_withInserted_3 : decode cX9_withInserted 3 = .ok (.imul, 1) := by decide +kernel
theorem dX9_withInserted_4 : decode cX9_withInserted 4 = .ok (.lushr, 1) := by decide +kernel
theorem dX9_withInserted_5 : decode cX9_withInserted 5 = .ok (.iconst 3, 1) := by decide +kernel
theorem dX9_withInserted_6 : decode cX9_withInserted 6 = .ok (.iload_n 2, 1) := by decide +kernel
theorem dX9_withInserted_7 : decode cX9_withInserted 7 = .ok (.iconst 1, 1) := by decide +kernel
theorem dX9_withInserted_8 : decode cX9_withInserted 8 = .ok (.iadd, 1) := by decide +kernel
theorem dX9_withInserted_9 : decode cX9_withInserted 9 = .ok (.imul, 1) := by decide +kernel
theorem dX9_withInserted_10 : decode cX9_withInserted 10 = .ok (.lshl, 1) := by decide +kernel
theorem dX9_withInserted_11 : decode cX9_withInserted 11 = .ok (.lstore 4, 2) := by decide +kernel
theorem dX9_withInserted_13 : decode cX9_withInserted 13 = .ok (.lload_n 0, 1) := by decide +kernel
theorem dX9_withInserted_14 : decode cX9_withInserted 14 = .ok (.iload_n 2, 1) := by decide +kernel
theorem dX9_withInserted_15 : decode cX9_withInserted 15 = .ok (.invokestatic 15, 3) := by decide +kernel
theorem dX9_withInserted_18 : decode cX9_withInserted 18 = .ok (.iload_n 3, 1) := by decide +kernel
theorem dX9_withInserted_19 : decode cX9_withInserted 19 = .ok (.invokestatic 19, 3) := by decide +kernel
theorem dX9_withInserted_22 : decode cX9_withInserted 22 = .ok (.iconst 3, 1) := by decide +kernel
theorem dX9_withInserted_23 : decode cX9_withInserted 23 = .ok (.iload_n 2, 1) := by decide +kernel
theorem dX9_withInserted_24 : decode cX9_withInserted 24 = .ok (.imul, 1) := by decide +kernel
theorem dX9_withInserted_25 : decode cX9_withInserted 25 = .ok (.lshl, 1) := by decide +kernel
theorem dX9_withInserted_26 : decode cX9_withInserted 26 = .ok (.lor, 1) := by decide +kernel
theorem dX9_withInserted_27 : decode cX9_withInserted 27 = .ok (.lload 4, 2) := by decide +kernel
theorem dX9_withInserted_29 : decode cX9_withInserted 29 = .ok (.lor, 1) := by decide +kernel
theorem dX9_withInserted_30 : decode cX9_withInserted 30 = .ok (.lreturn, 1) := by decide +kernel
theorem dX9_withReplaced_0 : decode cX9_withReplaced 0 = .ok (.lload_n 0, 1) := by decide +kernel
theorem dX9_withReplaced_1 : decode cX9_withReplaced 1 = .ok (.iload_n 2, 1) := by decide +kernel
theorem dX9_withReplaced_2 : decode cX9_withReplaced 2 = .ok (.invokestatic 23, 3) := by decide +kernel
theorem dX9_withReplaced_5 : decode cX9_withReplaced 5 = .ok (.iload_n 2, 1) := by decide +kernel
theorem dX9_withReplaced_6 : decode cX9_withReplaced 6 = .ok (.iload_n 3, 1) := by decide +kernel
theorem dX9_withReplaced_7 : decode cX9_withReplaced 7 = .ok (.invokestatic 26, 3) := by decide +kernel
theorem dX9_withReplaced_10 : decode cX9_withReplaced 10 = .ok (.lreturn, 1) := by decide +kernel
theorem dX9_withDeleted_0 : decode cX9_withDeleted 0 = .ok (.lload_n 0, 1) := by decide +kernel
theorem dX9_withDeleted_1 : decode cX9_withDeleted 1 = .ok (.iconst 3, 1) := by decide +kernel
theorem dX9_withDeleted_2 : decode cX9_withDeleted 2 = .ok (.iload_n 2, 1) := by decide +kernel
theorem dX9_withDeleted_3 : decode cX9_withDeleted 3 = .ok (.iconst 1, 1) := by decide +kernel
theorem dX9_withDeleted_4 : decode cX9_withDeleted 4 = .ok (.iadd, 1) := by decide +kernel
theorem dX9_withDeleted_5 : decode cX9_withDeleted 5 = .ok (.imul, 1) := by decide +kernel
theorem dX9_withDeleted_6 : decode cX9_withDeleted 6 = .ok (.lushr, 1) := by decide +kernel
theorem dX9_withDeleted_7 : decode cX9_withDeleted 7 = .ok (.iconst 3, 1) := by decide +kernel
theorem dX9_withDeleted_8 : decode cX9_withDeleted 8 = .ok (.iload_n 2, 1) := by decide +kernel
theorem dX9_withDeleted_9 : decode cX9_withDeleted 9 = .ok (.imul, 1) := by decide +kernel
theorem dX9_withDeleted_10 : decode cX9_withDeleted 10 = .ok (.lshl, 1) := by decide +kernel
theorem dX9_withDeleted_11 : decode cX9_withDeleted 11 = .ok (.lstore_n 3, 1) := by decide +kernel
theorem dX9_withDeleted_12 : decode cX9_withDeleted 12 = .ok (.lload_n 0, 1) := by decide +kernel
theorem dX9_withDeleted_13 : decode cX9_withDeleted 13 = .ok (.iload_n 2, 1) := by decide +kernel
theorem dX9_withDeleted_14 : decode cX9_withDeleted 14 = .ok (.invokestatic 15, 3) := by decide +kernel
theorem dX9_withDeleted_17 : decode cX9_withDeleted 17 = .ok (.lload_n 3, 1) := by decide +kernel
theorem dX9_withDeleted_18 : decode cX9_withDeleted 18 = .ok (.lor, 1) := by decide +kernel
theorem dX9_withDeleted_19 : decode cX9_withDeleted 19 = .ok (.lreturn, 1) := by decide +kernel
theorem dX9_codeAt_0 : decode cX9_codeAt 0 = .ok (.lload_n 0, 1) := by decide +kernel
theorem dX9_codeAt_1 : decode cX9_codeAt 1 = .ok (.iconst 3, 1) := by decide +kernel
theorem dX9_codeAt_2 : decode cX9_codeAt 2 = .ok (.iload_n 2, 1) := by decide +kernel
theorem dX9_codeAt_3 : decode cX9_codeAt 3 = .ok (.imul, 1) := by decide +kernel
theorem dX9_codeAt_4 : decode cX9_codeAt 4 = .ok (.lushr, 1) := by decide +kernel
theorem dX9_codeAt_5 : decode cX9_codeAt 5 = .ok (.l2i, 1) := by decide +kernel
theorem dX9_codeAt_6 : decode cX9_codeAt 6 = .ok (.bipush 7, 2) := by decide +kernel
theorem dX9_codeAt_8 : decode cX9_codeAt 8 = .ok (.iand, 1) := by decide +kernel
theorem dX9_codeAt_9 : decode cX9_codeAt 9 = .ok (.ireturn, 1) := by decide +kernel
theorem dX9_before_0 : decode cX9_before 0 = .ok (.lload_n 0, 1) := by decide +kernel
theorem dX9_before_1 : decode cX9_before 1 = .ok (.lconst 1, 1) := by decide +kernel
theorem dX9_before_2 : decode cX9_before 2 = .ok (.iconst 3, 1) := by decide +kernel
theorem dX9_before_3 : decode cX9_before 3 = .ok (.iload_n 2, 1) := by decide +kernel
theorem dX9_before_4 : decode cX9_before 4 = .ok (.imul, 1) := by decide +kernel
theorem dX9_before_5 : decode cX9_before 5 = .ok (.lshl, 1) := by decide +kernel
theorem dX9_before_6 : decode cX9_before 6 = .ok (.lconst 1, 1) := by decide +kernel
theorem dX9_before_7 : decode cX9_before 7 = .ok (.lsub, 1) := by decide +kernel
theorem dX9_before_8 : decode cX9_before 8 = .ok (.land, 1) := by decide +kernel
theorem dX9_before_9 : decode cX9_before 9 = .ok (.lreturn, 1) := by decide +kernel
theorem dX10_init_0 : decode cX10_init 0 = .ok (.aload_n 0, 1) := by decide +kernel
theorem dX10_init_1 : decode cX10_init 1 = .ok (.invokespecial 1, 3) := by decide +kernel
theorem dX10_init_4 : decode cX10_init 4 = .ok (.aload_n 0, 1) := by decide +kernel
theorem dX10_init_5 : decode cX10_init 5 = .ok (.bipush 32, 2) := by decide +kernel
theorem dX10_init_7 : decode cX10_init 7 = .ok (.newarray .long, 2) := by decide +kernel
theorem dX10_init_9 : decode cX10_init 9 = .ok (.putfield 9, 3) := by decide +kernel
theorem dX10_init_12 : decode cX10_init 12 = .ok (.aload_n 0, 1) := by decide +kernel
theorem dX10_init_13 : decode cX10_init 13 = .ok (.bipush 32, 2) := by decide +kernel
theorem dX10_init_15 : decode cX10_init 15 = .ok (.newarray .int, 2) := by decide +kernel
theorem dX10_init_17 : decode cX10_init 17 = .ok (.putfield 13, 3) := by decide +kernel
theorem dX10_init_20 : decode cX10_init 20 = .ok (.return_, 1) := by decide +kernel
theorem dX10_clear_0 : decode cX10_clear 0 = .ok (.iconst 0, 1) := by decide +kernel
theorem dX10_clear_1 : decode cX10_clear 1 = .ok (.istore_n 1, 1) := by decide +kernel
theorem dX10_clear_2 : decode cX10_clear 2 = .ok (.iload_n 1, 1) := by decide +kernel
theorem dX10_clear_3 : decode cX10_clear 3 = .ok (.bipush 32, 2) := by decide +kernel
theorem dX10_clear_5 : decode cX10_clear 5 = .ok (.if_icmp .ge 16, 3) := by decide +kernel
theorem dX10_clear_8 : decode cX10_clear 8 = .ok (.aload_n 0, 1) := by decide +kernel
theorem dX10_clear_9 : decode cX10_clear 9 = .ok (.getfield 13, 3) := by decide +kernel
theorem dX10_clear_12 : decode cX10_clear 12 = .ok (.iload_n 1, 1) := by decide +kernel
theorem dX10_clear_13 : decode cX10_clear 13 = .ok (.iconst 0, 1) := by decide +kernel
theorem dX10_clear_14 : decode cX10_clear 14 = .ok (.iastore, 1) := by decide +kernel
theorem dX10_clear_15 : decode cX10_clear 15 = .ok (.iinc 1 1, 3) := by decide +kernel
theorem dX10_clear_18 : decode cX10_clear 18 = .ok (.goto (-16), 3) := by decide +kernel
theorem dX10_clear_21 : decode cX10_clear 21 = .ok (.return_, 1) := by decide +kernel
theorem dX10_countBeforeAdding_0 : decode cX10_countBeforeAdding 0 = .ok (.lload_n 1, 1) := by decide +kernel
theorem dX10_countBeforeAdding_1 : decode cX10_countBeforeAdding 1 = .ok (.ldc2_w 17, 3) := by decide +kernel
theorem dX10_countBeforeAdding_4 : decode cX10_countBeforeAdding 4 = .ok (.lmul, 1) := by decide +kernel
theorem dX10_countBeforeAdding_5 : decode cX10_countBeforeAdding 5 = .ok (.bipush 59, 2) := by decide +kernel
theorem dX10_countBeforeAdding_7 : decode cX10_countBeforeAdding 7 = .ok (.lushr, 1) := by decide +kernel
theorem dX10_countBeforeAdding_8 : decode cX10_countBeforeAdding 8 = .ok (.l2i, 1) := by decide +kernel
theorem dX10_countBeforeAdding_9 : decode cX10_countBeforeAdding 9 = .ok (.istore_n 3, 1) := by decide +kernel
theorem dX10_countBeforeAdding_10 : decode cX10_countBeforeAdding 10 = .ok (.iconst 0, 1) := by decide +kernel
theorem dX10_countBeforeAdding_11 : decode cX10_countBeforeAdding 11 = .ok (.istore 4, 2) := by decide +kernel
theorem dX10_countBeforeAdding_13 : decode cX10_countBeforeAdding 13 = .ok (.iload 4, 2) := by decide +kernel
theorem dX10_countBeforeAdding_15 : decode cX10_countBeforeAdding 15 = .ok (.bipush 32, 2) := by decide +kernel
theorem dX10_countBeforeAdding_17 : decode cX10_countBeforeAdding 17 = .ok (.if_icmp .ge 69, 3) := by decide +kernel
theorem dX10_countBeforeAdding_20 : decode cX10_countBeforeAdding 20 = .ok (.iload_n 3, 1) := by decide +kernel
theorem dX10_countBeforeAdding_21 : decode cX10_countBeforeAdding 21 = .ok (.iload 4, 2) := by decide +kernel
theorem dX10_countBeforeAdding_23 : decode cX10_countBeforeAdding 23 = .ok (.iadd, 1) := by decide +kernel
theorem dX10_countBeforeAdding_24 : decode cX10_countBeforeAdding 24 = .ok (.bipush 31, 2) := by decide +kernel
theorem dX10_countBeforeAdding_26 : decode cX10_countBeforeAdding 26 = .ok (.iand, 1) := by decide +kernel
theorem dX10_countBeforeAdding_27 : decode cX10_countBeforeAdding 27 = .ok (.istore 5, 2) := by decide +kernel
theorem dX10_countBeforeAdding_29 : decode cX10_countBeforeAdding 29 = .ok (.aload_n 0, 1) := by decide +kernel
theorem dX10_countBeforeAdding_30 : decode cX10_countBeforeAdding 30 = .ok (.getfield 13, 3) := by decide +kernel
theorem dX10_countBeforeAdding_33 : decode cX10_countBeforeAdding 33 = .ok (.iload 5, 2) := by decide +kernel
theorem dX10_countBeforeAdding_35 : decode cX10_countBeforeAdding 35 = .ok (.iaload, 1) := by decide +kernel
theorem dX10_countBeforeAdding_36 : decode cX10_countBeforeAdding 36 = .ok (.ifCond .ne 11, 3) := by decide +kernel
theorem dX10_countBeforeAdding_39 : decode cX10_countBeforeAdding 39 = .ok (.aload_n 0, 1) := by decide +kernel
theorem dX10_countBeforeAdding_40 : decode cX10_countBeforeAdding 40 = .ok (.getfield 9, 3) := by decide +kernel
theorem dX10_countBeforeAdding_43 : decode cX10_countBeforeAdding 43 = .ok (.iload 5, 2) := by decide +kernel
theorem dX10_countBeforeAdding_45 : decode cX10_countBeforeAdding 45 = .ok (.lload_n 1, 1) := by decide +kernel
theorem dX10_countBeforeAdding_46 : decode cX10_countBeforeAdding 46 = .ok (.lastore, 1) := by decide +kernel
theorem dX10_countBeforeAdding_47 : decode cX10_countBeforeAdding 47 = .ok (.aload_n 0, 1) := by decide +kernel
theorem dX10_countBeforeAdding_48 : decode cX10_countBeforeAdding 48 = .ok (.getfield 9, 3) := by decide +kernel
theorem dX10_countBeforeAdding_51 : decode cX10_countBeforeAdding 51 = .ok (.iload 5, 2) := by decide +kernel
theorem dX10_countBeforeAdding_53 : decode cX10_countBeforeAdding 53 = .ok (.laload, 1) := by decide +kernel
theorem dX10_countBeforeAdding_54 : decode cX10_countBeforeAdding 54 = .ok (.lload_n 1, 1) := by decide +kernel
theorem dX10_countBeforeAdding_55 : decode cX10_countBeforeAdding 55 = .ok (.lcmp, 1) := by decide +kernel
theorem dX10_countBeforeAdding_56 : decode cX10_countBeforeAdding 56 = .ok (.ifCond .ne 24, 3) := by decide +kernel
theorem dX10_countBeforeAdding_59 : decode cX10_countBeforeAdding 59 = .ok (.aload_n 0, 1) := by decide +kernel
theorem dX10_countBeforeAdding_60 : decode cX10_countBeforeAdding 60 = .ok (.getfield 13, 3) := by decide +kernel
theorem dX10_countBeforeAdding_63 : decode cX10_countBeforeAdding 63 = .ok (.iload 5, 2) := by decide +kernel
theorem dX10_countBeforeAdding_65 : decode cX10_countBeforeAdding 65 = .ok (.dup2, 1) := by decide +kernel
theorem dX10_countBeforeAdding_66 : decode cX10_countBeforeAdding 66 = .ok (.iaload, 1) := by decide +kernel
theorem dX10_countBeforeAdding_67 : decode cX10_countBeforeAdding 67 = .ok (.iconst 1, 1) := by decide +kernel
theorem dX10_countBeforeAdding_68 : decode cX10_countBeforeAdding 68 = .ok (.iadd, 1) := by decide +kernel
theorem dX10_countBeforeAdding_69 : decode cX10_countBeforeAdding 69 = .ok (.iastore, 1) := by decide +kernel
theorem dX10_countBeforeAdding_70 : decode cX10_countBeforeAdding 70 = .ok (.aload_n 0, 1) := by decide +kernel
theorem dX10_countBeforeAdding_71 : decode cX10_countBeforeAdding 71 = .ok (.getfield 13, 3) := by decide +kernel
theorem dX10_countBeforeAdding_74 : decode cX10_countBeforeAdding 74 = .ok (.iload 5, 2) := by decide +kernel
theorem dX10_countBeforeAdding_76 : decode cX10_countBeforeAdding 76 = .ok (.iaload, 1) := by decide +kernel
theorem dX10_countBeforeAdding_77 : decode cX10_countBeforeAdding 77 = .ok (.iconst 1, 1) := by decide +kernel
theorem dX10_countBeforeAdding_78 : decode cX10_countBeforeAdding 78 = .ok (.isub, 1) := by decide +kernel
theorem dX10_countBeforeAdding_79 : decode cX10_countBeforeAdding 79 = .ok (.ireturn, 1) := by decide +kernel
theorem dX10_countBeforeAdding_80 : decode cX10_countBeforeAdding 80 = .ok (.iinc 4 1, 3) := by decide +kernel
theorem dX10_countBeforeAdding_83 : decode cX10_countBeforeAdding 83 = .ok (.goto (-70), 3) := by decide +kernel
theorem dX10_countBeforeAdding_86 : decode cX10_countBeforeAdding 86 = .ok (.iconst 0, 1) := by decide +kernel
theorem dX10_countBeforeAdding_87 : decode cX10_countBeforeAdding 87 = .ok (.ireturn, 1) := by decide +kernel
theorem dX11_init_0 : decode cX11_init 0 = .ok (.aload_n 0, 1) := by decide +kernel
theorem dX11_init_1 : decode cX11_init 1 = .ok (.invokespecial 1, 3) := by decide +kernel
theorem dX11_init_4 : decode cX11_init 4 = .ok (.aload_n 0, 1) := by decide +kernel
theorem dX11_init_5 : decode cX11_init 5 = .ok (.new 7, 3) := by decide +kernel
theorem dX11_init_8 : decode cX11_init 8 = .ok (.dup, 1) := by decide +kernel
theorem dX11_init_9 : decode cX11_init 9 = .ok (.invokespecial 9, 3) := by decide +kernel
theorem dX11_init_12 : decode cX11_init 12 = .ok (.putfield 10, 3) := by decide +kernel
theorem dX11_init_15 : decode cX11_init 15 = .ok (.aload_n 0, 1) := by decide +kernel
theorem dX11_init_16 : decode cX11_init 16 = .ok (.new 7, 3) := by decide +kernel
theorem dX11_init_19 : decode cX11_init 19 = .ok (.dup, 1) := by decide +kernel
theorem dX11_init_20 : decode cX11_init 20 = .ok (.invokespecial 9, 3) := by decide +kernel
theorem dX11_init_23 : decode cX11_init 23 = .ok (.putfield 16, 3) := by decide +kernel
theorem dX11_init_26 : decode cX11_init 26 = .ok (.aload_n 0, 1) := by decide +kernel
theorem dX11_init_27 : decode cX11_init 27 = .ok (.iconst 0, 1) := by decide +kernel
theorem dX11_init_28 : decode cX11_init 28 = .ok (.putfield 19, 3) := by decide +kernel
theorem dX11_init_31 : decode cX11_init 31 = .ok (.aload_n 0, 1) := by decide +kernel
theorem dX11_init_32 : decode cX11_init 32 = .ok (.new 23, 3) := by decide +kernel
theorem dX11_init_35 : decode cX11_init 35 = .ok (.dup, 1) := by decide +kernel
theorem dX11_init_36 : decode cX11_init 36 = .ok (.invokespecial 25, 3) := by decide +kernel
theorem dX11_init_39 : decode cX11_init 39 = .ok (.putfield 26, 3) := by decide +kernel
theorem dX11_init_42 : decode cX11_init 42 = .ok (.aload_n 0, 1) := by decide +kernel
theorem dX11_init_43 : decode cX11_init 43 = .ok (.new 30, 3) := by decide +kernel
theorem dX11_init_46 : decode cX11_init 46 = .ok (.dup, 1) := by decide +kernel
theorem dX11_init_47 : decode cX11_init 47 = .ok (.invokespecial 32, 3) := by decide +kernel
theorem dX11_init_50 : decode cX11_init 50 = .ok (.putfield 33, 3) := by decide +kernel
theorem dX11_init_53 : decode cX11_init 53 = .ok (.aload_n 0, 1) := by decide +kernel
theorem dX11_init_54 : decode cX11_init 54 = .ok (.iconst (-1), 1) := by decide +kernel
theorem dX11_init_55 : decode cX11_init 55 = .ok (.putfield 37, 3) := by decide +kernel
theorem dX11_init_58 : decode cX11_init 58 = .ok (.aload_n 0, 1) := by decide +kernel
theorem dX11_init_59 : decode cX11_init 59 = .ok (.iconst (-1), 1) := by decide +kernel
theorem dX11_init_60 : decode cX11_init 60 = .ok (.putfield 41, 3) := by decide +kernel
theorem dX11_init_63 : decode cX11_init 63 = .ok (.aload_n 0, 1) := by decide +kernel
theorem dX11_init_64 : decode cX11_init 64 = .ok (.new 44, 3) := by decide +kernel
theorem dX11_init_67 : decode cX11_init 67 = .ok (.dup, 1) := by decide +kernel
theorem dX11_init_68 : decode cX11_init 68 = .ok (.invokespecial 46, 3) := by decide +kernel
theorem dX11_init_71 : decode cX11_init 71 = .ok (.putfield 47, 3) := by decide +kernel
theorem dX11_init_74 : decode cX11_init 74 = .ok (.aload_n 0, 1) := by decide +kernel
theorem dX11_init_75 : decode cX11_init 75 = .ok (.new 51, 3) := by decide +kernel
theorem dX11_init_78 : decode cX11_init 78 = .ok (.dup, 1) := by decide +kernel
theorem dX11_init_79 : decode cX11_init 79 = .ok (.invokespecial 53, 3) := by decide +kernel
theorem dX11_init_82 : decode cX11_init 82 = .ok (.putfield 54, 3) := by decide +kernel
theorem dX11_init_85 : decode cX11_init 85 = .ok (.aload_n 0, 1) := by decide +kernel
theorem dX11_init_86 : decode cX11_init 86 = .ok (.new 58, 3) := by decide +kernel
theorem dX11_init_89 : decode cX11_init 89 = .ok (.dup, 1) := by decide +kernel
theorem dX11_init_90 : decode cX11_init 90 = .ok (.invokespecial 60, 3) := by decide +kernel
theorem dX11_init_93 : decode cX11_init 93 = .ok (.putfield 61, 3) := by decide +kernel
theorem dX11_init_96 : decode cX11_init 96 = .ok (.aload_n 0, 1) := by decide +kernel
theorem dX11_init_97 : decode cX11_init 97 = .ok (.new 65, 3) := by decide +kernel
theorem dX11_init_100 : decode cX11_init 100 = .ok (.dup, 1) := by decide +kernel
theorem dX11_init_101 : decode cX11_init 101 = .ok (.invokespecial 67, 3) := by decide +kernel
theorem dX11_init_104 : decode cX11_init 104 = .ok (.putfield 68, 3) := by decide +kernel
theorem dX11_init_107 : decode cX11_init 107 = .ok (.return_, 1) := by decide +kernel
theorem dX11_addClause_0 : decode cX11_addClause 0 = .ok (.aload_n 0, 1) := by decide +kernel
theorem dX11_addClause_1 : decode cX11_addClause 1 = .ok (.getfield 26, 3) := by decide +kernel
theorem dX11_addClause_4 : decode cX11_addClause 4 = .ok (.aload_n 0, 1) := by decide +kernel
theorem dX11_addClause_5 : decode cX11_addClause 5 = .ok (.getfield 10, 3) := by decide +kernel
theorem dX11_addClause_8 : decode cX11_addClause 8 = .ok (.invokevirtual 72, 3) := by decide +kernel
theorem dX11_addClause_11 : decode cX11_addClause 11 = .ok (.aload_n 0, 1) := by decide +kernel
theorem dX11_addClause_12 : decode cX11_addClause 12 = .ok (.aload_n 0, 1) := by decide +kernel
theorem dX11_addClause_13 : decode cX11_addClause 13 = .ok (.getfield 10, 3) := by decide +kernel
theorem dX11_addClause_16 : decode cX11_addClause 16 = .ok (.iload_n 1, 1) := by decide +kernel
theorem dX11_addClause_17 : decode cX11_addClause 17 = .ok (.iload_n 2, 1) := by decide +kernel
theorem dX11_addClause_18 : decode cX11_addClause 18 = .ok (.invokevirtual 76, 3) := by decide +kernel
theorem dX11_addClause_21 : decode cX11_addClause 21 = .ok (.invokevirtual 80, 3) := by decide +kernel
theorem dX11_addClause_24 : decode cX11_addClause 24 = .ok (.ireturn, 1) := by decide +kernel
theorem dX11_insertNote_0 : decode cX11_insertNote 0 = .ok (.aload_n 0, 1) := by decide +kernel
theorem dX11_insertNote_1 : decode cX11_insertNote 1 = .ok (.getfield 26, 3) := by decide +kernel
theorem dX11_insertNote_4 : decode cX11_insertNote 4 = .ok (.aload_n 0, 1) := by decide +kernel
theorem dX11_insertNote_5 : decode cX11_insertNote 5 = .ok (.getfield 10, 3) := by decide +kernel
theorem dX11_insertNote_8 : decode cX11_insertNote 8 = .ok (.invokevirtual 72, 3) := by decide +kernel
theorem dX11_insertNote_11 : decode cX11_insertNote 11 = .ok (.aload_n 0, 1) := by decide +kernel
theorem dX11_insertNote_12 : decode cX11_insertNote 12 = .ok (.aload_n 0, 1) := by decide +kernel
theorem dX11_insertNote_13 : decode cX11_insertNote 13 = .ok (.getfield 10, 3) := by decide +kernel
theorem dX11_insertNote_16 : decode cX11_insertNote 16 = .ok (.iload_n 1, 1) := by decide +kernel
theorem dX11_insertNote_17 : decode cX11_insertNote 17 = .ok (.iload_n 2, 1) := by decide +kernel
theorem dX11_insertNote_18 : decode cX11_insertNote 18 = .ok (.iload_n 3, 1) := by decide +kernel
theorem dX11_insertNote_19 : decode cX11_insertNote 19 = .ok (.invokevirtual 84, 3) := by decide +kernel
theorem dX11_insertNote_22 : decode cX11_insertNote 22 = .ok (.invokevirtual 80, 3) := by decide +kernel
theorem dX11_insertNote_25 : decode cX11_insertNote 25 = .ok (.ireturn, 1) := by decide +kernel
theorem dX11_replaceNote_0 : decode cX11_replaceNote 0 = .ok (.aload_n 0, 1) := by decide +kernel
theorem dX11_replaceNote_1 : decode cX11_replaceNote 1 = .ok (.getfield 26, 3) := by decide +kernel
theorem dX11_replaceNote_4 : decode cX11_replaceNote 4 = .ok (.aload_n 0, 1) := by decide +kernel
theorem dX11_replaceNote_5 : decode cX11_replaceNote 5 = .ok (.getfield 10, 3) := by decide +kernel
theorem dX11_replaceNote_8 : decode cX11_replaceNote 8 = .ok (.invokevirtual 72, 3) := by decide +kernel
theorem dX11_replaceNote_11 : decode cX11_replaceNote 11 = .ok (.aload_n 0, 1) := by decide +kernel
theorem dX11_replaceNote_12 : decode cX11_replaceNote 12 = .ok (.aload_n 0, 1) := by decide +kernel
theorem dX11_replaceNote_13 : decode cX11_replaceNote 13 = .ok (.getfield 10, 3) := by decide +kernel
theorem dX11_replaceNote_16 : decode cX11_replaceNote 16 = .ok (.iload_n 1, 1) := by decide +kernel
theorem dX11_replaceNote_17 : decode cX11_replaceNote 17 = .ok (.iload_n 2, 1) := by decide +kernel
theorem dX11_replaceNote_18 : decode cX11_replaceNote 18 = .ok (.iload_n 3, 1) := by decide +kernel
theorem dX11_replaceNote_19 : decode cX11_replaceNote 19 = .ok (.invokevirtual 88, 3) := by decide +kernel
theorem dX11_replaceNote_22 : decode cX11_replaceNote 22 = .ok (.invokevirtual 80, 3) := by decide +kernel
theorem dX11_replaceNote_25 : decode cX11_replaceNote 25 = .ok (.ireturn, 1) := by decide +kernel
theorem dX11_deleteNote_0 : decode cX11_deleteNote 0 = .ok (.aload_n 0, 1) := by decide +kernel
theorem dX11_deleteNote_1 : decode cX11_deleteNote 1 = .ok (.getfield 26, 3) := by decide +kernel
theorem dX11_deleteNote_4 : decode cX11_deleteNote 4 = .ok (.aload_n 0, 1) := by decide +kernel
theorem dX11_deleteNote_5 : decode cX11_deleteNote 5 = .ok (.getfield 10, 3) := by decide +kernel
theorem dX11_deleteNote_8 : decode cX11_deleteNote 8 = .ok (.invokevirtual 72, 3) := by decide +kernel
theorem dX11_deleteNote_11 : decode cX11_deleteNote 11 = .ok (.aload_n 0, 1) := by decide +kernel
theorem dX11_deleteNote_12 : decode cX11_deleteNote 12 = .ok (.aload_n 0, 1) := by decide +kernel
theorem dX11_deleteNote_13 : decode cX11_deleteNote 13 = .ok (.getfield 10, 3) := by decide +kernel
theorem dX11_deleteNote_16 : decode cX11_deleteNote 16 = .ok (.iload_n 1, 1) := by decide +kernel
theorem dX11_deleteNote_17 : decode cX11_deleteNote 17 = .ok (.iload_n 2, 1) := by decide +kernel
theorem dX11_deleteNote_18 : decode cX11_deleteNote 18 = .ok (.invokevirtual 91, 3) := by decide +kernel
theorem dX11_deleteNote_21 : decode cX11_deleteNote 21 = .ok (.invokevirtual 80, 3) := by decide +kernel
theorem dX11_deleteNote_24 : decode cX11_deleteNote 24 = .ok (.ireturn, 1) := by decide +kernel
theorem dX11_setSunset_0 : decode cX11_setSunset 0 = .ok (.aload_n 0, 1) := by decide +kernel
theorem dX11_setSunset_1 : decode cX11_setSunset 1 = .ok (.getfield 26, 3) := by decide +kernel
theorem dX11_setSunset_4 : decode cX11_setSunset 4 = .ok (.aload_n 0, 1) := by decide +kernel
theorem dX11_setSunset_5 : decode cX11_setSunset 5 = .ok (.getfield 10, 3) := by decide +kernel
theorem dX11_setSunset_8 : decode cX11_setSunset 8 = .ok (.invokevirtual 72, 3) := by decide +kernel
theorem dX11_setSunset_11 : decode cX11_setSunset 11 = .ok (.aload_n 0, 1) := by decide +kernel
theorem dX11_setSunset_12 : decode cX11_setSunset 12 = .ok (.aload_n 0, 1) := by decide +kernel
theorem dX11_setSunset_13 : decode cX11_setSunset 13 = .ok (.getfield 10, 3) := by decide +kernel
theorem dX11_setSunset_16 : decode cX11_setSunset 16 = .ok (.iload_n 1, 1) := by decide +kernel
theorem dX11_setSunset_17 : decode cX11_setSunset 17 = .ok (.iload_n 2, 1) := by decide +kernel
theorem dX11_setSunset_18 : decode cX11_setSunset 18 = .ok (.invokevirtual 95, 3) := by decide +kernel
theorem dX11_setSunset_21 : decode cX11_setSunset 21 = .ok (.invokevirtual 80, 3) := by decide +kernel
theorem dX11_setSunset_24 : decode cX11_setSunset 24 = .ok (.ireturn, 1) := by decide +kernel
theorem dX11_cite_0 : decode cX11_cite 0 = .ok (.aload_n 0, 1) := by decide +kernel
theorem dX11_cite_1 : decode cX11_cite 1 = .ok (.getfield 26, 3) := by decide +kernel
theorem dX11_cite_4 : decode cX11_cite 4 = .ok (.aload_n 0, 1) := by decide +kernel
theorem dX11_cite_5 : decode cX11_cite 5 = .ok (.getfield 10, 3) := by decide +kernel
theorem dX11_cite_8 : decode cX11_cite 8 = .ok (.invokevirtual 72, 3) := by decide +kernel
theorem dX11_cite_11 : decode cX11_cite 11 = .ok (.aload_n 0, 1) := by decide +kernel
theorem dX11_cite_12 : decode cX11_cite 12 = .ok (.aload_n 0, 1) := by decide +kernel
theorem dX11_cite_13 : decode cX11_cite 13 = .ok (.getfield 10, 3) := by decide +kernel
theorem dX11_cite_16 : decode cX11_cite 16 = .ok (.iload_n 1, 1) := by decide +kernel
theorem dX11_cite_17 : decode cX11_cite 17 = .ok (.iload_n 2, 1) := by decide +kernel
theorem dX11_cite_18 : decode cX11_cite 18 = .ok (.invokevirtual 98, 3) := by decide +kernel
theorem dX11_cite_21 : decode cX11_cite 21 = .ok (.invokevirtual 80, 3) := by decide +kernel
theorem dX11_cite_24 : decode cX11_cite 24 = .ok (.ireturn, 1) := by decide +kernel
theorem dX11_uncite_0 : decode cX11_uncite 0 = .ok (.aload_n 0, 1) := by decide +kernel
theorem dX11_uncite_1 : decode cX11_uncite 1 = .ok (.getfield 26, 3) := by decide +kernel
theorem dX11_uncite_4 : decode cX11_uncite 4 = .ok (.aload_n 0, 1) := by decide +kernel
theorem dX11_uncite_5 : decode cX11_uncite 5 = .ok (.getfield 10, 3) := by decide +kernel
theorem dX11_uncite_8 : decode cX11_uncite 8 = .ok (.invokevirtual 72, 3) := by decide +kernel
theorem dX11_uncite_11 : decode cX11_uncite 11 = .ok (.aload_n 0, 1) := by decide +kernel
theorem dX11_uncite_12 : decode cX11_uncite 12 = .ok (.aload_n 0, 1) := by decide +kernel
theorem dX11_uncite_13 : decode cX11_uncite 13 = .ok (.getfield 10, 3) := by decide +kernel
theorem dX11_uncite_16 : decode cX11_uncite 16 = .ok (.iload_n 1, 1) := by decide +kernel
theorem dX11_uncite_17 : decode cX11_uncite 17 = .ok (.iload_n 2, 1) := by decide +kernel
theorem dX11_uncite_18 : decode cX11_uncite 18 = .ok (.invokevirtual 101, 3) := by decide +kernel
theorem dX11_uncite_21 : decode cX11_uncite 21 = .ok (.invokevirtual 80, 3) := by decide +kernel
theorem dX11_uncite_24 : decode cX11_uncite 24 = .ok (.ireturn, 1) := by decide +kernel
theorem dX11_repeal_0 : decode cX11_repeal 0 = .ok (.aload_n 0, 1) := by decide +kernel
theorem dX11_repeal_1 : decode cX11_repeal 1 = .ok (.getfield 26, 3) := by decide +kernel
theorem dX11_repeal_4 : decode cX11_repeal 4 = .ok (.aload_n 0, 1) := by decide +kernel
theorem dX11_repeal_5 : decode cX11_repeal 5 = .ok (.getfield 10, 3) := by decide +kernel
theorem dX11_repeal_8 : decode cX11_repeal 8 = .ok (.invokevirtual 72, 3) := by decide +kernel
theorem dX11_repeal_11 : decode cX11_repeal 11 = .ok (.aload_n 0, 1) := by decide +kernel
theorem dX11_repeal_12 : decode cX11_repeal 12 = .ok (.aload_n 0, 1) := by decide +kernel
theorem dX11_repeal_13 : decode cX11_repeal 13 = .ok (.getfield 10, 3) := by decide +kernel
theorem dX11_repeal_16 : decode cX11_repeal 16 = .ok (.iload_n 1, 1) := by decide +kernel
theorem dX11_repeal_17 : decode cX11_repeal 17 = .ok (.invokevirtual 104, 3) := by decide +kernel
theorem dX11_repeal_20 : decode cX11_repeal 20 = .ok (.invokevirtual 80, 3) := by decide +kernel
theorem dX11_repeal_23 : decode cX11_repeal 23 = .ok (.ireturn, 1) := by decide +kernel
theorem dX11_consolidate_0 : decode cX11_consolidate 0 = .ok (.aload_n 0, 1) := by decide +kernel
theorem dX11_consolidate_1 : decode cX11_consolidate 1 = .ok (.getfield 26, 3) := by decide +kernel
theorem dX11_consolidate_4 : decode cX11_consolidate 4 = .ok (.aload_n 0, 1) := by decide +kernel
theorem dX11_consolidate_5 : decode cX11_consolidate 5 = .ok (.getfield 10, 3) := by decide +kernel
theorem dX11_consolidate_8 : decode cX11_consolidate 8 = .ok (.invokevirtual 72, 3) := by decide +kernel
theorem dX11_consolidate_11 : decode cX11_consolidate 11 = .ok (.aload_n 0, 1) := by decide +kernel
theorem dX11_consolidate_12 : decode cX11_consolidate 12 = .ok (.aload_n 0, 1) := by decide +kernel
theorem dX11_consolidate_13 : decode cX11_consolidate 13 = .ok (.getfield 10, 3) := by decide +kernel
theorem dX11_consolidate_16 : decode cX11_consolidate 16 = .ok (.invokevirtual 107, 3) := by decide +kernel
theorem dX11_consolidate_19 : decode cX11_consolidate 19 = .ok (.invokevirtual 80, 3) := by decide +kernel
theorem dX11_consolidate_22 : decode cX11_consolidate 22 = .ok (.ireturn, 1) := by decide +kernel
theorem dX11_advance_0 : decode cX11_advance 0 = .ok (.aload_n 0, 1) := by decide +kernel
theorem dX11_advance_1 : decode cX11_advance 1 = .ok (.getfield 26, 3) := by decide +kernel
theorem dX11_advance_4 : decode cX11_advance 4 = .ok (.aload_n 0, 1) := by decide +kernel
theorem dX11_advance_5 : decode cX11_advance 5 = .ok (.getfield 10, 3) := by decide +kernel
theorem dX11_advance_8 : decode cX11_advance 8 = .ok (.invokevirtual 72, 3) := by decide +kernel
theorem dX11_advance_11 : decode cX11_advance 11 = .ok (.aload_n 0, 1) := by decide +kernel
theorem dX11_advance_12 : decode cX11_advance 12 = .ok (.aload_n 0, 1) := by decide +kernel
theorem dX11_advance_13 : decode cX11_advance 13 = .ok (.getfield 10, 3) := by decide +kernel
theorem dX11_advance_16 : decode cX11_advance 16 = .ok (.iload_n 1, 1) := by decide +kernel
theorem dX11_advance_17 : decode cX11_advance 17 = .ok (.invokevirtual 111, 3) := by decide +kernel
theorem dX11_advance_20 : decode cX11_advance 20 = .ok (.invokevirtual 80, 3) := by decide +kernel
theorem dX11_advance_23 : decode cX11_advance 23 = .ok (.ireturn, 1) := by decide +kernel
theorem dX11_settle_0 : decode cX11_settle 0 = .ok (.iload_n 1, 1) := by decide +kernel
theorem dX11_settle_1 : decode cX11_settle 1 = .ok (.invokestatic 114, 3) := by decide +kernel
theorem dX11_settle_4 : decode cX11_settle 4 = .ok (.aload_n 0, 1) := by decide +kernel
theorem dX11_settle_5 : decode cX11_settle 5 = .ok (.getfield 26, 3) := by decide +kernel
theorem dX11_settle_8 : decode cX11_settle 8 = .ok (.invokevirtual 118, 3) := by decide +kernel
theorem dX11_settle_11 : decode cX11_settle 11 = .ok (.iload_n 1, 1) := by decide +kernel
theorem dX11_settle_12 : decode cX11_settle 12 = .ok (.ireturn, 1) := by decide +kernel
theorem dX11_refuse_0 : decode cX11_refuse 0 = .ok (.iload_n 0, 1) := by decide +kernel
theorem dX11_refuse_1 : decode cX11_refuse 1 = .ok (.tableswitch 75 (-5) (-1) #[67, 59, 51, 43, 35], 35) := by decide +kernel
theorem dX11_refuse_36 : decode cX11_refuse 36 = .ok (.new 121, 3) := by decide +kernel
theorem dX11_refuse_39 : decode cX11_refuse 39 = .ok (.dup, 1) := by decide +kernel
theorem dX11_refuse_40 : decode cX11_refuse 40 = .ok (.invokespecial 123, 3) := by decide +kernel
theorem dX11_refuse_43 : decode cX11_refuse 43 = .ok (.athrow, 1) := by decide +kernel
theorem dX11_refuse_44 : decode cX11_refuse 44 = .ok (.new 124, 3) := by decide +kernel
theorem dX11_refuse_47 : decode cX11_refuse 47 = .ok (.dup, 1) := by decide +kernel
theorem dX11_refuse_48 : decode cX11_refuse 48 = .ok (.invokespecial 126, 3) := by decide +kernel
theorem dX11_refuse_51 : decode cX11_refuse 51 = .ok (.athrow, 1) := by decide +kernel
theorem dX11_refuse_52 : decode cX11_refuse 52 = .ok (.new 127, 3) := by decide +kernel
theorem dX11_refuse_55 : decode cX11_refuse 55 = .ok (.dup, 1) := by decide +kernel
theorem dX11_refuse_56 : decode cX11_refuse 56 = .ok (.invokespecial 129, 3) := by decide +kernel
theorem dX11_refuse_59 : decode cX11_refuse 59 = .ok (.athrow, 1) := by decide +kernel
theorem dX11_refuse_60 : decode cX11_refuse 60 = .ok (.new 130, 3) := by decide +kernel
theorem dX11_refuse_63 : decode cX11_refuse 63 = .ok (.dup, 1) := by decide +kernel
theorem dX11_refuse_64 : decode cX11_refuse 64 = .ok (.invokespecial 132, 3) := by decide +kernel
theorem dX11_refuse_67 : decode cX11_refuse 67 = .ok (.athrow, 1) := by decide +kernel
theorem dX11_refuse_68 : decode cX11_refuse 68 = .ok (.new 133, 3) := by decide +kernel
theorem dX11_refuse_71 : decode cX11_refuse 71 = .ok (.dup, 1) := by decide +kernel
theorem dX11_refuse_72 : decode cX11_refuse 72 = .ok (.invokespecial 135, 3) := by decide +kernel
theorem dX11_refuse_75 : decode cX11_refuse 75 = .ok (.athrow, 1) := by decide +kernel
theorem dX11_refuse_76 : decode cX11_refuse 76 = .ok (.return_, 1) := by decide +kernel
theorem dX11_day_0 : decode cX11_day 0 = .ok (.aload_n 0, 1) := by decide +kernel
theorem dX11_day_1 : decode cX11_day 1 = .ok (.getfield 10, 3) := by decide +kernel
theorem dX11_day_4 : decode cX11_day 4 = .ok (.getfield 136, 3) := by decide +kernel
theorem dX11_day_7 : decode cX11_day 7 = .ok (.ireturn, 1) := by decide +kernel
theorem dX11_clauseCount_0 : decode cX11_clauseCount 0 = .ok (.aload_n 0, 1) := by decide +kernel
theorem dX11_clauseCount_1 : decode cX11_clauseCount 1 = .ok (.getfield 10, 3) := by decide +kernel
theorem dX11_clauseCount_4 : decode cX11_clauseCount 4 = .ok (.invokevirtual 139, 3) := by decide +kernel
theorem dX11_clauseCount_7 : decode cX11_clauseCount 7 = .ok (.ireturn, 1) := by decide +kernel
theorem dX11_clauseAt_0 : decode cX11_clauseAt 0 = .ok (.aload_n 0, 1) := by decide +kernel
theorem dX11_clauseAt_1 : decode cX11_clauseAt 1 = .ok (.getfield 10, 3) := by decide +kernel
theorem dX11_clauseAt_4 : decode cX11_clauseAt 4 = .ok (.iload_n 1, 1) := by decide +kernel
theorem dX11_clauseAt_5 : decode cX11_clauseAt 5 = .ok (.invokevirtual 142, 3) := by decide +kernel
theorem dX11_clauseAt_8 : decode cX11_clauseAt 8 = .ok (.invokestatic 146, 3) := by decide +kernel
theorem dX11_clauseAt_11 : decode cX11_clauseAt 11 = .ok (.getfield 150, 3) := by decide +kernel
theorem dX11_clauseAt_14 : decode cX11_clauseAt 14 = .ok (.ireturn, 1) := by decide +kernel
theorem dX11_clauseOfSection_0 : decode cX11_clauseOfSection 0 = .ok (.aload_n 0, 1) := by decide +kernel
theorem dX11_clauseOfSection_1 : decode cX11_clauseOfSection 1 = .ok (.getfield 10, 3) := by decide +kernel
theorem dX11_clauseOfSection_4 : decode cX11_clauseOfSection 4 = .ok (.iload_n 1, 1) := by decide +kernel
theorem dX11_clauseOfSection_5 : decode cX11_clauseOfSection 5 = .ok (.invokevirtual 155, 3) := by decide +kernel
theorem dX11_clauseOfSection_8 : decode cX11_clauseOfSection 8 = .ok (.invokestatic 146, 3) := by decide +kernel
theorem dX11_clauseOfSection_11 : decode cX11_clauseOfSection 11 = .ok (.getfield 150, 3) := by decide +kernel
theorem dX11_clauseOfSection_14 : decode cX11_clauseOfSection 14 = .ok (.ireturn, 1) := by decide +kernel
theorem dX11_section_0 : decode cX11_section 0 = .ok (.aload_n 0, 1) := by decide +kernel
theorem dX11_section_1 : decode cX11_section 1 = .ok (.iload_n 1, 1) := by decide +kernel
theorem dX11_section_2 : decode cX11_section 2 = .ok (.invokevirtual 158, 3) := by decide +kernel
theorem dX11_section_5 : decode cX11_section 5 = .ok (.getfield 161, 3) := by decide +kernel
theorem dX11_section_8 : decode cX11_section 8 = .ok (.ireturn, 1) := by decide +kernel
theorem dX11_enactedOn_0 : decode cX11_enactedOn 0 = .ok (.aload_n 0, 1) := by decide +kernel
theorem dX11_enactedOn_1 : decode cX11_enactedOn 1 = .ok (.iload_n 1, 1) := by decide +kernel
theorem dX11_enactedOn_2 : decode cX11_enactedOn 2 = .ok (.invokevirtual 158, 3) := by decide +kernel
theorem dX11_enactedOn_5 : decode cX11_enactedOn 5 = .ok (.getfield 164, 3) := by decide +kernel
theorem dX11_enactedOn_8 : decode cX11_enactedOn 8 = .ok (.ireturn, 1) := by decide +kernel
theorem dX11_sunset_0 : decode cX11_sunset 0 = .ok (.aload_n 0, 1) := by decide +kernel
theorem dX11_sunset_1 : decode cX11_sunset 1 = .ok (.iload_n 1, 1) := by decide +kernel
theorem dX11_sunset_2 : decode cX11_sunset 2 = .ok (.invokevirtual 167, 3) := by decide +kernel
theorem dX11_sunset_5 : decode cX11_sunset 5 = .ok (.getfield 170, 3) := by decide +kernel
theorem dX11_sunset_8 : decode cX11_sunset 8 = .ok (.ireturn, 1) := by decide +kernel
theorem dX11_isInForce_0 : decode cX11_isInForce 0 = .ok (.aload_n 0, 1) := by decide +kernel
theorem dX11_isInForce_1 : decode cX11_isInForce 1 = .ok (.iload_n 1, 1) := by decide +kernel
theorem dX11_isInForce_2 : decode cX11_isInForce 2 = .ok (.invokevirtual 158, 3) := by decide +kernel
theorem dX11_isInForce_5 : decode cX11_isInForce 5 = .ok (.iload_n 2, 1) := by decide +kernel
theorem dX11_isInForce_6 : decode cX11_isInForce 6 = .ok (.invokevirtual 173, 3) := by decide +kernel
theorem dX11_isInForce_9 : decode cX11_isInForce 9 = .ok (.ireturn, 1) := by decide +kernel
theorem dX11_hasLapsed_0 : decode cX11_hasLapsed 0 = .ok (.aload_n 0, 1) := by decide +kernel
theorem dX11_hasLapsed_1 : decode cX11_hasLapsed 1 = .ok (.iload_n 1, 1) := by decide +kernel
theorem dX11_hasLapsed_2 : decode cX11_hasLapsed 2 = .ok (.invokevirtual 158, 3) := by decide +kernel
theorem dX11_hasLapsed_5 : decode cX11_hasLapsed 5 = .ok (.aload_n 0, 1) := by decide +kernel
theorem dX11_hasLapsed_6 : decode cX11_hasLapsed 6 = .ok (.getfield 10, 3) := by decide +kernel
theorem dX11_hasLapsed_9 : decode cX11_hasLapsed 9 = .ok (.getfield 136, 3) := by decide +kernel
theorem dX11_hasLapsed_12 : decode cX11_hasLapsed 12 = .ok (.invokevirtual 177, 3) := by decide +kernel
theorem dX11_hasLapsed_15 : decode cX11_hasLapsed 15 = .ok (.ireturn, 1) := by decide +kernel
theorem dX11_inForceOn_0 : decode cX11_inForceOn 0 = .ok (.aload_n 0, 1) := by decide +kernel
theorem dX11_inForceOn_1 : decode cX11_inForceOn 1 = .ok (.getfield 10, 3) := by decide +kernel
theorem dX11_inForceOn_4 : decode cX11_inForceOn 4 = .ok (.iload_n 1, 1) := by decide +kernel
theorem dX11_inForceOn_5 : decode cX11_inForceOn 5 = .ok (.invokevirtual 180, 3) := by decide +kernel
theorem dX11_inForceOn_8 : decode cX11_inForceOn 8 = .ok (.ireturn, 1) := by decide +kernel
theorem dX11_daysUntilLapsed_0 : decode cX11_daysUntilLapsed 0 = .ok (.aload_n 0, 1) := by decide +kernel
theorem dX11_daysUntilLapsed_1 : decode cX11_daysUntilLapsed 1 = .ok (.iload_n 1, 1) := by decide +kernel
theorem dX11_daysUntilLapsed_2 : decode cX11_daysUntilLapsed 2 = .ok (.invokevirtual 167, 3) := by decide +kernel
theorem dX11_daysUntilLapsed_5 : decode cX11_daysUntilLapsed 5 = .ok (.astore_n 2, 1) := by decide +kernel
theorem dX11_daysUntilLapsed_6 : decode cX11_daysUntilLapsed 6 = .ok (.aload_n 2, 1) := by decide +kernel
theorem dX11_daysUntilLapsed_7 : decode cX11_daysUntilLapsed 7 = .ok (.aload_n 0, 1) := by decide +kernel
theorem dX11_daysUntilLapsed_8 : decode cX11_daysUntilLapsed 8 = .ok (.getfield 10, 3) := by decide +kernel
theorem dX11_daysUntilLapsed_11 : decode cX11_daysUntilLapsed 11 = .ok (.getfield 136, 3) := by decide +kernel
theorem dX11_daysUntilLapsed_14 : decode cX11_daysUntilLapsed 14 = .ok (.invokevirtual 177, 3) := by decide +kernel
theorem dX11_daysUntilLapsed_17 : decode cX11_daysUntilLapsed 17 = .ok (.ifCond .eq 7, 3) := by decide +kernel
theorem dX11_daysUntilLapsed_20 : decode cX11_daysUntilLapsed 20 = .ok (.iconst 0, 1) := by decide +kernel
theorem dX11_daysUntilLapsed_21 : decode cX11_daysUntilLapsed 21 = .ok (.goto 17, 3) := by decide +kernel
theorem dX11_daysUntilLapsed_24 : decode cX11_daysUntilLapsed 24 = .ok (.aload_n 2, 1) := by decide +kernel
theorem dX11_daysUntilLapsed_25 : decode cX11_daysUntilLapsed 25 = .ok (.getfield 170, 3) := by decide +kernel
theorem dX11_daysUntilLapsed_28 : decode cX11_daysUntilLapsed 28 = .ok (.aload_n 0, 1) := by decide +kernel
theorem dX11_daysUntilLapsed_29 : decode cX11_daysUntilLapsed 29 = .ok (.getfield 10, 3) := by decide +kernel
theorem dX11_daysUntilLapsed_32 : decode cX11_daysUntilLapsed 32 = .ok (.getfield 136, 3) := by decide +kernel
theorem dX11_daysUntilLapsed_35 : decode cX11_daysUntilLapsed 35 = .ok (.isub, 1) := by decide +kernel
theorem dX11_daysUntilLapsed_36 : decode cX11_daysUntilLapsed 36 = .ok (.iconst 1, 1) := by decide +kernel
theorem dX11_daysUntilLapsed_37 : decode cX11_daysUntilLapsed 37 = .ok (.iadd, 1) := by decide +kernel
theorem dX11_daysUntilLapsed_38 : decode cX11_daysUntilLapsed 38 = .ok (.ireturn, 1) := by decide +kernel
theorem dX11_existing_0 : decode cX11_existing 0 = .ok (.aload_n 0, 1) := by decide +kernel
theorem dX11_existing_1 : decode cX11_existing 1 = .ok (.ifnonnull 11, 3) := by decide +kernel
theorem dX11_existing_4 : decode cX11_existing 4 = .ok (.new 121, 3) := by decide +kernel
theorem dX11_existing_7 : decode cX11_existing 7 = .ok (.dup, 1) := by decide +kernel
theorem dX11_existing_8 : decode cX11_existing 8 = .ok (.invokespecial 123, 3) := by decide +kernel
theorem dX11_existing_11 : decode cX11_existing 11 = .ok (.athrow, 1) := by decide +kernel
theorem dX11_existing_12 : decode cX11_existing 12 = .ok (.aload_n 0, 1) := by decide +kernel
theorem dX11_existing_13 : decode cX11_existing 13 = .ok (.areturn, 1) := by decide +kernel
theorem dX11_clauseOf_0 : decode cX11_clauseOf 0 = .ok (.aload_n 0, 1) := by decide +kernel
theorem dX11_clauseOf_1 : decode cX11_clauseOf 1 = .ok (.getfield 10, 3) := by decide +kernel
theorem dX11_clauseOf_4 : decode cX11_clauseOf 4 = .ok (.iload_n 1, 1) := by decide +kernel
theorem dX11_clauseOf_5 : decode cX11_clauseOf 5 = .ok (.invokevirtual 183, 3) := by decide +kernel
theorem dX11_clauseOf_8 : decode cX11_clauseOf 8 = .ok (.invokestatic 146, 3) := by decide +kernel
theorem dX11_clauseOf_11 : decode cX11_clauseOf 11 = .ok (.areturn, 1) := by decide +kernel
theorem dX11_clauseWithSunset_0 : decode cX11_clauseWithSunset 0 = .ok (.aload_n 0, 1) := by decide +kernel
theorem dX11_clauseWithSunset_1 : decode cX11_clauseWithSunset 1 = .ok (.iload_n 1, 1) := by decide +kernel
theorem dX11_clauseWithSunset_2 : decode cX11_clauseWithSunset 2 = .ok (.invokevirtual 158, 3) := by decide +kernel
theorem dX11_clauseWithSunset_5 : decode cX11_clauseWithSunset 5 = .ok (.astore_n 2, 1) := by decide +kernel
theorem dX11_clauseWithSunset_6 : decode cX11_clauseWithSunset 6 = .ok (.aload_n 2, 1) := by decide +kernel
theorem dX11_clauseWithSunset_7 : decode cX11_clauseWithSunset 7 = .ok (.invokevirtual 186, 3) := by decide +kernel
theorem dX11_clauseWithSunset_10 : decode cX11_clauseWithSunset 10 = .ok (.ifCond .ne 11, 3) := by decide +kernel
theorem dX11_clauseWithSunset_13 : decode cX11_clauseWithSunset 13 = .ok (.new 121, 3) := by decide +kernel
theorem dX11_clauseWithSunset_16 : decode cX11_clauseWithSunset 16 = .ok (.dup, 1) := by decide +kernel
theorem dX11_clauseWithSunset_17 : decode cX11_clauseWithSunset 17 = .ok (.invokespecial 123, 3) := by decide +kernel
theorem dX11_clauseWithSunset_20 : decode cX11_clauseWithSunset 20 = .ok (.athrow, 1) := by decide +kernel
theorem dX11_clauseWithSunset_21 : decode cX11_clauseWithSunset 21 = .ok (.aload_n 2, 1) := by decide +kernel
theorem dX11_clauseWithSunset_22 : decode cX11_clauseWithSunset 22 = .ok (.areturn, 1) := by decide +kernel
theorem dX11_length_0 : decode cX11_length 0 = .ok (.aload_n 0, 1) := by decide +kernel
theorem dX11_length_1 : decode cX11_length 1 = .ok (.iload_n 1, 1) := by decide +kernel
theorem dX11_length_2 : decode cX11_length 2 = .ok (.invokevirtual 158, 3) := by decide +kernel
theorem dX11_length_5 : decode cX11_length 5 = .ok (.invokevirtual 190, 3) := by decide +kernel
theorem dX11_length_8 : decode cX11_length 8 = .ok (.invokestatic 194, 3) := by decide +kernel
theorem dX11_length_11 : decode cX11_length 11 = .ok (.ireturn, 1) := by decide +kernel
theorem dX11_noteAt_0 : decode cX11_noteAt 0 = .ok (.aload_n 0, 1) := by decide +kernel
theorem dX11_noteAt_1 : decode cX11_noteAt 1 = .ok (.iload_n 1, 1) := by decide +kernel
theorem dX11_noteAt_2 : decode cX11_noteAt 2 = .ok (.invokevirtual 158, 3) := by decide +kernel
theorem dX11_noteAt_5 : decode cX11_noteAt 5 = .ok (.invokevirtual 190, 3) := by decide +kernel
theorem dX11_noteAt_8 : decode cX11_noteAt 8 = .ok (.iload_n 2, 1) := by decide +kernel
theorem dX11_noteAt_9 : decode cX11_noteAt 9 = .ok (.invokestatic 200, 3) := by decide +kernel
theorem dX11_noteAt_12 : decode cX11_noteAt 12 = .ok (.ireturn, 1) := by decide +kernel
theorem dX11_versionCount_0 : decode cX11_versionCount 0 = .ok (.aload_n 0, 1) := by decide +kernel
theorem dX11_versionCount_1 : decode cX11_versionCount 1 = .ok (.iload_n 1, 1) := by decide +kernel
theorem dX11_versionCount_2 : decode cX11_versionCount 2 = .ok (.invokevirtual 158, 3) := by decide +kernel
theorem dX11_versionCount_5 : decode cX11_versionCount 5 = .ok (.invokevirtual 204, 3) := by decide +kernel
theorem dX11_versionCount_8 : decode cX11_versionCount 8 = .ok (.ireturn, 1) := by decide +kernel
theorem dX11_lengthOn_0 : decode cX11_lengthOn 0 = .ok (.aload_n 0, 1) := by decide +kernel
theorem dX11_lengthOn_1 : decode cX11_lengthOn 1 = .ok (.iload_n 1, 1) := by decide +kernel
theorem dX11_lengthOn_2 : decode cX11_lengthOn 2 = .ok (.invokevirtual 158, 3) := by decide +kernel
theorem dX11_lengthOn_5 : decode cX11_lengthOn 5 = .ok (.iload_n 2, 1) := by decide +kernel
theorem dX11_lengthOn_6 : decode cX11_lengthOn 6 = .ok (.invokestatic 207, 3) := by decide +kernel
theorem dX11_lengthOn_9 : decode cX11_lengthOn 9 = .ok (.invokestatic 194, 3) := by decide +kernel
theorem dX11_lengthOn_12 : decode cX11_lengthOn 12 = .ok (.ireturn, 1) := by decide +kernel
theorem dX11_noteOn_0 : decode cX11_noteOn 0 = .ok (.aload_n 0, 1) := by decide +kernel
theorem dX11_noteOn_1 : decode cX11_noteOn 1 = .ok (.iload_n 1, 1) := by decide +kernel
theorem dX11_noteOn_2 : decode cX11_noteOn 2 = .ok (.invokevirtual 158, 3) := by decide +kernel
theorem dX11_noteOn_5 : decode cX11_noteOn 5 = .ok (.iload_n 2, 1) := by decide +kernel
theorem dX11_noteOn_6 : decode cX11_noteOn 6 = .ok (.invokestatic 207, 3) := by decide +kernel
theorem dX11_noteOn_9 : decode cX11_noteOn 9 = .ok (.iload_n 3, 1) := by decide +kernel
theorem dX11_noteOn_10 : decode cX11_noteOn 10 = .ok (.invokestatic 200, 3) := by decide +kernel
theorem dX11_noteOn_13 : decode cX11_noteOn 13 = .ok (.ireturn, 1) := by decide +kernel
theorem dX11_difference_0 : decode cX11_difference 0 = .ok (.aload_n 0, 1) := by decide +kernel
theorem dX11_difference_1 : decode cX11_difference 1 = .ok (.iload_n 1, 1) := by decide +kernel
theorem dX11_difference_2 : decode cX11_difference 2 = .ok (.invokevirtual 158, 3) := by decide +kernel
theorem dX11_difference_5 : decode cX11_difference 5 = .ok (.astore 4, 2) := by decide +kernel
theorem dX11_difference_7 : decode cX11_difference 7 = .ok (.aload_n 0, 1) := by decide +kernel
theorem dX11_difference_8 : decode cX11_difference 8 = .ok (.getfield 54, 3) := by decide +kernel
theorem dX11_difference_11 : decode cX11_difference 11 = .ok (.aload 4, 2) := by decide +kernel
theorem dX11_difference_13 : decode cX11_difference 13 = .ok (.iload_n 2, 1) := by decide +kernel
theorem dX11_difference_14 : decode cX11_difference 14 = .ok (.invokestatic 207, 3) := by decide +kernel
theorem dX11_difference_17 : decode cX11_difference 17 = .ok (.aload 4, 2) := by decide +kernel
theorem dX11_difference_19 : decode cX11_difference 19 = .ok (.iload_n 3, 1) := by decide +kernel
theorem dX11_difference_20 : decode cX11_difference 20 = .ok (.invokestatic 207, 3) := by decide +kernel
theorem dX11_difference_23 : decode cX11_difference 23 = .ok (.invokevirtual 211, 3) := by decide +kernel
theorem dX11_difference_26 : decode cX11_difference 26 = .ok (.ireturn, 1) := by decide +kernel
theorem dX11_differenceByEnds_0 : decode cX11_differenceByEnds 0 = .ok (.aload_n 0, 1) := by decide +kernel
theorem dX11_differenceByEnds_1 : decode cX11_differenceByEnds 1 = .ok (.iload_n 1, 1) := by decide +kernel
theorem dX11_differenceByEnds_2 : decode cX11_differenceByEnds 2 = .ok (.invokevirtual 158, 3) := by decide +kernel
theorem dX11_differenceByEnds_5 : decode cX11_differenceByEnds 5 = .ok (.astore 4, 2) := by decide +kernel
theorem dX11_differenceByEnds_7 : decode cX11_differenceByEnds 7 = .ok (.aload_n 0, 1) := by decide +kernel
theorem dX11_differenceByEnds_8 : decode cX11_differenceByEnds 8 = .ok (.getfield 54, 3) := by decide +kernel
theorem dX11_differenceByEnds_11 : decode cX11_differenceByEnds 11 = .ok (.aload 4, 2) := by decide +kernel
theorem dX11_differenceByEnds_13 : decode cX11_differenceByEnds 13 = .ok (.iload_n 2, 1) := by decide +kernel
theorem dX11_differenceByEnds_14 : decode cX11_differenceByEnds 14 = .ok (.invokestatic 207, 3) := by decide +kernel
theorem dX11_differenceByEnds_17 : decode cX11_differenceByEnds 17 = .ok (.aload 4, 2) := by decide +kernel
theorem dX11_differenceByEnds_19 : decode cX11_differenceByEnds 19 = .ok (.iload_n 3, 1) := by decide +kernel
theorem dX11_differenceByEnds_20 : decode cX11_differenceByEnds 20 = .ok (.invokestatic 207, 3) := by decide +kernel
theorem dX11_differenceByEnds_23 : decode cX11_differenceByEnds 23 = .ok (.invokevirtual 215, 3) := by decide +kernel
theorem dX11_differenceByEnds_26 : decode cX11_differenceByEnds 26 = .ok (.ireturn, 1) := by decide +kernel
theorem dX11_duplicatePairs_0 : decode cX11_duplicatePairs 0 = .ok (.aload_n 0, 1) := by decide +kernel
theorem dX11_duplicatePairs_1 : decode cX11_duplicatePairs 1 = .ok (.getfield 61, 3) := by decide +kernel
theorem dX11_duplicatePairs_4 : decode cX11_duplicatePairs 4 = .ok (.invokevirtual 218, 3) := by decide +kernel
theorem dX11_duplicatePairs_7 : decode cX11_duplicatePairs 7 = .ok (.iconst 0, 1) := by decide +kernel
theorem dX11_duplicatePairs_8 : decode cX11_duplicatePairs 8 = .ok (.istore_n 1, 1) := by decide +kernel
theorem dX11_duplicatePairs_9 : decode cX11_duplicatePairs 9 = .ok (.aload_n 0, 1) := by decide +kernel
theorem dX11_duplicatePairs_10 : decode cX11_duplicatePairs 10 = .ok (.getfield 10, 3) := by decide +kernel
theorem dX11_duplicatePairs_13 : decode cX11_duplicatePairs 13 = .ok (.getfield 221, 3) := by decide +kernel
theorem dX11_duplicatePairs_16 : decode cX11_duplicatePairs 16 = .ok (.astore_n 2, 1) := by decide +kernel
theorem dX11_duplicatePairs_17 : decode cX11_duplicatePairs 17 = .ok (.aload_n 2, 1) := by decide +kernel
theorem dX11_duplicatePairs_18 : decode cX11_duplicatePairs 18 = .ok (.arraylength, 1) := by decide +kernel
theorem dX11_duplicatePairs_19 : decode cX11_duplicatePairs 19 = .ok (.istore_n 3, 1) := by decide +kernel
theorem dX11_duplicatePairs_20 : decode cX11_duplicatePairs 20 = .ok (.iconst 0, 1) := by decide +kernel
theorem dX11_duplicatePairs_21 : decode cX11_duplicatePairs 21 = .ok (.istore 4, 2) := by decide +kernel
theorem dX11_duplicatePairs_23 : decode cX11_duplicatePairs 23 = .ok (.iload 4, 2) := by decide +kernel
theorem dX11_duplicatePairs_25 : decode cX11_duplicatePairs 25 = .ok (.iload_n 3, 1) := by decide +kernel
theorem dX11_duplicatePairs_26 : decode cX11_duplicatePairs 26 = .ok (.if_icmp .ge 38, 3) := by decide +kernel
theorem dX11_duplicatePairs_29 : decode cX11_duplicatePairs 29 = .ok (.aload_n 2, 1) := by decide +kernel
theorem dX11_duplicatePairs_30 : decode cX11_duplicatePairs 30 = .ok (.iload 4, 2) := by decide +kernel
theorem dX11_duplicatePairs_32 : decode cX11_duplicatePairs 32 = .ok (.aaload, 1) := by decide +kernel
theorem dX11_duplicatePairs_33 : decode cX11_duplicatePairs 33 = .ok (.astore 5, 2) := by decide +kernel
theorem dX11_duplicatePairs_35 : decode cX11_duplicatePairs 35 = .ok (.aload 5, 2) := by decide +kernel
theorem dX11_duplicatePairs_37 : decode cX11_duplicatePairs 37 = .ok (.getfield 225, 3) := by decide +kernel
theorem dX11_duplicatePairs_40 : decode cX11_duplicatePairs 40 = .ok (.ifCond .eq 18, 3) := by decide +kernel
theorem dX11_duplicatePairs_43 : decode cX11_duplicatePairs 43 = .ok (.iload_n 1, 1) := by decide +kernel
theorem dX11_duplicatePairs_44 : decode cX11_duplicatePairs 44 = .ok (.aload_n 0, 1) := by decide +kernel
theorem dX11_duplicatePairs_45 : decode cX11_duplicatePairs 45 = .ok (.getfield 61, 3) := by decide +kernel
theorem dX11_duplicatePairs_48 : decode cX11_duplicatePairs 48 = .ok (.aload 5, 2) := by decide +kernel
theorem dX11_duplicatePairs_50 : decode cX11_duplicatePairs 50 = .ok (.invokevirtual 190, 3) := by decide +kernel
theorem dX11_duplicatePairs_53 : decode cX11_duplicatePairs 53 = .ok (.invokevirtual 228, 3) := by decide +kernel
theorem dX11_duplicatePairs_56 : decode cX11_duplicatePairs 56 = .ok (.iadd, 1) := by decide +kernel
theorem dX11_duplicatePairs_57 : decode cX11_duplicatePairs 57 = .ok (.istore_n 1, 1) := by decide +kernel
theorem dX11_duplicatePairs_58 : decode cX11_duplicatePairs 58 = .ok (.iinc 4 1, 3) := by decide +kernel
theorem dX11_duplicatePairs_61 : decode cX11_duplicatePairs 61 = .ok (.goto (-38), 3) := by decide +kernel
theorem dX11_duplicatePairs_64 : decode cX11_duplicatePairs 64 = .ok (.iload_n 1, 1) := by decide +kernel
theorem dX11_duplicatePairs_65 : decode cX11_duplicatePairs 65 = .ok (.ireturn, 1) := by decide +kernel
theorem dX11_duplicatePairsByComparing_0 : decode cX11_duplicatePairsByComparing 0 = .ok (.iconst 0, 1) := by decide +kernel
theorem dX11_duplicatePairsByComparing_1 : decode cX11_duplicatePairsByComparing 1 = .ok (.istore_n 1, 1) := by decide +kernel
theorem dX11_duplicatePairsByComparing_2 : decode cX11_duplicatePairsByComparing 2 = .ok (.aload_n 0, 1) := by decide +kernel
theorem dX11_duplicatePairsByComparing_3 : decode cX11_duplicatePairsByComparing 3 = .ok (.getfield 10, 3) := by decide +kernel
theorem dX11_duplicatePairsByComparing_6 : decode cX11_duplicatePairsByComparing 6 = .ok (.getfield 221, 3) := by decide +kernel
theorem dX11_duplicatePairsByComparing_9 : decode cX11_duplicatePairsByComparing 9 = .ok (.astore_n 2, 1) := by decide +kernel
theorem dX11_duplicatePairsByComparing_10 : decode cX11_duplicatePairsByComparing 10 = .ok (.aload_n 2, 1) := by decide +kernel
theorem dX11_duplicatePairsByComparing_11 : decode cX11_duplicatePairsByComparing 11 = .ok (.arraylength, 1) := by decide +kernel
theorem dX11_duplicatePairsByComparing_12 : decode cX11_duplicatePairsByComparing 12 = .ok (.istore_n 3, 1) := by decide +kernel
theorem dX11_duplicatePairsByComparing_13 : decode cX11_duplicatePairsByComparing 13 = .ok (.iconst 0, 1) := by decide +kernel
theorem dX11_duplicatePairsByComparing_14 : decode cX11_duplicatePairsByComparing 14 = .ok (.istore 4, 2) := by decide +kernel
theorem dX11_duplicatePairsByComparing_16 : decode cX11_duplicatePairsByComparing 16 = .ok (.iload 4, 2) := by decide +kernel
theorem dX11_duplicatePairsByComparing_18 : decode cX11_duplicatePairsByComparing 18 = .ok (.iload_n 3, 1) := by decide +kernel
theorem dX11_duplicatePairsByComparing_19 : decode cX11_duplicatePairsByComparing 19 = .ok (.if_icmp .ge 98, 3) := by decide +kernel
theorem dX11_duplicatePairsByComparing_22 : decode cX11_duplicatePairsByComparing 22 = .ok (.aload_n 2, 1) := by decide +kernel
theorem dX11_duplicatePairsByComparing_23 : decode cX11_duplicatePairsByComparing 23 = .ok (.iload 4, 2) := by decide +kernel
theorem dX11_duplicatePairsByComparing_25 : decode cX11_duplicatePairsByComparing 25 = .ok (.aaload, 1) := by decide +kernel
theorem dX11_duplicatePairsByComparing_26 : decode cX11_duplicatePairsByComparing 26 = .ok (.astore 5, 2) := by decide +kernel
theorem dX11_duplicatePairsByComparing_28 : decode cX11_duplicatePairsByComparing 28 = .ok (.aload_n 0, 1) := by decide +kernel
theorem dX11_duplicatePairsByComparing_29 : decode cX11_duplicatePairsByComparing 29 = .ok (.getfield 10, 3) := by decide +kernel
theorem dX11_duplicatePairsByComparing_32 : decode cX11_duplicatePairsByComparing 32 = .ok (.getfield 221, 3) := by decide +kernel
theorem dX11_duplicatePairsByComparing_35 : decode cX11_duplicatePairsByComparing 35 = .ok (.astore 6, 2) := by decide +kernel
theorem dX11_duplicatePairsByComparing_37 : decode cX11_duplicatePairsByComparing 37 = .ok (.aload 6, 2) := by decide +kernel
theorem dX11_duplicatePairsByComparing_39 : decode cX11_duplicatePairsByComparing 39 = .ok (.arraylength, 1) := by decide +kernel
theorem dX11_duplicatePairsByComparing_40 : decode cX11_duplicatePairsByComparing 40 = .ok (.istore 7, 2) := by decide +kernel
theorem dX11_duplicatePairsByComparing_42 : decode cX11_duplicatePairsByComparing 42 = .ok (.iconst 0, 1) := by decide +kernel
theorem dX11_duplicatePairsByComparing_43 : decode cX11_duplicatePairsByComparing 43 = .ok (.istore 8, 2) := by decide +kernel
theorem dX11_duplicatePairsByComparing_45 : decode cX11_duplicatePairsByComparing 45 = .ok (.iload 8, 2) := by decide +kernel
theorem dX11_duplicatePairsByComparing_47 : decode cX11_duplicatePairsByComparing 47 = .ok (.iload 7, 2) := by decide +kernel
theorem dX11_duplicatePairsByComparing_49 : decode cX11_duplicatePairsByComparing 49 = .ok (.if_icmp .ge 62, 3) := by decide +kernel
theorem dX11_duplicatePairsByComparing_52 : decode cX11_duplicatePairsByComparing 52 = .ok (.aload 6, 2) := by decide +kernel
theorem dX11_duplicatePairsByComparing_54 : decode cX11_duplicatePairsByComparing 54 = .ok (.iload 8, 2) := by decide +kernel
theorem dX11_duplicatePairsByComparing_56 : decode cX11_duplicatePairsByComparing 56 = .ok (.aaload, 1) := by decide +kernel
theorem dX11_duplicatePairsByComparing_57 : decode cX11_duplicatePairsByComparing 57 = .ok (.astore 9, 2) := by decide +kernel
theorem dX11_duplicatePairsByComparing_59 : decode cX11_duplicatePairsByComparing 59 = .ok (.aload 5, 2) := by decide +kernel
theorem dX11_duplicatePairsByComparing_61 : decode cX11_duplicatePairsByComparing 61 = .ok (.getfield 225, 3) := by decide +kernel
theorem dX11_duplicatePairsByComparing_64 : decode cX11_duplicatePairsByComparing 64 = .ok (.ifCond .eq 41, 3) := by decide +kernel
theorem dX11_duplicatePairsByComparing_67 : decode cX11_duplicatePairsByComparing 67 = .ok (.aload 9, 2) := by decide +kernel
theorem dX11_duplicatePairsByComparing_69 : decode cX11_duplicatePairsByComparing 69 = .ok (.getfield 225, 3) := by decide +kernel
theorem dX11_duplicatePairsByComparing_72 : decode cX11_duplicatePairsByComparing 72 = .ok (.ifCond .eq 33, 3) := by decide +kernel
theorem dX11_duplicatePairsByComparing_75 : decode cX11_duplicatePairsByComparing 75 = .ok (.aload 5, 2) := by decide +kernel
theorem dX11_duplicatePairsByComparing_77 : decode cX11_duplicatePairsByComparing 77 = .ok (.getfield 150, 3) := by decide +kernel
theorem dX11_duplicatePairsByComparing_80 : decode cX11_duplicatePairsByComparing 80 = .ok (.aload 9, 2) := by decide +kernel
theorem dX11_duplicatePairsByComparing_82 : decode cX11_duplicatePairsByComparing 82 = .ok (.getfield 150, 3) := by decide +kernel
theorem dX11_duplicatePairsByComparing_85 : decode cX11_duplicatePairsByComparing 85 = .ok (.if_icmp .ge 20, 3) := by decide +kernel
theorem dX11_duplicatePairsByComparing_88 : decode cX11_duplicatePairsByComparing 88 = .ok (.aload 5, 2) := by decide +kernel
theorem dX11_duplicatePairsByComparing_90 : decode cX11_duplicatePairsByComparing 90 = .ok (.invokevirtual 190, 3) := by decide +kernel
theorem dX11_duplicatePairsByComparing_93 : decode cX11_duplicatePairsByComparing 93 = .ok (.aload 9, 2) := by decide +kernel
theorem dX11_duplicatePairsByComparing_95 : decode cX11_duplicatePairsByComparing 95 = .ok (.invokevirtual 190, 3) := by decide +kernel
theorem dX11_duplicatePairsByComparing_98 : decode cX11_duplicatePairsByComparing 98 = .ok (.lcmp, 1) := by decide +kernel
theorem dX11_duplicatePairsByComparing_99 : decode cX11_duplicatePairsByComparing 99 = .ok (.ifCond .ne 6, 3) := by decide +kernel
theorem dX11_duplicatePairsByComparing_102 : decode cX11_duplicatePairsByComparing 102 = .ok (.iinc 1 1, 3) := by decide +kernel
theorem dX11_duplicatePairsByComparing_105 : decode cX11_duplicatePairsByComparing 105 = .ok (.iinc 8 1, 3) := by decide +kernel
theorem dX11_duplicatePairsByComparing_108 : decode cX11_duplicatePairsByComparing 108 = .ok (.goto (-63), 3) := by decide +kernel
theorem dX11_duplicatePairsByComparing_111 : decode cX11_duplicatePairsByComparing 111 = .ok (.iinc 4 1, 3) := by decide +kernel
theorem dX11_duplicatePairsByComparing_114 : decode cX11_duplicatePairsByComparing 114 = .ok (.goto (-98), 3) := by decide +kernel
theorem dX11_duplicatePairsByComparing_117 : decode cX11_duplicatePairsByComparing 117 = .ok (.iload_n 1, 1) := by decide +kernel
theorem dX11_duplicatePairsByComparing_118 : decode cX11_duplicatePairsByComparing 118 = .ok (.ireturn, 1) := by decide +kernel
theorem dX11_textOn_0 : decode cX11_textOn 0 = .ok (.aload_n 0, 1) := by decide +kernel
theorem dX11_textOn_1 : decode cX11_textOn 1 = .ok (.iload_n 1, 1) := by decide +kernel
theorem dX11_textOn_2 : decode cX11_textOn 2 = .ok (.invokevirtual 231, 3) := by decide +kernel
theorem dX11_textOn_5 : decode cX11_textOn 5 = .ok (.lstore_n 2, 1) := by decide +kernel
theorem dX11_textOn_6 : decode cX11_textOn 6 = .ok (.lload_n 2, 1) := by decide +kernel
theorem dX11_textOn_7 : decode cX11_textOn 7 = .ok (.lconst 0, 1) := by decide +kernel
theorem dX11_textOn_8 : decode cX11_textOn 8 = .ok (.lcmp, 1) := by decide +kernel
theorem dX11_textOn_9 : decode cX11_textOn 9 = .ok (.ifCond .ne 11, 3) := by decide +kernel
theorem dX11_textOn_12 : decode cX11_textOn 12 = .ok (.new 121, 3) := by decide +kernel
theorem dX11_textOn_15 : decode cX11_textOn 15 = .ok (.dup, 1) := by decide +kernel
theorem dX11_textOn_16 : decode cX11_textOn 16 = .ok (.invokespecial 123, 3) := by decide +kernel
theorem dX11_textOn_19 : decode cX11_textOn 19 = .ok (.athrow, 1) := by decide +kernel
theorem dX11_textOn_20 : decode cX11_textOn 20 = .ok (.lload_n 2, 1) := by decide +kernel
theorem dX11_textOn_21 : decode cX11_textOn 21 = .ok (.lreturn, 1) := by decide +kernel
theorem dX11_noteOfText_0 : decode cX11_noteOfText 0 = .ok (.iload_n 2, 1) := by decide +kernel
theorem dX11_noteOfText_1 : decode cX11_noteOfText 1 = .ok (.ifCond .lt 11, 3) := by decide +kernel
theorem dX11_noteOfText_4 : decode cX11_noteOfText 4 = .ok (.iload_n 2, 1) := by decide +kernel
theorem dX11_noteOfText_5 : decode cX11_noteOfText 5 = .ok (.lload_n 0, 1) := by decide +kernel
theorem dX11_noteOfText_6 : decode cX11_noteOfText 6 = .ok (.invokestatic 194, 3) := by decide +kernel
theorem dX11_noteOfText_9 : decode cX11_noteOfText 9 = .ok (.if_icmp .lt 11, 3) := by decide +kernel
theorem dX11_noteOfText_12 : decode cX11_noteOfText 12 = .ok (.new 124, 3) := by decide +kernel
theorem dX11_noteOfText_15 : decode cX11_noteOfText 15 = .ok (.dup, 1) := by decide +kernel
theorem dX11_noteOfText_16 : decode cX11_noteOfText 16 = .ok (.invokespecial 126, 3) := by decide +kernel
theorem dX11_noteOfText_19 : decode cX11_noteOfText 19 = .ok (.athrow, 1) := by decide +kernel
theorem dX11_noteOfText_20 : decode cX11_noteOfText 20 = .ok (.lload_n 0, 1) := by decide +kernel
theorem dX11_noteOfText_21 : decode cX11_noteOfText 21 = .ok (.iload_n 2, 1) := by decide +kernel
theorem dX11_noteOfText_22 : decode cX11_noteOfText 22 = .ok (.invokestatic 235, 3) := by decide +kernel
theorem dX11_noteOfText_25 : decode cX11_noteOfText 25 = .ok (.ireturn, 1) := by decide +kernel
theorem dX11_citeCount_0 : decode cX11_citeCount 0 = .ok (.aload_n 0, 1) := by decide +kernel
theorem dX11_citeCount_1 : decode cX11_citeCount 1 = .ok (.iload_n 1, 1) := by decide +kernel
theorem dX11_citeCount_2 : decode cX11_citeCount 2 = .ok (.invokevirtual 158, 3) := by decide +kernel
theorem dX11_citeCount_5 : decode cX11_citeCount 5 = .ok (.invokevirtual 238, 3) := by decide +kernel
theorem dX11_citeCount_8 : decode cX11_citeCount 8 = .ok (.ireturn, 1) := by decide +kernel
theorem dX11_citeAt_0 : decode cX11_citeAt 0 = .ok (.aload_n 0, 1) := by decide +kernel
theorem dX11_citeAt_1 : decode cX11_citeAt 1 = .ok (.iload_n 1, 1) := by decide +kernel
theorem dX11_citeAt_2 : decode cX11_citeAt 2 = .ok (.invokevirtual 158, 3) := by decide +kernel
theorem dX11_citeAt_5 : decode cX11_citeAt 5 = .ok (.iload_n 2, 1) := by decide +kernel
theorem dX11_citeAt_6 : decode cX11_citeAt 6 = .ok (.invokevirtual 241, 3) := by decide +kernel
theorem dX11_citeAt_9 : decode cX11_citeAt 9 = .ok (.istore_n 3, 1) := by decide +kernel
theorem dX11_citeAt_10 : decode cX11_citeAt 10 = .ok (.iload_n 3, 1) := by decide +kernel
theorem dX11_citeAt_11 : decode cX11_citeAt 11 = .ok (.iconst (-1), 1) := by decide +kernel
theorem dX11_citeAt_12 : decode cX11_citeAt 12 = .ok (.if_icmp .ne 11, 3) := by decide +kernel
theorem dX11_citeAt_15 : decode cX11_citeAt 15 = .ok (.new 124, 3) := by decide +kernel
theorem dX11_citeAt_18 : decode cX11_citeAt 18 = .ok (.dup, 1) := by decide +kernel
theorem dX11_citeAt_19 : decode cX11_citeAt 19 = .ok (.invokespecial 126, 3) := by decide +kernel
theorem dX11_citeAt_22 : decode cX11_citeAt 22 = .ok (.athrow, 1) := by decide +kernel
theorem dX11_citeAt_23 : decode cX11_citeAt 23 = .ok (.iload_n 3, 1) := by decide +kernel
theorem dX11_citeAt_24 : decode cX11_citeAt 24 = .ok (.ireturn, 1) := by decide +kernel
theorem dX11_brokenCites_0 : decode cX11_brokenCites 0 = .ok (.aload_n 0, 1) := by decide +kernel
theorem dX11_brokenCites_1 : decode cX11_brokenCites 1 = .ok (.getfield 10, 3) := by decide +kernel
theorem dX11_brokenCites_4 : decode cX11_brokenCites 4 = .ok (.invokevirtual 244, 3) := by decide +kernel
theorem dX11_brokenCites_7 : decode cX11_brokenCites 7 = .ok (.ireturn, 1) := by decide +kernel
theorem dX11_citesIndirectly_0 : decode cX11_citesIndirectly 0 = .ok (.aload_n 0, 1) := by decide +kernel
theorem dX11_citesIndirectly_1 : decode cX11_citesIndirectly 1 = .ok (.iload_n 1, 1) := by decide +kernel
theorem dX11_citesIndirectly_2 : decode cX11_citesIndirectly 2 = .ok (.invokevirtual 247, 3) := by decide +kernel
theorem dX11_citesIndirectly_5 : decode cX11_citesIndirectly 5 = .ok (.istore_n 3, 1) := by decide +kernel
theorem dX11_citesIndirectly_6 : decode cX11_citesIndirectly 6 = .ok (.aload_n 0, 1) := by decide +kernel
theorem dX11_citesIndirectly_7 : decode cX11_citesIndirectly 7 = .ok (.iload_n 2, 1) := by decide +kernel
theorem dX11_citesIndirectly_8 : decode cX11_citesIndirectly 8 = .ok (.invokevirtual 247, 3) := by decide +kernel
theorem dX11_citesIndirectly_11 : decode cX11_citesIndirectly 11 = .ok (.istore 4, 2) := by decide +kernel
theorem dX11_citesIndirectly_13 : decode cX11_citesIndirectly 13 = .ok (.aload_n 0, 1) := by decide +kernel
theorem dX11_citesIndirectly_14 : decode cX11_citesIndirectly 14 = .ok (.getfield 68, 3) := by decide +kernel
theorem dX11_citesIndirectly_17 : decode cX11_citesIndirectly 17 = .ok (.aload_n 0, 1) := by decide +kernel
theorem dX11_citesIndirectly_18 : decode cX11_citesIndirectly 18 = .ok (.getfield 10, 3) := by decide +kernel
theorem dX11_citesIndirectly_21 : decode cX11_citesIndirectly 21 = .ok (.invokevirtual 250, 3) := by decide +kernel
theorem dX11_citesIndirectly_24 : decode cX11_citesIndirectly 24 = .ok (.aload_n 0, 1) := by decide +kernel
theorem dX11_citesIndirectly_25 : decode cX11_citesIndirectly 25 = .ok (.getfield 68, 3) := by decide +kernel
theorem dX11_citesIndirectly_28 : decode cX11_citesIndirectly 28 = .ok (.iload_n 3, 1) := by decide +kernel
theorem dX11_citesIndirectly_29 : decode cX11_citesIndirectly 29 = .ok (.invokevirtual 253, 3) := by decide +kernel
theorem dX11_citesIndirectly_32 : decode cX11_citesIndirectly 32 = .ok (.iload 4, 2) := by decide +kernel
theorem dX11_citesIndirectly_34 : decode cX11_citesIndirectly 34 = .ok (.invokestatic 256, 3) := by decide +kernel
theorem dX11_citesIndirectly_37 : decode cX11_citesIndirectly 37 = .ok (.ireturn, 1) := by decide +kernel
theorem dX11_citesByClosure_0 : decode cX11_citesByClosure 0 = .ok (.aload_n 0, 1) := by decide +kernel
theorem dX11_citesByClosure_1 : decode cX11_citesByClosure 1 = .ok (.iload_n 1, 1) := by decide +kernel
theorem dX11_citesByClosure_2 : decode cX11_citesByClosure 2 = .ok (.invokevirtual 247, 3) := by decide +kernel
theorem dX11_citesByClosure_5 : decode cX11_citesByClosure 5 = .ok (.istore_n 3, 1) := by decide +kernel
theorem dX11_citesByClosure_6 : decode cX11_citesByClosure 6 = .ok (.aload_n 0, 1) := by decide +kernel
theorem dX11_citesByClosure_7 : decode cX11_citesByClosure 7 = .ok (.iload_n 2, 1) := by decide +kernel
theorem dX11_citesByClosure_8 : decode cX11_citesByClosure 8 = .ok (.invokevirtual 247, 3) := by decide +kernel
theorem dX11_citesByClosure_11 : decode cX11_citesByClosure 11 = .ok (.istore 4, 2) := by decide +kernel
theorem dX11_citesByClosure_13 : decode cX11_citesByClosure 13 = .ok (.aload_n 0, 1) := by decide +kernel
theorem dX11_citesByClosure_14 : decode cX11_citesByClosure 14 = .ok (.getfield 68, 3) := by decide +kernel
theorem dX11_citesByClosure_17 : decode cX11_citesByClosure 17 = .ok (.aload_n 0, 1) := by decide +kernel
theorem dX11_citesByClosure_18 : decode cX11_citesByClosure 18 = .ok (.getfield 10, 3) := by decide +kernel
theorem dX11_citesByClosure_21 : decode cX11_citesByClosure 21 = .ok (.invokevirtual 250, 3) := by decide +kernel
theorem dX11_citesByClosure_24 : decode cX11_citesByClosure 24 = .ok (.aload_n 0, 1) := by decide +kernel
theorem dX11_citesByClosure_25 : decode cX11_citesByClosure 25 = .ok (.getfield 68, 3) := by decide +kernel
theorem dX11_citesByClosure_28 : decode cX11_citesByClosure 28 = .ok (.invokevirtual 260, 3) := by decide +kernel
theorem dX11_citesByClosure_31 : decode cX11_citesByClosure 31 = .ok (.aload_n 0, 1) := by decide +kernel
theorem dX11_citesByClosure_32 : decode cX11_citesByClosure 32 = .ok (.getfield 68, 3) := by decide +kernel
theorem dX11_citesByClosure_35 : decode cX11_citesByClosure 35 = .ok (.iload_n 3, 1) := by decide +kernel
theorem dX11_citesByClosure_36 : decode cX11_citesByClosure 36 = .ok (.invokevirtual 263, 3) := by decide +kernel
theorem dX11_citesByClosure_39 : decode cX11_citesByClosure 39 = .ok (.iload 4, 2) := by decide +kernel
theorem dX11_citesByClosure_41 : decode cX11_citesByClosure 41 = .ok (.invokestatic 256, 3) := by decide +kernel
theorem dX11_citesByClosure_44 : decode cX11_citesByClosure 44 = .ok (.ireturn, 1) := by decide +kernel
theorem dX11_clauseByCites_0 : decode cX11_clauseByCites 0 = .ok (.aload_n 0, 1) := by decide +kernel
theorem dX11_clauseByCites_1 : decode cX11_clauseByCites 1 = .ok (.getfield 68, 3) := by decide +kernel
theorem dX11_clauseByCites_4 : decode cX11_clauseByCites 4 = .ok (.aload_n 0, 1) := by decide +kernel
theorem dX11_clauseByCites_5 : decode cX11_clauseByCites 5 = .ok (.getfield 10, 3) := by decide +kernel
theorem dX11_clauseByCites_8 : decode cX11_clauseByCites 8 = .ok (.invokevirtual 250, 3) := by decide +kernel
theorem dX11_clauseByCites_11 : decode cX11_clauseByCites 11 = .ok (.iconst 0, 1) := by decide +kernel
theorem dX11_clauseByCites_12 : decode cX11_clauseByCites 12 = .ok (.istore_n 2, 1) := by decide +kernel
theorem dX11_clauseByCites_13 : decode cX11_clauseByCites 13 = .ok (.iload_n 2, 1) := by decide +kernel
theorem dX11_clauseByCites_14 : decode cX11_clauseByCites 14 = .ok (.aload_n 0, 1) := by decide +kernel
theorem dX11_clauseByCites_15 : decode cX11_clauseByCites 15 = .ok (.getfield 10, 3) := by decide +kernel
theorem dX11_clauseByCites_18 : decode cX11_clauseByCites 18 = .ok (.getfield 221, 3) := by decide +kernel
theorem dX11_clauseByCites_21 : decode cX11_clauseByCites 21 = .ok (.arraylength, 1) := by decide +kernel
theorem dX11_clauseByCites_22 : decode cX11_clauseByCites 22 = .ok (.if_icmp .ge 48, 3) := by decide +kernel
theorem dX11_clauseByCites_25 : decode cX11_clauseByCites 25 = .ok (.aload_n 0, 1) := by decide +kernel
theorem dX11_clauseByCites_26 : decode cX11_clauseByCites 26 = .ok (.getfield 10, 3) := by decide +kernel
theorem dX11_clauseByCites_29 : decode cX11_clauseByCites 29 = .ok (.getfield 221, 3) := by decide +kernel
theorem dX11_clauseByCites_32 : decode cX11_clauseByCites 32 = .ok (.iload_n 2, 1) := by decide +kernel
theorem dX11_clauseByCites_33 : decode cX11_clauseByCites 33 = .ok (.aaload, 1) := by decide +kernel
theorem dX11_clauseByCites_34 : decode cX11_clauseByCites 34 = .ok (.astore_n 3, 1) := by decide +kernel
theorem dX11_clauseByCites_35 : decode cX11_clauseByCites 35 = .ok (.aload_n 3, 1) := by decide +kernel
theorem dX11_clauseByCites_36 : decode cX11_clauseByCites 36 = .ok (.getfield 225, 3) := by decide +kernel
theorem dX11_clauseByCites_39 : decode cX11_clauseByCites 39 = .ok (.ifCond .eq 25, 3) := by decide +kernel
theorem dX11_clauseByCites_42 : decode cX11_clauseByCites 42 = .ok (.aload_n 0, 1) := by decide +kernel
theorem dX11_clauseByCites_43 : decode cX11_clauseByCites 43 = .ok (.aload_n 3, 1) := by decide +kernel
theorem dX11_clauseByCites_44 : decode cX11_clauseByCites 44 = .ok (.aload_n 0, 1) := by decide +kernel
theorem dX11_clauseByCites_45 : decode cX11_clauseByCites 45 = .ok (.getfield 68, 3) := by decide +kernel
theorem dX11_clauseByCites_48 : decode cX11_clauseByCites 48 = .ok (.iload_n 2, 1) := by decide +kernel
theorem dX11_clauseByCites_49 : decode cX11_clauseByCites 49 = .ok (.invokevirtual 266, 3) := by decide +kernel
theorem dX11_clauseByCites_52 : decode cX11_clauseByCites 52 = .ok (.invokevirtual 269, 3) := by decide +kernel
theorem dX11_clauseByCites_55 : decode cX11_clauseByCites 55 = .ok (.iload_n 1, 1) := by decide +kernel
theorem dX11_clauseByCites_56 : decode cX11_clauseByCites 56 = .ok (.if_icmp .ne 8, 3) := by decide +kernel
theorem dX11_clauseByCites_59 : decode cX11_clauseByCites 59 = .ok (.aload_n 3, 1) := by decide +kernel
theorem dX11_clauseByCites_60 : decode cX11_clauseByCites 60 = .ok (.getfield 150, 3) := by decide +kernel
theorem dX11_clauseByCites_63 : decode cX11_clauseByCites 63 = .ok (.ireturn, 1) := by decide +kernel
theorem dX11_clauseByCites_64 : decode cX11_clauseByCites 64 = .ok (.iinc 2 1, 3) := by decide +kernel
theorem dX11_clauseByCites_67 : decode cX11_clauseByCites 67 = .ok (.goto (-54), 3) := by decide +kernel
theorem dX11_clauseByCites_70 : decode cX11_clauseByCites 70 = .ok (.new 121, 3) := by decide +kernel
theorem dX11_clauseByCites_73 : decode cX11_clauseByCites 73 = .ok (.dup, 1) := by decide +kernel
theorem dX11_clauseByCites_74 : decode cX11_clauseByCites 74 = .ok (.invokespecial 123, 3) := by decide +kernel
theorem dX11_clauseByCites_77 : decode cX11_clauseByCites 77 = .ok (.athrow, 1) := by decide +kernel
theorem dX11_countRankedBefore_0 : decode cX11_countRankedBefore 0 = .ok (.iconst 0, 1) := by decide +kernel
theorem dX11_countRankedBefore_1 : decode cX11_countRankedBefore 1 = .ok (.istore_n 3, 1) := by decide +kernel
theorem dX11_countRankedBefore_2 : decode cX11_countRankedBefore 2 = .ok (.iconst 0, 1) := by decide +kernel
theorem dX11_countRankedBefore_3 : decode cX11_countRankedBefore 3 = .ok (.istore 4, 2) := by decide +kernel
theorem dX11_countRankedBefore_5 : decode cX11_countRankedBefore 5 = .ok (.iload 4, 2) := by decide +kernel
theorem dX11_countRankedBefore_7 : decode cX11_countRankedBefore 7 = .ok (.aload_n 0, 1) := by decide +kernel
theorem dX11_countRankedBefore_8 : decode cX11_countRankedBefore 8 = .ok (.getfield 10, 3) := by decide +kernel
theorem dX11_countRankedBefore_11 : decode cX11_countRankedBefore 11 = .ok (.getfield 221, 3) := by decide +kernel
theorem dX11_countRankedBefore_14 : decode cX11_countRankedBefore 14 = .ok (.arraylength, 1) := by decide +kernel
theorem dX11_countRankedBefore_15 : decode cX11_countRankedBefore 15 = .ok (.if_icmp .ge 67, 3) := by decide +kernel
theorem dX11_countRankedBefore_18 : decode cX11_countRankedBefore 18 = .ok (.aload_n 0, 1) := by decide +kernel
theorem dX11_countRankedBefore_19 : decode cX11_countRankedBefore 19 = .ok (.getfield 10, 3) := by decide +kernel
theorem dX11_countRankedBefore_22 : decode cX11_countRankedBefore 22 = .ok (.getfield 221, 3) := by decide +kernel
theorem dX11_countRankedBefore_25 : decode cX11_countRankedBefore 25 = .ok (.iload 4, 2) := by decide +kernel
theorem dX11_countRankedBefore_27 : decode cX11_countRankedBefore 27 = .ok (.aaload, 1) := by decide +kernel
theorem dX11_countRankedBefore_28 : decode cX11_countRankedBefore 28 = .ok (.astore 5, 2) := by decide +kernel
theorem dX11_countRankedBefore_30 : decode cX11_countRankedBefore 30 = .ok (.aload_n 0, 1) := by decide +kernel
theorem dX11_countRankedBefore_31 : decode cX11_countRankedBefore 31 = .ok (.getfield 68, 3) := by decide +kernel
theorem dX11_countRankedBefore_34 : decode cX11_countRankedBefore 34 = .ok (.iload 4, 2) := by decide +kernel
theorem dX11_countRankedBefore_36 : decode cX11_countRankedBefore 36 = .ok (.invokevirtual 266, 3) := by decide +kernel
theorem dX11_countRankedBefore_39 : decode cX11_countRankedBefore 39 = .ok (.istore 6, 2) := by decide +kernel
theorem dX11_countRankedBefore_41 : decode cX11_countRankedBefore 41 = .ok (.aload 5, 2) := by decide +kernel
theorem dX11_countRankedBefore_43 : decode cX11_countRankedBefore 43 = .ok (.getfield 225, 3) := by decide +kernel
theorem dX11_countRankedBefore_46 : decode cX11_countRankedBefore 46 = .ok (.ifCond .eq 30, 3) := by decide +kernel
theorem dX11_countRankedBefore_49 : decode cX11_countRankedBefore 49 = .ok (.iload 6, 2) := by decide +kernel
theorem dX11_countRankedBefore_51 : decode cX11_countRankedBefore 51 = .ok (.iload_n 2, 1) := by decide +kernel
theorem dX11_countRankedBefore_52 : decode cX11_countRankedBefore 52 = .ok (.if_icmp .gt 21, 3) := by decide +kernel
theorem dX11_countRankedBefore_55 : decode cX11_countRankedBefore 55 = .ok (.iload 6, 2) := by decide +kernel
theorem dX11_countRankedBefore_57 : decode cX11_countRankedBefore 57 = .ok (.iload_n 2, 1) := by decide +kernel
theorem dX11_countRankedBefore_58 : decode cX11_countRankedBefore 58 = .ok (.if_icmp .ne 18, 3) := by decide +kernel
theorem dX11_countRankedBefore_61 : decode cX11_countRankedBefore 61 = .ok (.aload 5, 2) := by decide +kernel
theorem dX11_countRankedBefore_63 : decode cX11_countRankedBefore 63 = .ok (.getfield 161, 3) := by decide +kernel
theorem dX11_countRankedBefore_66 : decode cX11_countRankedBefore 66 = .ok (.aload_n 1, 1) := by decide +kernel
theorem dX11_countRankedBefore_67 : decode cX11_countRankedBefore 67 = .ok (.getfield 161, 3) := by decide +kernel
theorem dX11_countRankedBefore_70 : decode cX11_countRankedBefore 70 = .ok (.if_icmp .ge 6, 3) := by decide +kernel
theorem dX11_countRankedBefore_73 : decode cX11_countRankedBefore 73 = .ok (.iinc 3 1, 3) := by decide +kernel
theorem dX11_countRankedBefore_76 : decode cX11_countRankedBefore 76 = .ok (.iinc 4 1, 3) := by decide +kernel
theorem dX11_countRankedBefore_79 : decode cX11_countRankedBefore 79 = .ok (.goto (-74), 3) := by decide +kernel
theorem dX11_countRankedBefore_82 : decode cX11_countRankedBefore 82 = .ok (.iload_n 3, 1) := by decide +kernel
theorem dX11_countRankedBefore_83 : decode cX11_countRankedBefore 83 = .ok (.ireturn, 1) := by decide +kernel
theorem dX11_slotOf_0 : decode cX11_slotOf 0 = .ok (.aload_n 0, 1) := by decide +kernel
theorem dX11_slotOf_1 : decode cX11_slotOf 1 = .ok (.getfield 10, 3) := by decide +kernel
theorem dX11_slotOf_4 : decode cX11_slotOf 4 = .ok (.iload_n 1, 1) := by decide +kernel
theorem dX11_slotOf_5 : decode cX11_slotOf 5 = .ok (.invokevirtual 273, 3) := by decide +kernel
theorem dX11_slotOf_8 : decode cX11_slotOf 8 = .ok (.istore_n 2, 1) := by decide +kernel
theorem dX11_slotOf_9 : decode cX11_slotOf 9 = .ok (.iload_n 2, 1) := by decide +kernel
theorem dX11_slotOf_10 : decode cX11_slotOf 10 = .ok (.iconst (-1), 1) := by decide +kernel
theorem dX11_slotOf_11 : decode cX11_slotOf 11 = .ok (.if_icmp .ne 11, 3) := by decide +kernel
theorem dX11_slotOf_14 : decode cX11_slotOf 14 = .ok (.new 121, 3) := by decide +kernel
theorem dX11_slotOf_17 : decode cX11_slotOf 17 = .ok (.dup, 1) := by decide +kernel
theorem dX11_slotOf_18 : decode cX11_slotOf 18 = .ok (.invokespecial 123, 3) := by decide +kernel
theorem dX11_slotOf_21 : decode cX11_slotOf 21 = .ok (.athrow, 1) := by decide +kernel
theorem dX11_slotOf_22 : decode cX11_slotOf 22 = .ok (.iload_n 2, 1) := by decide +kernel
theorem dX11_slotOf_23 : decode cX11_slotOf 23 = .ok (.ireturn, 1) := by decide +kernel
theorem dX11_addedTotal_0 : decode cX11_addedTotal 0 = .ok (.aload_n 0, 1) := by decide +kernel
theorem dX11_addedTotal_1 : decode cX11_addedTotal 1 = .ok (.getfield 10, 3) := by decide +kernel
theorem dX11_addedTotal_4 : decode cX11_addedTotal 4 = .ok (.getfield 276, 3) := by decide +kernel
theorem dX11_addedTotal_7 : decode cX11_addedTotal 7 = .ok (.ireturn, 1) := by decide +kernel
theorem dX11_amendmentTotal_0 : decode cX11_amendmentTotal 0 = .ok (.aload_n 0, 1) := by decide +kernel
theorem dX11_amendmentTotal_1 : decode cX11_amendmentTotal 1 = .ok (.getfield 10, 3) := by decide +kernel
theorem dX11_amendmentTotal_4 : decode cX11_amendmentTotal 4 = .ok (.getfield 279, 3) := by decide +kernel
theorem dX11_amendmentTotal_7 : decode cX11_amendmentTotal 7 = .ok (.ireturn, 1) := by decide +kernel
theorem dX11_repealedTotal_0 : decode cX11_repealedTotal 0 = .ok (.aload_n 0, 1) := by decide +kernel
theorem dX11_repealedTotal_1 : decode cX11_repealedTotal 1 = .ok (.getfield 10, 3) := by decide +kernel
theorem dX11_repealedTotal_4 : decode cX11_repealedTotal 4 = .ok (.getfield 282, 3) := by decide +kernel
theorem dX11_repealedTotal_7 : decode cX11_repealedTotal 7 = .ok (.ireturn, 1) := by decide +kernel
theorem dX11_consolidatedTotal_0 : decode cX11_consolidatedTotal 0 = .ok (.aload_n 0, 1) := by decide +kernel
theorem dX11_consolidatedTotal_1 : decode cX11_consolidatedTotal 1 = .ok (.getfield 10, 3) := by decide +kernel
theorem dX11_consolidatedTotal_4 : decode cX11_consolidatedTotal 4 = .ok (.getfield 285, 3) := by decide +kernel
theorem dX11_consolidatedTotal_7 : decode cX11_consolidatedTotal 7 = .ok (.ireturn, 1) := by decide +kernel
theorem dX11_editionCount_0 : decode cX11_editionCount 0 = .ok (.aload_n 0, 1) := by decide +kernel
theorem dX11_editionCount_1 : decode cX11_editionCount 1 = .ok (.getfield 10, 3) := by decide +kernel
theorem dX11_editionCount_4 : decode cX11_editionCount 4 = .ok (.getfield 288, 3) := by decide +kernel
theorem dX11_editionCount_7 : decode cX11_editionCount 7 = .ok (.ireturn, 1) := by decide +kernel
theorem dX11_editionDay_0 : decode cX11_editionDay 0 = .ok (.iload_n 1, 1) := by decide +kernel
theorem dX11_editionDay_1 : decode cX11_editionDay 1 = .ok (.iconst 1, 1) := by decide +kernel
theorem dX11_editionDay_2 : decode cX11_editionDay 2 = .ok (.if_icmp .lt 28, 3) := by decide +kernel
theorem dX11_editionDay_5 : decode cX11_editionDay 5 = .ok (.iload_n 1, 1) := by decide +kernel
theorem dX11_editionDay_6 : decode cX11_editionDay 6 = .ok (.aload_n 0, 1) := by decide +kernel
theorem dX11_editionDay_7 : decode cX11_editionDay 7 = .ok (.getfield 10, 3) := by decide +kernel
theorem dX11_editionDay_10 : decode cX11_editionDay 10 = .ok (.getfield 288, 3) := by decide +kernel
theorem dX11_editionDay_13 : decode cX11_editionDay 13 = .ok (.if_icmp .gt 17, 3) := by decide +kernel
theorem dX11_editionDay_16 : decode cX11_editionDay 16 = .ok (.iload_n 1, 1) := by decide +kernel
theorem dX11_editionDay_17 : decode cX11_editionDay 17 = .ok (.aload_n 0, 1) := by decide +kernel
theorem dX11_editionDay_18 : decode cX11_editionDay 18 = .ok (.getfield 10, 3) := by decide +kernel
theorem dX11_editionDay_21 : decode cX11_editionDay 21 = .ok (.getfield 288, 3) := by decide +kernel
theorem dX11_editionDay_24 : decode cX11_editionDay 24 = .ok (.bipush 6, 2) := by decide +kernel
theorem dX11_editionDay_26 : decode cX11_editionDay 26 = .ok (.isub, 1) := by decide +kernel
theorem dX11_editionDay_27 : decode cX11_editionDay 27 = .ok (.if_icmp .gt 11, 3) := by decide +kernel
theorem dX11_editionDay_30 : decode cX11_editionDay 30 = .ok (.new 121, 3) := by decide +kernel
theorem dX11_editionDay_33 : decode cX11_editionDay 33 = .ok (.dup, 1) := by decide +kernel
theorem dX11_editionDay_34 : decode cX11_editionDay 34 = .ok (.invokespecial 123, 3) := by decide +kernel
theorem dX11_editionDay_37 : decode cX11_editionDay 37 = .ok (.athrow, 1) := by decide +kernel
theorem dX11_editionDay_38 : decode cX11_editionDay 38 = .ok (.aload_n 0, 1) := by decide +kernel
theorem dX11_editionDay_39 : decode cX11_editionDay 39 = .ok (.getfield 10, 3) := by decide +kernel
theorem dX11_editionDay_42 : decode cX11_editionDay 42 = .ok (.iload_n 1, 1) := by decide +kernel
theorem dX11_editionDay_43 : decode cX11_editionDay 43 = .ok (.invokevirtual 291, 3) := by decide +kernel
theorem dX11_editionDay_46 : decode cX11_editionDay 46 = .ok (.ireturn, 1) := by decide +kernel
theorem dX11_meanLength_0 : decode cX11_meanLength 0 = .ok (.aload_n 0, 1) := by decide +kernel
theorem dX11_meanLength_1 : decode cX11_meanLength 1 = .ok (.getfield 10, 3) := by decide +kernel
theorem dX11_meanLength_4 : decode cX11_meanLength 4 = .ok (.invokevirtual 139, 3) := by decide +kernel
theorem dX11_meanLength_7 : decode cX11_meanLength 7 = .ok (.istore_n 1, 1) := by decide +kernel
theorem dX11_meanLength_8 : decode cX11_meanLength 8 = .ok (.iload_n 1, 1) := by decide +kernel
theorem dX11_meanLength_9 : decode cX11_meanLength 9 = .ok (.ifCond .ne 11, 3) := by decide +kernel
theorem dX11_meanLength_12 : decode cX11_meanLength 12 = .ok (.new 294, 3) := by decide +kernel
theorem dX11_meanLength_15 : decode cX11_meanLength 15 = .ok (.dup, 1) := by decide +kernel
theorem dX11_meanLength_16 : decode cX11_meanLength 16 = .ok (.invokespecial 296, 3) := by decide +kernel
theorem dX11_meanLength_19 : decode cX11_meanLength 19 = .ok (.athrow, 1) := by decide +kernel
theorem dX11_meanLength_20 : decode cX11_meanLength 20 = .ok (.aload_n 0, 1) := by decide +kernel
theorem dX11_meanLength_21 : decode cX11_meanLength 21 = .ok (.getfield 10, 3) := by decide +kernel
theorem dX11_meanLength_24 : decode cX11_meanLength 24 = .ok (.invokevirtual 297, 3) := by decide +kernel
theorem dX11_meanLength_27 : decode cX11_meanLength 27 = .ok (.i2d, 1) := by decide +kernel
theorem dX11_meanLength_28 : decode cX11_meanLength 28 = .ok (.iload_n 1, 1) := by decide +kernel
theorem dX11_meanLength_29 : decode cX11_meanLength 29 = .ok (.i2d, 1) := by decide +kernel
theorem dX11_meanLength_30 : decode cX11_meanLength 30 = .ok (.ddiv, 1) := by decide +kernel
theorem dX11_meanLength_31 : decode cX11_meanLength 31 = .ok (.dreturn, 1) := by decide +kernel
theorem dX11_inForceShare_0 : decode cX11_inForceShare 0 = .ok (.aload_n 0, 1) := by decide +kernel
theorem dX11_inForceShare_1 : decode cX11_inForceShare 1 = .ok (.getfield 10, 3) := by decide +kernel
theorem dX11_inForceShare_4 : decode cX11_inForceShare 4 = .ok (.invokevirtual 139, 3) := by decide +kernel
theorem dX11_inForceShare_7 : decode cX11_inForceShare 7 = .ok (.istore_n 1, 1) := by decide +kernel
theorem dX11_inForceShare_8 : decode cX11_inForceShare 8 = .ok (.iload_n 1, 1) := by decide +kernel
theorem dX11_inForceShare_9 : decode cX11_inForceShare 9 = .ok (.ifCond .ne 11, 3) := by decide +kernel
theorem dX11_inForceShare_12 : decode cX11_inForceShare 12 = .ok (.new 294, 3) := by decide +kernel
theorem dX11_inForceShare_15 : decode cX11_inForceShare 15 = .ok (.dup, 1) := by decide +kernel
theorem dX11_inForceShare_16 : decode cX11_inForceShare 16 = .ok (.invokespecial 296, 3) := by decide +kernel
theorem dX11_inForceShare_19 : decode cX11_inForceShare 19 = .ok (.athrow, 1) := by decide +kernel
theorem dX11_inForceShare_20 : decode cX11_inForceShare 20 = .ok (.aload_n 0, 1) := by decide +kernel
theorem dX11_inForceShare_21 : decode cX11_inForceShare 21 = .ok (.getfield 10, 3) := by decide +kernel
theorem dX11_inForceShare_24 : decode cX11_inForceShare 24 = .ok (.aload_n 0, 1) := by decide +kernel
theorem dX11_inForceShare_25 : decode cX11_inForceShare 25 = .ok (.getfield 10, 3) := by decide +kernel
theorem dX11_inForceShare_28 : decode cX11_inForceShare 28 = .ok (.getfield 136, 3) := by decide +kernel
theorem dX11_inForceShare_31 : decode cX11_inForceShare 31 = .ok (.invokevirtual 180, 3) := by decide +kernel
theorem dX11_inForceShare_34 : decode cX11_inForceShare 34 = .ok (.i2f, 1) := by decide +kernel
theorem dX11_inForceShare_35 : decode cX11_inForceShare 35 = .ok (.iload_n 1, 1) := by decide +kernel
theorem dX11_inForceShare_36 : decode cX11_inForceShare 36 = .ok (.i2f, 1) := by decide +kernel
theorem dX11_inForceShare_37 : decode cX11_inForceShare 37 = .ok (.fdiv, 1) := by decide +kernel
theorem dX11_inForceShare_38 : decode cX11_inForceShare 38 = .ok (.freturn, 1) := by decide +kernel
theorem dX11_isConsistent_0 : decode cX11_isConsistent 0 = .ok (.aload_n 0, 1) := by decide +kernel
theorem dX11_isConsistent_1 : decode cX11_isConsistent 1 = .ok (.invokevirtual 300, 3) := by decide +kernel
theorem dX11_isConsistent_4 : decode cX11_isConsistent 4 = .ok (.ifCond .eq 58, 3) := by decide +kernel
theorem dX11_isConsistent_7 : decode cX11_isConsistent 7 = .ok (.aload_n 0, 1) := by decide +kernel
theorem dX11_isConsistent_8 : decode cX11_isConsistent 8 = .ok (.invokevirtual 303, 3) := by decide +kernel
theorem dX11_isConsistent_11 : decode cX11_isConsistent 11 = .ok (.aload_n 0, 1) := by decide +kernel
theorem dX11_isConsistent_12 : decode cX11_isConsistent 12 = .ok (.invokevirtual 306, 3) := by decide +kernel
theorem dX11_isConsistent_15 : decode cX11_isConsistent 15 = .ok (.if_icmp .ne 47, 3) := by decide +kernel
theorem dX11_isConsistent_18 : decode cX11_isConsistent 18 = .ok (.aload_n 0, 1) := by decide +kernel
theorem dX11_isConsistent_19 : decode cX11_isConsistent 19 = .ok (.invokevirtual 309, 3) := by decide +kernel
theorem dX11_isConsistent_22 : decode cX11_isConsistent 22 = .ok (.ifCond .eq 40, 3) := by decide +kernel
theorem dX11_isConsistent_25 : decode cX11_isConsistent 25 = .ok (.aload_n 0, 1) := by decide +kernel
theorem dX11_isConsistent_26 : decode cX11_isConsistent 26 = .ok (.getfield 10, 3) := by decide +kernel
theorem dX11_isConsistent_29 : decode cX11_isConsistent 29 = .ok (.invokevirtual 139, 3) := by decide +kernel
theorem dX11_isConsistent_32 : decode cX11_isConsistent 32 = .ok (.aload_n 0, 1) := by decide +kernel
theorem dX11_isConsistent_33 : decode cX11_isConsistent 33 = .ok (.getfield 10, 3) := by decide +kernel
theorem dX11_isConsistent_36 : decode cX11_isConsistent 36 = .ok (.getfield 276, 3) := by decide +kernel
theorem dX11_isConsistent_39 : decode cX11_isConsistent 39 = .ok (.aload_n 0, 1) := by decide +kernel
theorem dX11_isConsistent_40 : decode cX11_isConsistent 40 = .ok (.getfield 10, 3) := by decide +kernel
theorem dX11_isConsistent_43 : decode cX11_isConsistent 43 = .ok (.getfield 282, 3) := by decide +kernel
theorem dX11_isConsistent_46 : decode cX11_isConsistent 46 = .ok (.isub, 1) := by decide +kernel
theorem dX11_isConsistent_47 : decode cX11_isConsistent 47 = .ok (.aload_n 0, 1) := by decide +kernel
theorem dX11_isConsistent_48 : decode cX11_isConsistent 48 = .ok (.getfield 10, 3) := by decide +kernel
theorem dX11_isConsistent_51 : decode cX11_isConsistent 51 = .ok (.getfield 285, 3) := by decide +kernel
theorem dX11_isConsistent_54 : decode cX11_isConsistent 54 = .ok (.isub, 1) := by decide +kernel
theorem dX11_isConsistent_55 : decode cX11_isConsistent 55 = .ok (.if_icmp .ne 7, 3) := by decide +kernel
theorem dX11_isConsistent_58 : decode cX11_isConsistent 58 = .ok (.iconst 1, 1) := by decide +kernel
theorem dX11_isConsistent_59 : decode cX11_isConsistent 59 = .ok (.goto 4, 3) := by decide +kernel
theorem dX11_isConsistent_62 : decode cX11_isConsistent 62 = .ok (.iconst 0, 1) := by decide +kernel
theorem dX11_isConsistent_63 : decode cX11_isConsistent 63 = .ok (.ireturn, 1) := by decide +kernel
theorem dX11_differencesAgree_0 : decode cX11_differencesAgree 0 = .ok (.aload_n 0, 1) := by decide +kernel
theorem dX11_differencesAgree_1 : decode cX11_differencesAgree 1 = .ok (.getfield 10, 3) := by decide +kernel
theorem dX11_differencesAgree_4 : decode cX11_differencesAgree 4 = .ok (.getfield 221, 3) := by decide +kernel
theorem dX11_differencesAgree_7 : decode cX11_differencesAgree 7 = .ok (.astore_n 1, 1) := by decide +kernel
theorem dX11_differencesAgree_8 : decode cX11_differencesAgree 8 = .ok (.aload_n 1, 1) := by decide +kernel
theorem dX11_differencesAgree_9 : decode cX11_differencesAgree 9 = .ok (.arraylength, 1) := by decide +kernel
theorem dX11_differencesAgree_10 : decode cX11_differencesAgree 10 = .ok (.istore_n 2, 1) := by decide +kernel
theorem dX11_differencesAgree_11 : decode cX11_differencesAgree 11 = .ok (.iconst 0, 1) := by decide +kernel
theorem dX11_differencesAgree_12 : decode cX11_differencesAgree 12 = .ok (.istore_n 3, 1) := by decide +kernel
theorem dX11_differencesAgree_13 : decode cX11_differencesAgree 13 = .ok (.iload_n 3, 1) := by decide +kernel
theorem dX11_differencesAgree_14 : decode cX11_differencesAgree 14 = .ok (.iload_n 2, 1) := by decide +kernel
theorem dX11_differencesAgree_15 : decode cX11_differencesAgree 15 = .ok (.if_icmp .ge 75, 3) := by decide +kernel
theorem dX11_differencesAgree_18 : decode cX11_differencesAgree 18 = .ok (.aload_n 1, 1) := by decide +kernel
theorem dX11_differencesAgree_19 : decode cX11_differencesAgree 19 = .ok (.iload_n 3, 1) := by decide +kernel
theorem dX11_differencesAgree_20 : decode cX11_differencesAgree 20 = .ok (.aaload, 1) := by decide +kernel
theorem dX11_differencesAgree_21 : decode cX11_differencesAgree 21 = .ok (.astore 4, 2) := by decide +kernel
theorem dX11_differencesAgree_23 : decode cX11_differencesAgree 23 = .ok (.aload 4, 2) := by decide +kernel
theorem dX11_differencesAgree_25 : decode cX11_differencesAgree 25 = .ok (.getfield 225, 3) := by decide +kernel
theorem dX11_differencesAgree_28 : decode cX11_differencesAgree 28 = .ok (.ifCond .eq 56, 3) := by decide +kernel
theorem dX11_differencesAgree_31 : decode cX11_differencesAgree 31 = .ok (.aload 4, 2) := by decide +kernel
theorem dX11_differencesAgree_33 : decode cX11_differencesAgree 33 = .ok (.aload 4, 2) := by decide +kernel
theorem dX11_differencesAgree_35 : decode cX11_differencesAgree 35 = .ok (.invokevirtual 312, 3) := by decide +kernel
theorem dX11_differencesAgree_38 : decode cX11_differencesAgree 38 = .ok (.invokevirtual 231, 3) := by decide +kernel
theorem dX11_differencesAgree_41 : decode cX11_differencesAgree 41 = .ok (.lstore 5, 2) := by decide +kernel
theorem dX11_differencesAgree_43 : decode cX11_differencesAgree 43 = .ok (.aload 4, 2) := by decide +kernel
theorem dX11_differencesAgree_45 : decode cX11_differencesAgree 45 = .ok (.aload_n 0, 1) := by decide +kernel
theorem dX11_differencesAgree_46 : decode cX11_differencesAgree 46 = .ok (.getfield 10, 3) := by decide +kernel
theorem dX11_differencesAgree_49 : decode cX11_differencesAgree 49 = .ok (.getfield 136, 3) := by decide +kernel
theorem dX11_differencesAgree_52 : decode cX11_differencesAgree 52 = .ok (.invokevirtual 231, 3) := by decide +kernel
theorem dX11_differencesAgree_55 : decode cX11_differencesAgree 55 = .ok (.lstore 7, 2) := by decide +kernel
theorem dX11_differencesAgree_57 : decode cX11_differencesAgree 57 = .ok (.aload_n 0, 1) := by decide +kernel
theorem dX11_differencesAgree_58 : decode cX11_differencesAgree 58 = .ok (.getfield 54, 3) := by decide +kernel
theorem dX11_differencesAgree_61 : decode cX11_differencesAgree 61 = .ok (.lload 5, 2) := by decide +kernel
theorem dX11_differencesAgree_63 : decode cX11_differencesAgree 63 = .ok (.lload 7, 2) := by decide +kernel
theorem dX11_differencesAgree_65 : decode cX11_differencesAgree 65 = .ok (.invokevirtual 211, 3) := by decide +kernel
theorem dX11_differencesAgree_68 : decode cX11_differencesAgree 68 = .ok (.aload_n 0, 1) := by decide +kernel
theorem dX11_differencesAgree_69 : decode cX11_differencesAgree 69 = .ok (.getfield 54, 3) := by decide +kernel
theorem dX11_differencesAgree_72 : decode cX11_differencesAgree 72 = .ok (.lload 5, 2) := by decide +kernel
theorem dX11_differencesAgree_74 : decode cX11_differencesAgree 74 = .ok (.lload 7, 2) := by decide +kernel
theorem dX11_differencesAgree_76 : decode cX11_differencesAgree 76 = .ok (.invokevirtual 215, 3) := by decide +kernel
theorem dX11_differencesAgree_79 : decode cX11_differencesAgree 79 = .ok (.if_icmp .eq 5, 3) := by decide +kernel
theorem dX11_differencesAgree_82 : decode cX11_differencesAgree 82 = .ok (.iconst 0, 1) := by decide +kernel
theorem dX11_differencesAgree_83 : decode cX11_differencesAgree 83 = .ok (.ireturn, 1) := by decide +kernel
theorem dX11_differencesAgree_84 : decode cX11_differencesAgree 84 = .ok (.iinc 3 1, 3) := by decide +kernel
theorem dX11_differencesAgree_87 : decode cX11_differencesAgree 87 = .ok (.goto (-74), 3) := by decide +kernel
theorem dX11_differencesAgree_90 : decode cX11_differencesAgree 90 = .ok (.iconst 1, 1) := by decide +kernel
theorem dX11_differencesAgree_91 : decode cX11_differencesAgree 91 = .ok (.ireturn, 1) := by decide +kernel
theorem dX11_indirectCitesAgree_0 : decode cX11_indirectCitesAgree 0 = .ok (.aload_n 0, 1) := by decide +kernel
theorem dX11_indirectCitesAgree_1 : decode cX11_indirectCitesAgree 1 = .ok (.getfield 68, 3) := by decide +kernel
theorem dX11_indirectCitesAgree_4 : decode cX11_indirectCitesAgree 4 = .ok (.aload_n 0, 1) := by decide +kernel
theorem dX11_indirectCitesAgree_5 : decode cX11_indirectCitesAgree 5 = .ok (.getfield 10, 3) := by decide +kernel
theorem dX11_indirectCitesAgree_8 : decode cX11_indirectCitesAgree 8 = .ok (.invokevirtual 250, 3) := by decide +kernel
theorem dX11_indirectCitesAgree_11 : decode cX11_indirectCitesAgree 11 = .ok (.aload_n 0, 1) := by decide +kernel
theorem dX11_indirectCitesAgree_12 : decode cX11_indirectCitesAgree 12 = .ok (.getfield 68, 3) := by decide +kernel
theorem dX11_indirectCitesAgree_15 : decode cX11_indirectCitesAgree 15 = .ok (.invokevirtual 260, 3) := by decide +kernel
theorem dX11_indirectCitesAgree_18 : decode cX11_indirectCitesAgree 18 = .ok (.iconst 0, 1) := by decide +kernel
theorem dX11_indirectCitesAgree_19 : decode cX11_indirectCitesAgree 19 = .ok (.istore_n 1, 1) := by decide +kernel
theorem dX11_indirectCitesAgree_20 : decode cX11_indirectCitesAgree 20 = .ok (.iload_n 1, 1) := by decide +kernel
theorem dX11_indirectCitesAgree_21 : decode cX11_indirectCitesAgree 21 = .ok (.bipush 16, 2) := by decide +kernel
theorem dX11_indirectCitesAgree_23 : decode cX11_indirectCitesAgree 23 = .ok (.if_icmp .ge 30, 3) := by decide +kernel
theorem dX11_indirectCitesAgree_26 : decode cX11_indirectCitesAgree 26 = .ok (.aload_n 0, 1) := by decide +kernel
theorem dX11_indirectCitesAgree_27 : decode cX11_indirectCitesAgree 27 = .ok (.getfield 68, 3) := by decide +kernel
theorem dX11_indirectCitesAgree_30 : decode cX11_indirectCitesAgree 30 = .ok (.iload_n 1, 1) := by decide +kernel
theorem dX11_indirectCitesAgree_31 : decode cX11_indirectCitesAgree 31 = .ok (.invokevirtual 253, 3) := by decide +kernel
theorem dX11_indirectCitesAgree_34 : decode cX11_indirectCitesAgree 34 = .ok (.aload_n 0, 1) := by decide +kernel
theorem dX11_indirectCitesAgree_35 : decode cX11_indirectCitesAgree 35 = .ok (.getfield 68, 3) := by decide +kernel
theorem dX11_indirectCitesAgree_38 : decode cX11_indirectCitesAgree 38 = .ok (.iload_n 1, 1) := by decide +kernel
theorem dX11_indirectCitesAgree_39 : decode cX11_indirectCitesAgree 39 = .ok (.invokevirtual 263, 3) := by decide +kernel
theorem dX11_indirectCitesAgree_42 : decode cX11_indirectCitesAgree 42 = .ok (.if_icmp .eq 5, 3) := by decide +kernel
theorem dX11_indirectCitesAgree_45 : decode cX11_indirectCitesAgree 45 = .ok (.iconst 0, 1) := by decide +kernel
theorem dX11_indirectCitesAgree_46 : decode cX11_indirectCitesAgree 46 = .ok (.ireturn, 1) := by decide +kernel
theorem dX11_indirectCitesAgree_47 : decode cX11_indirectCitesAgree 47 = .ok (.iinc 1 1, 3) := by decide +kernel
theorem dX11_indirectCitesAgree_50 : decode cX11_indirectCitesAgree 50 = .ok (.goto (-30), 3) := by decide +kernel
theorem dX11_indirectCitesAgree_53 : decode cX11_indirectCitesAgree 53 = .ok (.iconst 1, 1) := by decide +kernel
theorem dX11_indirectCitesAgree_54 : decode cX11_indirectCitesAgree 54 = .ok (.ireturn, 1) := by decide +kernel
theorem dX11_renderClause_0 : decode cX11_renderClause 0 = .ok (.aload_n 0, 1) := by decide +kernel
theorem dX11_renderClause_1 : decode cX11_renderClause 1 = .ok (.iload_n 1, 1) := by decide +kernel
theorem dX11_renderClause_2 : decode cX11_renderClause 2 = .ok (.invokevirtual 158, 3) := by decide +kernel
theorem dX11_renderClause_5 : decode cX11_renderClause 5 = .ok (.astore_n 2, 1) := by decide +kernel
theorem dX11_renderClause_6 : decode cX11_renderClause 6 = .ok (.aload_n 0, 1) := by decide +kernel
theorem dX11_renderClause_7 : decode cX11_renderClause 7 = .ok (.getfield 47, 3) := by decide +kernel
theorem dX11_renderClause_10 : decode cX11_renderClause 10 = .ok (.iconst 0, 1) := by decide +kernel
theorem dX11_renderClause_11 : decode cX11_renderClause 11 = .ok (.invokevirtual 315, 3) := by decide +kernel
theorem dX11_renderClause_14 : decode cX11_renderClause 14 = .ok (.aload_n 0, 1) := by decide +kernel
theorem dX11_renderClause_15 : decode cX11_renderClause 15 = .ok (.getfield 47, 3) := by decide +kernel
theorem dX11_renderClause_18 : decode cX11_renderClause 18 = .ok (.aload_n 2, 1) := by decide +kernel
theorem dX11_renderClause_19 : decode cX11_renderClause 19 = .ok (.getfield 161, 3) := by decide +kernel
theorem dX11_renderClause_22 : decode cX11_renderClause 22 = .ok (.invokevirtual 318, 3) := by decide +kernel
theorem dX11_renderClause_25 : decode cX11_renderClause 25 = .ok (.pop, 1) := by decide +kernel
theorem dX11_renderClause_26 : decode cX11_renderClause 26 = .ok (.aload_n 0, 1) := by decide +kernel
theorem dX11_renderClause_27 : decode cX11_renderClause 27 = .ok (.getfield 47, 3) := by decide +kernel
theorem dX11_renderClause_30 : decode cX11_renderClause 30 = .ok (.bipush 58, 2) := by decide +kernel
theorem dX11_renderClause_32 : decode cX11_renderClause 32 = .ok (.invokevirtual 322, 3) := by decide +kernel
theorem dX11_renderClause_35 : decode cX11_renderClause 35 = .ok (.pop, 1) := by decide +kernel
theorem dX11_renderClause_36 : decode cX11_renderClause 36 = .ok (.aload_n 0, 1) := by decide +kernel
theorem dX11_renderClause_37 : decode cX11_renderClause 37 = .ok (.aload_n 2, 1) := by decide +kernel
theorem dX11_renderClause_38 : decode cX11_renderClause 38 = .ok (.invokevirtual 190, 3) := by decide +kernel
theorem dX11_renderClause_41 : decode cX11_renderClause 41 = .ok (.invokevirtual 325, 3) := by decide +kernel
theorem dX11_renderClause_44 : decode cX11_renderClause 44 = .ok (.aload_n 2, 1) := by decide +kernel
theorem dX11_renderClause_45 : decode cX11_renderClause 45 = .ok (.invokevirtual 186, 3) := by decide +kernel
theorem dX11_renderClause_48 : decode cX11_renderClause 48 = .ok (.ifCond .eq 25, 3) := by decide +kernel
theorem dX11_renderClause_51 : decode cX11_renderClause 51 = .ok (.aload_n 0, 1) := by decide +kernel
theorem dX11_renderClause_52 : decode cX11_renderClause 52 = .ok (.getfield 47, 3) := by decide +kernel
theorem dX11_renderClause_55 : decode cX11_renderClause 55 = .ok (.bipush 126, 2) := by decide +kernel
theorem dX11_renderClause_57 : decode cX11_renderClause 57 = .ok (.invokevirtual 322, 3) := by decide +kernel
theorem dX11_renderClause_60 : decode cX11_renderClause 60 = .ok (.pop, 1) := by decide +kernel
theorem dX11_renderClause_61 : decode cX11_renderClause 61 = .ok (.aload_n 0, 1) := by decide +kernel
theorem dX11_renderClause_62 : decode cX11_renderClause 62 = .ok (.getfield 47, 3) := by decide +kernel
theorem dX11_renderClause_65 : decode cX11_renderClause 65 = .ok (.aload_n 2, 1) := by decide +kernel
theorem dX11_renderClause_66 : decode cX11_renderClause 66 = .ok (.getfield 170, 3) := by decide +kernel
theorem dX11_renderClause_69 : decode cX11_renderClause 69 = .ok (.invokevirtual 318, 3) := by decide +kernel
theorem dX11_renderClause_72 : decode cX11_renderClause 72 = .ok (.pop, 1) := by decide +kernel
theorem dX11_renderClause_73 : decode cX11_renderClause 73 = .ok (.aload_n 2, 1) := by decide +kernel
theorem dX11_renderClause_74 : decode cX11_renderClause 74 = .ok (.aload_n 0, 1) := by decide +kernel
theorem dX11_renderClause_75 : decode cX11_renderClause 75 = .ok (.getfield 10, 3) := by decide +kernel
theorem dX11_renderClause_78 : decode cX11_renderClause 78 = .ok (.getfield 136, 3) := by decide +kernel
theorem dX11_renderClause_81 : decode cX11_renderClause 81 = .ok (.invokevirtual 173, 3) := by decide +kernel
theorem dX11_renderClause_84 : decode cX11_renderClause 84 = .ok (.ifCond .ne 13, 3) := by decide +kernel
theorem dX11_renderClause_87 : decode cX11_renderClause 87 = .ok (.aload_n 0, 1) := by decide +kernel
theorem dX11_renderClause_88 : decode cX11_renderClause 88 = .ok (.getfield 47, 3) := by decide +kernel
theorem dX11_renderClause_91 : decode cX11_renderClause 91 = .ok (.bipush 33, 2) := by decide +kernel
theorem dX11_renderClause_93 : decode cX11_renderClause 93 = .ok (.invokevirtual 322, 3) := by decide +kernel
theorem dX11_renderClause_96 : decode cX11_renderClause 96 = .ok (.pop, 1) := by decide +kernel
theorem dX11_renderClause_97 : decode cX11_renderClause 97 = .ok (.aload_n 0, 1) := by decide +kernel
theorem dX11_renderClause_98 : decode cX11_renderClause 98 = .ok (.getfield 47, 3) := by decide +kernel
theorem dX11_renderClause_101 : decode cX11_renderClause 101 = .ok (.invokevirtual 329, 3) := by decide +kernel
theorem dX11_renderClause_104 : decode cX11_renderClause 104 = .ok (.ireturn, 1) := by decide +kernel
theorem dX11_appendNotes_0 : decode cX11_appendNotes 0 = .ok (.lload_n 1, 1) := by decide +kernel
theorem dX11_appendNotes_1 : decode cX11_appendNotes 1 = .ok (.invokestatic 194, 3) := by decide +kernel
theorem dX11_appendNotes_4 : decode cX11_appendNotes 4 = .ok (.istore_n 3, 1) := by decide +kernel
theorem dX11_appendNotes_5 : decode cX11_appendNotes 5 = .ok (.iconst 0, 1) := by decide +kernel
theorem dX11_appendNotes_6 : decode cX11_appendNotes 6 = .ok (.istore 4, 2) := by decide +kernel
theorem dX11_appendNotes_8 : decode cX11_appendNotes 8 = .ok (.iload 4, 2) := by decide +kernel
theorem dX11_appendNotes_10 : decode cX11_appendNotes 10 = .ok (.iload_n 3, 1) := by decide +kernel
theorem dX11_appendNotes_11 : decode cX11_appendNotes 11 = .ok (.if_icmp .ge 23, 3) := by decide +kernel
theorem dX11_appendNotes_14 : decode cX11_appendNotes 14 = .ok (.aload_n 0, 1) := by decide +kernel
theorem dX11_appendNotes_15 : decode cX11_appendNotes 15 = .ok (.getfield 47, 3) := by decide +kernel
theorem dX11_appendNotes_18 : decode cX11_appendNotes 18 = .ok (.lload_n 1, 1) := by decide +kernel
theorem dX11_appendNotes_19 : decode cX11_appendNotes 19 = .ok (.iload 4, 2) := by decide +kernel
theorem dX11_appendNotes_21 : decode cX11_appendNotes 21 = .ok (.invokestatic 235, 3) := by decide +kernel
theorem dX11_appendNotes_24 : decode cX11_appendNotes 24 = .ok (.invokevirtual 322, 3) := by decide +kernel
theorem dX11_appendNotes_27 : decode cX11_appendNotes 27 = .ok (.pop, 1) := by decide +kernel
theorem dX11_appendNotes_28 : decode cX11_appendNotes 28 = .ok (.iinc 4 1, 3) := by decide +kernel
theorem dX11_appendNotes_31 : decode cX11_appendNotes 31 = .ok (.goto (-23), 3) := by decide +kernel
theorem dX11_appendNotes_34 : decode cX11_appendNotes 34 = .ok (.return_, 1) := by decide +kernel
theorem dX11_outputAt_0 : decode cX11_outputAt 0 = .ok (.iload_n 1, 1) := by decide +kernel
theorem dX11_outputAt_1 : decode cX11_outputAt 1 = .ok (.ifCond .lt 14, 3) := by decide +kernel
theorem dX11_outputAt_4 : decode cX11_outputAt 4 = .ok (.iload_n 1, 1) := by decide +kernel
theorem dX11_outputAt_5 : decode cX11_outputAt 5 = .ok (.aload_n 0, 1) := by decide +kernel
theorem dX11_outputAt_6 : decode cX11_outputAt 6 = .ok (.getfield 47, 3) := by decide +kernel
theorem dX11_outputAt_9 : decode cX11_outputAt 9 = .ok (.invokevirtual 329, 3) := by decide +kernel
theorem dX11_outputAt_12 : decode cX11_outputAt 12 = .ok (.if_icmp .lt 11, 3) := by decide +kernel
theorem dX11_outputAt_15 : decode cX11_outputAt 15 = .ok (.new 124, 3) := by decide +kernel
theorem dX11_outputAt_18 : decode cX11_outputAt 18 = .ok (.dup, 1) := by decide +kernel
theorem dX11_outputAt_19 : decode cX11_outputAt 19 = .ok (.invokespecial 126, 3) := by decide +kernel
theorem dX11_outputAt_22 : decode cX11_outputAt 22 = .ok (.athrow, 1) := by decide +kernel
theorem dX11_outputAt_23 : decode cX11_outputAt 23 = .ok (.aload_n 0, 1) := by decide +kernel
theorem dX11_outputAt_24 : decode cX11_outputAt 24 = .ok (.getfield 47, 3) := by decide +kernel
theorem dX11_outputAt_27 : decode cX11_outputAt 27 = .ok (.iload_n 1, 1) := by decide +kernel
theorem dX11_outputAt_28 : decode cX11_outputAt 28 = .ok (.invokevirtual 332, 3) := by decide +kernel
theorem dX11_outputAt_31 : decode cX11_outputAt 31 = .ok (.ireturn, 1) := by decide +kernel
theorem dX11_type_0 : decode cX11_type 0 = .ok (.iload_n 1, 1) := by decide +kernel
theorem dX11_type_1 : decode cX11_type 1 = .ok (.bipush 32, 2) := by decide +kernel
theorem dX11_type_3 : decode cX11_type 3 = .ok (.if_icmp .lt 9, 3) := by decide +kernel
theorem dX11_type_6 : decode cX11_type 6 = .ok (.iload_n 1, 1) := by decide +kernel
theorem dX11_type_7 : decode cX11_type 7 = .ok (.bipush 126, 2) := by decide +kernel
theorem dX11_type_9 : decode cX11_type 9 = .ok (.if_icmp .le 11, 3) := by decide +kernel
theorem dX11_type_12 : decode cX11_type 12 = .ok (.new 127, 3) := by decide +kernel
theorem dX11_type_15 : decode cX11_type 15 = .ok (.dup, 1) := by decide +kernel
theorem dX11_type_16 : decode cX11_type 16 = .ok (.invokespecial 129, 3) := by decide +kernel
theorem dX11_type_19 : decode cX11_type 19 = .ok (.athrow, 1) := by decide +kernel
theorem dX11_type_20 : decode cX11_type 20 = .ok (.aload_n 0, 1) := by decide +kernel
theorem dX11_type_21 : decode cX11_type 21 = .ok (.getfield 33, 3) := by decide +kernel
theorem dX11_type_24 : decode cX11_type 24 = .ok (.invokevirtual 336, 3) := by decide +kernel
theorem dX11_type_27 : decode cX11_type 27 = .ok (.ifCond .eq 11, 3) := by decide +kernel
theorem dX11_type_30 : decode cX11_type 30 = .ok (.new 130, 3) := by decide +kernel
theorem dX11_type_33 : decode cX11_type 33 = .ok (.dup, 1) := by decide +kernel
theorem dX11_type_34 : decode cX11_type 34 = .ok (.invokespecial 132, 3) := by decide +kernel
theorem dX11_type_37 : decode cX11_type 37 = .ok (.athrow, 1) := by decide +kernel
theorem dX11_type_38 : decode cX11_type 38 = .ok (.aload_n 0, 1) := by decide +kernel
theorem dX11_type_39 : decode cX11_type 39 = .ok (.getfield 33, 3) := by decide +kernel
theorem dX11_type_42 : decode cX11_type 42 = .ok (.iload_n 1, 1) := by decide +kernel
theorem dX11_type_43 : decode cX11_type 43 = .ok (.invokevirtual 339, 3) := by decide +kernel
theorem dX11_type_46 : decode cX11_type 46 = .ok (.ireturn, 1) := by decide +kernel
theorem dX11_runScript_0 : decode cX11_runScript 0 = .ok (.aload_n 0, 1) := by decide +kernel
theorem dX11_runScript_1 : decode cX11_runScript 1 = .ok (.getfield 33, 3) := by decide +kernel
theorem dX11_runScript_4 : decode cX11_runScript 4 = .ok (.invokevirtual 342, 3) := by decide +kernel
theorem dX11_runScript_7 : decode cX11_runScript 7 = .ok (.istore_n 1, 1) := by decide +kernel
theorem dX11_runScript_8 : decode cX11_runScript 8 = .ok (.aload_n 0, 1) := by decide +kernel
theorem dX11_runScript_9 : decode cX11_runScript 9 = .ok (.getfield 33, 3) := by decide +kernel
theorem dX11_runScript_12 : decode cX11_runScript 12 = .ok (.invokevirtual 344, 3) := by decide +kernel
theorem dX11_runScript_15 : decode cX11_runScript 15 = .ok (.iload_n 1, 1) := by decide +kernel
theorem dX11_runScript_16 : decode cX11_runScript 16 = .ok (.ifCond .ne 22, 3) := by decide +kernel
theorem dX11_runScript_19 : decode cX11_runScript 19 = .ok (.aload_n 0, 1) := by decide +kernel
theorem dX11_runScript_20 : decode cX11_runScript 20 = .ok (.aload_n 0, 1) := by decide +kernel
theorem dX11_runScript_21 : decode cX11_runScript 21 = .ok (.getfield 33, 3) := by decide +kernel
theorem dX11_runScript_24 : decode cX11_runScript 24 = .ok (.getfield 347, 3) := by decide +kernel
theorem dX11_runScript_27 : decode cX11_runScript 27 = .ok (.putfield 37, 3) := by decide +kernel
theorem dX11_runScript_30 : decode cX11_runScript 30 = .ok (.new 127, 3) := by decide +kernel
theorem dX11_runScript_33 : decode cX11_runScript 33 = .ok (.dup, 1) := by decide +kernel
theorem dX11_runScript_34 : decode cX11_runScript 34 = .ok (.invokespecial 129, 3) := by decide +kernel
theorem dX11_runScript_37 : decode cX11_runScript 37 = .ok (.athrow, 1) := by decide +kernel
theorem dX11_runScript_38 : decode cX11_runScript 38 = .ok (.aload_n 0, 1) := by decide +kernel
theorem dX11_runScript_39 : decode cX11_runScript 39 = .ok (.getfield 26, 3) := by decide +kernel
theorem dX11_runScript_42 : decode cX11_runScript 42 = .ok (.aload_n 0, 1) := by decide +kernel
theorem dX11_runScript_43 : decode cX11_runScript 43 = .ok (.getfield 10, 3) := by decide +kernel
theorem dX11_runScript_46 : decode cX11_runScript 46 = .ok (.invokevirtual 72, 3) := by decide +kernel
theorem dX11_runScript_49 : decode cX11_runScript 49 = .ok (.aload_n 0, 1) := by decide +kernel
theorem dX11_runScript_50 : decode cX11_runScript 50 = .ok (.getfield 33, 3) := by decide +kernel
theorem dX11_runScript_53 : decode cX11_runScript 53 = .ok (.aload_n 0, 1) := by decide +kernel
theorem dX11_runScript_54 : decode cX11_runScript 54 = .ok (.getfield 10, 3) := by decide +kernel
theorem dX11_runScript_57 : decode cX11_runScript 57 = .ok (.invokevirtual 350, 3) := by decide +kernel
theorem dX11_runScript_60 : decode cX11_runScript 60 = .ok (.istore_n 2, 1) := by decide +kernel
theorem dX11_runScript_61 : decode cX11_runScript 61 = .ok (.iload_n 2, 1) := by decide +kernel
theorem dX11_runScript_62 : decode cX11_runScript 62 = .ok (.iconst (-1), 1) := by decide +kernel
theorem dX11_runScript_63 : decode cX11_runScript 63 = .ok (.if_icmp .eq 27, 3) := by decide +kernel
theorem dX11_runScript_66 : decode cX11_runScript 66 = .ok (.aload_n 0, 1) := by decide +kernel
theorem dX11_runScript_67 : decode cX11_runScript 67 = .ok (.iload_n 2, 1) := by decide +kernel
theorem dX11_runScript_68 : decode cX11_runScript 68 = .ok (.putfield 41, 3) := by decide +kernel
theorem dX11_runScript_71 : decode cX11_runScript 71 = .ok (.aload_n 0, 1) := by decide +kernel
theorem dX11_runScript_72 : decode cX11_runScript 72 = .ok (.getfield 26, 3) := by decide +kernel
theorem dX11_runScript_75 : decode cX11_runScript 75 = .ok (.aload_n 0, 1) := by decide +kernel
theorem dX11_runScript_76 : decode cX11_runScript 76 = .ok (.getfield 10, 3) := by decide +kernel
theorem dX11_runScript_79 : decode cX11_runScript 79 = .ok (.invokevirtual 354, 3) := by decide +kernel
theorem dX11_runScript_82 : decode cX11_runScript 82 = .ok (.new 130, 3) := by decide +kernel
theorem dX11_runScript_85 : decode cX11_runScript 85 = .ok (.dup, 1) := by decide +kernel
theorem dX11_runScript_86 : decode cX11_runScript 86 = .ok (.invokespecial 132, 3) := by decide +kernel
theorem dX11_runScript_89 : decode cX11_runScript 89 = .ok (.athrow, 1) := by decide +kernel
theorem dX11_runScript_90 : decode cX11_runScript 90 = .ok (.aload_n 0, 1) := by decide +kernel
theorem dX11_runScript_91 : decode cX11_runScript 91 = .ok (.getfield 26, 3) := by decide +kernel
theorem dX11_runScript_94 : decode cX11_runScript 94 = .ok (.invokevirtual 118, 3) := by decide +kernel
theorem dX11_runScript_97 : decode cX11_runScript 97 = .ok (.aload_n 0, 1) := by decide +kernel
theorem dX11_runScript_98 : decode cX11_runScript 98 = .ok (.getfield 33, 3) := by decide +kernel
theorem dX11_runScript_101 : decode cX11_runScript 101 = .ok (.getfield 357, 3) := by decide +kernel
theorem dX11_runScript_104 : decode cX11_runScript 104 = .ok (.ireturn, 1) := by decide +kernel
theorem dX11_errorPosition_0 : decode cX11_errorPosition 0 = .ok (.aload_n 0, 1) := by decide +kernel
theorem dX11_errorPosition_1 : decode cX11_errorPosition 1 = .ok (.getfield 37, 3) := by decide +kernel
theorem dX11_errorPosition_4 : decode cX11_errorPosition 4 = .ok (.iconst (-1), 1) := by decide +kernel
theorem dX11_errorPosition_5 : decode cX11_errorPosition 5 = .ok (.if_icmp .ne 11, 3) := by decide +kernel
theorem dX11_errorPosition_8 : decode cX11_errorPosition 8 = .ok (.new 121, 3) := by decide +kernel
theorem dX11_errorPosition_11 : decode cX11_errorPosition 11 = .ok (.dup, 1) := by decide +kernel
theorem dX11_errorPosition_12 : decode cX11_errorPosition 12 = .ok (.invokespecial 123, 3) := by decide +kernel
theorem dX11_errorPosition_15 : decode cX11_errorPosition 15 = .ok (.athrow, 1) := by decide +kernel
theorem dX11_errorPosition_16 : decode cX11_errorPosition 16 = .ok (.aload_n 0, 1) := by decide +kernel
theorem dX11_errorPosition_17 : decode cX11_errorPosition 17 = .ok (.getfield 37, 3) := by decide +kernel
theorem dX11_errorPosition_20 : decode cX11_errorPosition 20 = .ok (.ireturn, 1) := by decide +kernel
theorem dX11_failedCommand_0 : decode cX11_failedCommand 0 = .ok (.aload_n 0, 1) := by decide +kernel
theorem dX11_failedCommand_1 : decode cX11_failedCommand 1 = .ok (.getfield 41, 3) := by decide +kernel
theorem dX11_failedCommand_4 : decode cX11_failedCommand 4 = .ok (.iconst (-1), 1) := by decide +kernel
theorem dX11_failedCommand_5 : decode cX11_failedCommand 5 = .ok (.if_icmp .ne 11, 3) := by decide +kernel
theorem dX11_failedCommand_8 : decode cX11_failedCommand 8 = .ok (.new 121, 3) := by decide +kernel
theorem dX11_failedCommand_11 : decode cX11_failedCommand 11 = .ok (.dup, 1) := by decide +kernel
theorem dX11_failedCommand_12 : decode cX11_failedCommand 12 = .ok (.invokespecial 123, 3) := by decide +kernel
theorem dX11_failedCommand_15 : decode cX11_failedCommand 15 = .ok (.athrow, 1) := by decide +kernel
theorem dX11_failedCommand_16 : decode cX11_failedCommand 16 = .ok (.aload_n 0, 1) := by decide +kernel
theorem dX11_failedCommand_17 : decode cX11_failedCommand 17 = .ok (.getfield 41, 3) := by decide +kernel
theorem dX11_failedCommand_20 : decode cX11_failedCommand 20 = .ok (.ireturn, 1) := by decide +kernel
theorem dX11_undo_0 : decode cX11_undo 0 = .ok (.aload_n 0, 1) := by decide +kernel
theorem dX11_undo_1 : decode cX11_undo 1 = .ok (.getfield 26, 3) := by decide +kernel
theorem dX11_undo_4 : decode cX11_undo 4 = .ok (.getfield 360, 3) := by decide +kernel
theorem dX11_undo_7 : decode cX11_undo 7 = .ok (.ifCond .ne 11, 3) := by decide +kernel
theorem dX11_undo_10 : decode cX11_undo 10 = .ok (.new 121, 3) := by decide +kernel
theorem dX11_undo_13 : decode cX11_undo 13 = .ok (.dup, 1) := by decide +kernel
theorem dX11_undo_14 : decode cX11_undo 14 = .ok (.invokespecial 123, 3) := by decide +kernel
theorem dX11_undo_17 : decode cX11_undo 17 = .ok (.athrow, 1) := by decide +kernel
theorem dX11_undo_18 : decode cX11_undo 18 = .ok (.aload_n 0, 1) := by decide +kernel
theorem dX11_undo_19 : decode cX11_undo 19 = .ok (.getfield 26, 3) := by decide +kernel
theorem dX11_undo_22 : decode cX11_undo 22 = .ok (.aload_n 0, 1) := by decide +kernel
theorem dX11_undo_23 : decode cX11_undo 23 = .ok (.getfield 10, 3) := by decide +kernel
theorem dX11_undo_26 : decode cX11_undo 26 = .ok (.invokevirtual 363, 3) := by decide +kernel
theorem dX11_undo_29 : decode cX11_undo 29 = .ok (.aload_n 0, 1) := by decide +kernel
theorem dX11_undo_30 : decode cX11_undo 30 = .ok (.getfield 26, 3) := by decide +kernel
theorem dX11_undo_33 : decode cX11_undo 33 = .ok (.getfield 360, 3) := by decide +kernel
theorem dX11_undo_36 : decode cX11_undo 36 = .ok (.ireturn, 1) := by decide +kernel
theorem dX11_save_0 : decode cX11_save 0 = .ok (.aload_n 0, 1) := by decide +kernel
theorem dX11_save_1 : decode cX11_save 1 = .ok (.getfield 16, 3) := by decide +kernel
theorem dX11_save_4 : decode cX11_save 4 = .ok (.aload_n 0, 1) := by decide +kernel
theorem dX11_save_5 : decode cX11_save 5 = .ok (.getfield 10, 3) := by decide +kernel
theorem dX11_save_8 : decode cX11_save 8 = .ok (.invokevirtual 366, 3) := by decide +kernel
theorem dX11_save_11 : decode cX11_save 11 = .ok (.aload_n 0, 1) := by decide +kernel
theorem dX11_save_12 : decode cX11_save 12 = .ok (.iconst 1, 1) := by decide +kernel
theorem dX11_save_13 : decode cX11_save 13 = .ok (.putfield 19, 3) := by decide +kernel
theorem dX11_save_16 : decode cX11_save 16 = .ok (.aload_n 0, 1) := by decide +kernel
theorem dX11_save_17 : decode cX11_save 17 = .ok (.getfield 10, 3) := by decide +kernel
theorem dX11_save_20 : decode cX11_save 20 = .ok (.invokevirtual 139, 3) := by decide +kernel
theorem dX11_save_23 : decode cX11_save 23 = .ok (.ireturn, 1) := by decide +kernel
theorem dX11_restore_0 : decode cX11_restore 0 = .ok (.aload_n 0, 1) := by decide +kernel
theorem dX11_restore_1 : decode cX11_restore 1 = .ok (.getfield 19, 3) := by decide +kernel
theorem dX11_restore_4 : decode cX11_restore 4 = .ok (.ifCond .ne 11, 3) := by decide +kernel
theorem dX11_restore_7 : decode cX11_restore 7 = .ok (.new 130, 3) := by decide +kernel
theorem dX11_restore_10 : decode cX11_restore 10 = .ok (.dup, 1) := by decide +kernel
theorem dX11_restore_11 : decode cX11_restore 11 = .ok (.invokespecial 132, 3) := by decide +kernel
theorem dX11_restore_14 : decode cX11_restore 14 = .ok (.athrow, 1) := by decide +kernel
theorem dX11_restore_15 : decode cX11_restore 15 = .ok (.aload_n 0, 1) := by decide +kernel
theorem dX11_restore_16 : decode cX11_restore 16 = .ok (.getfield 10, 3) := by decide +kernel
theorem dX11_restore_19 : decode cX11_restore 19 = .ok (.aload_n 0, 1) := by decide +kernel
theorem dX11_restore_20 : decode cX11_restore 20 = .ok (.getfield 16, 3) := by decide +kernel
theorem dX11_restore_23 : decode cX11_restore 23 = .ok (.invokevirtual 366, 3) := by decide +kernel
theorem dX11_restore_26 : decode cX11_restore 26 = .ok (.aload_n 0, 1) := by decide +kernel
theorem dX11_restore_27 : decode cX11_restore 27 = .ok (.getfield 26, 3) := by decide +kernel
theorem dX11_restore_30 : decode cX11_restore 30 = .ok (.invokevirtual 369, 3) := by decide +kernel
theorem dX11_restore_33 : decode cX11_restore 33 = .ok (.aload_n 0, 1) := by decide +kernel
theorem dX11_restore_34 : decode cX11_restore 34 = .ok (.getfield 10, 3) := by decide +kernel
theorem dX11_restore_37 : decode cX11_restore 37 = .ok (.invokevirtual 139, 3) := by decide +kernel
theorem dX11_restore_40 : decode cX11_restore 40 = .ok (.ireturn, 1) := by decide +kernel
theorem dX12_init_0 : decode cX12_init 0 = .ok (.aload_n 0, 1) := by decide +kernel
theorem dX12_init_1 : decode cX12_init 1 = .ok (.invokespecial 1, 3) := by decide +kernel
theorem dX12_init_4 : decode cX12_init 4 = .ok (.aload_n 0, 1) := by decide +kernel
theorem dX12_init_5 : decode cX12_init 5 = .ok (.sipush 685, 3) := by decide +kernel
theorem dX12_init_8 : decode cX12_init 8 = .ok (.newarray .int, 2) := by decide +kernel
theorem dX12_init_10 : decode cX12_init 10 = .ok (.putfield 7, 3) := by decide +kernel
theorem dX12_init_13 : decode cX12_init 13 = .ok (.aload_n 0, 1) := by decide +kernel
theorem dX12_init_14 : decode cX12_init 14 = .ok (.sipush 5480, 3) := by decide +kernel
theorem dX12_init_17 : decode cX12_init 17 = .ok (.newarray .int, 2) := by decide +kernel
theorem dX12_init_19 : decode cX12_init 19 = .ok (.putfield 13, 3) := by decide +kernel
theorem dX12_init_22 : decode cX12_init 22 = .ok (.aload_n 0, 1) := by decide +kernel
theorem dX12_init_23 : decode cX12_init 23 = .ok (.sipush 685, 3) := by decide +kernel
theorem dX12_init_26 : decode cX12_init 26 = .ok (.newarray .int, 2) := by decide +kernel
theorem dX12_init_28 : decode cX12_init 28 = .ok (.putfield 16, 3) := by decide +kernel
theorem dX12_init_31 : decode cX12_init 31 = .ok (.aload_n 0, 1) := by decide +kernel
theorem dX12_init_32 : decode cX12_init 32 = .ok (.sipush 685, 3) := by decide +kernel
theorem dX12_init_35 : decode cX12_init 35 = .ok (.newarray .int, 2) := by decide +kernel
theorem dX12_init_37 : decode cX12_init 37 = .ok (.putfield 19, 3) := by decide +kernel
theorem dX12_init_40 : decode cX12_init 40 = .ok (.aload_n 0, 1) := by decide +kernel
theorem dX12_init_41 : decode cX12_init 41 = .ok (.bipush 60, 2) := by decide +kernel
theorem dX12_init_43 : decode cX12_init 43 = .ok (.newarray .int, 2) := by decide +kernel
theorem dX12_init_45 : decode cX12_init 45 = .ok (.putfield 22, 3) := by decide +kernel
theorem dX12_init_48 : decode cX12_init 48 = .ok (.aload_n 0, 1) := by decide +kernel
theorem dX12_init_49 : decode cX12_init 49 = .ok (.iconst (-1), 1) := by decide +kernel
theorem dX12_init_50 : decode cX12_init 50 = .ok (.putfield 25, 3) := by decide +kernel
theorem dX12_init_53 : decode cX12_init 53 = .ok (.aload_n 0, 1) := by decide +kernel
theorem dX12_init_54 : decode cX12_init 54 = .ok (.iconst (-1), 1) := by decide +kernel
theorem dX12_init_55 : decode cX12_init 55 = .ok (.putfield 29, 3) := by decide +kernel
theorem dX12_init_58 : decode cX12_init 58 = .ok (.aload_n 0, 1) := by decide +kernel
theorem dX12_init_59 : decode cX12_init 59 = .ok (.bipush 40, 2) := by decide +kernel
theorem dX12_init_61 : decode cX12_init 61 = .ok (.newarray .char, 2) := by decide +kernel
theorem dX12_init_63 : decode cX12_init 63 = .ok (.putfield 32, 3) := by decide +kernel
theorem dX12_init_66 : decode cX12_init 66 = .ok (.aload_n 0, 1) := by decide +kernel
theorem dX12_init_67 : decode cX12_init 67 = .ok (.bipush 16, 2) := by decide +kernel
theorem dX12_init_69 : decode cX12_init 69 = .ok (.newarray .int, 2) := by decide +kernel
theorem dX12_init_71 : decode cX12_init 71 = .ok (.putfield 36, 3) := by decide +kernel
theorem dX12_init_74 : decode cX12_init 74 = .ok (.aload_n 0, 1) := by decide +kernel
theorem dX12_init_75 : decode cX12_init 75 = .ok (.bipush 13, 2) := by decide +kernel
theorem dX12_init_77 : decode cX12_init 77 = .ok (.newarray .int, 2) := by decide +kernel
theorem dX12_init_79 : decode cX12_init 79 = .ok (.putfield 39, 3) := by decide +kernel
theorem dX12_init_82 : decode cX12_init 82 = .ok (.aload_n 0, 1) := by decide +kernel
theorem dX12_init_83 : decode cX12_init 83 = .ok (.bipush 124, 2) := by decide +kernel
theorem dX12_init_85 : decode cX12_init 85 = .ok (.newarray .int, 2) := by decide +kernel
theorem dX12_init_87 : decode cX12_init 87 = .ok (.putfield 42, 3) := by decide +kernel
theorem dX12_init_90 : decode cX12_init 90 = .ok (.return_, 1) := by decide +kernel
theorem dX12_thrown_0 : decode cX12_thrown 0 = .ok (.aload_n 0, 1) := by decide +kernel
theorem dX12_thrown_1 : decode cX12_thrown 1 = .ok (.getfield 45, 3) := by decide +kernel
theorem dX12_thrown_4 : decode cX12_thrown 4 = .ok (.ireturn, 1) := by decide +kernel
theorem dX12_fails_0 : decode cX12_fails 0 = .ok (.aload_n 0, 1) := by decide +kernel
theorem dX12_fails_1 : decode cX12_fails 1 = .ok (.iload_n 1, 1) := by decide +kernel
theorem dX12_fails_2 : decode cX12_fails 2 = .ok (.putfield 45, 3) := by decide +kernel
theorem dX12_fails_5 : decode cX12_fails 5 = .ok (.iload_n 1, 1) := by decide +kernel
theorem dX12_fails_6 : decode cX12_fails 6 = .ok (.ifCond .le 7, 3) := by decide +kernel
theorem dX12_fails_9 : decode cX12_fails 9 = .ok (.iconst 1, 1) := by decide +kernel
theorem dX12_fails_10 : decode cX12_fails 10 = .ok (.goto 4, 3) := by decide +kernel
theorem dX12_fails_13 : decode cX12_fails 13 = .ok (.iconst 0, 1) := by decide +kernel
theorem dX12_fails_14 : decode cX12_fails 14 = .ok (.ireturn, 1) := by decide +kernel
theorem dX12_in_0 : decode cX12_in 0 = .ok (.iload_n 0, 1) := by decide +kernel
theorem dX12_in_1 : decode cX12_in 1 = .ok (.iload_n 1, 1) := by decide +kernel
theorem dX12_in_2 : decode cX12_in 2 = .ok (.if_icmp .lt 12, 3) := by decide +kernel
theorem dX12_in_5 : decode cX12_in 5 = .ok (.iload_n 0, 1) := by decide +kernel
theorem dX12_in_6 : decode cX12_in 6 = .ok (.iload_n 2, 1) := by decide +kernel
theorem dX12_in_7 : decode cX12_in 7 = .ok (.if_icmp .gt 7, 3) := by decide +kernel
theorem dX12_in_10 : decode cX12_in 10 = .ok (.iconst 1, 1) := by decide +kernel
theorem dX12_in_11 : decode cX12_in 11 = .ok (.goto 4, 3) := by decide +kernel
theorem dX12_in_14 : decode cX12_in 14 = .ok (.iconst 0, 1) := by decide +kernel
theorem dX12_in_15 : decode cX12_in 15 = .ok (.ireturn, 1) := by decide +kernel
theorem dX12_most_0 : decode cX12_most 0 = .ok (.iload_n 0, 1) := by decide +kernel
theorem dX12_most_1 : decode cX12_most 1 = .ok (.iload_n 1, 1) := by decide +kernel
theorem dX12_most_2 : decode cX12_most 2 = .ok (.if_icmp .le 7, 3) := by decide +kernel
theorem dX12_most_5 : decode cX12_most 5 = .ok (.iload_n 0, 1) := by decide +kernel
theorem dX12_most_6 : decode cX12_most 6 = .ok (.goto 4, 3) := by decide +kernel
theorem dX12_most_9 : decode cX12_most 9 = .ok (.iload_n 1, 1) := by decide +kernel
theorem dX12_most_10 : decode cX12_most 10 = .ok (.ireturn, 1) := by decide +kernel
theorem dX12_copies_0 : decode cX12_copies 0 = .ok (.iconst 0, 1) := by decide +kernel
theorem dX12_copies_1 : decode cX12_copies 1 = .ok (.istore 4, 2) := by decide +kernel
theorem dX12_copies_3 : decode cX12_copies 3 = .ok (.iload 4, 2) := by decide +kernel
theorem dX12_copies_5 : decode cX12_copies 5 = .ok (.sipush 685, 3) := by decide +kernel
theorem dX12_copies_8 : decode cX12_copies 8 = .ok (.if_icmp .ge 21, 3) := by decide +kernel
theorem dX12_copies_11 : decode cX12_copies 11 = .ok (.aload_n 2, 1) := by decide +kernel
theorem dX12_copies_12 : decode cX12_copies 12 = .ok (.iload_n 3, 1) := by decide +kernel
theorem dX12_copies_13 : decode cX12_copies 13 = .ok (.iload 4, 2) := by decide +kernel
theorem dX12_copies_15 : decode cX12_copies 15 = .ok (.iadd, 1) := by decide +kernel
theorem dX12_copies_16 : decode cX12_copies 16 = .ok (.aload_n 0, 1) := by decide +kernel
theorem dX12_copies_17 : decode cX12_copies 17 = .ok (.iload_n 1, 1) := by decide +kernel
theorem dX12_copies_18 : decode cX12_copies 18 = .ok (.iload 4, 2) := by decide +kernel
theorem dX12_copies_20 : decode cX12_copies 20 = .ok (.iadd, 1) := by decide +kernel
theorem dX12_copies_21 : decode cX12_copies 21 = .ok (.iaload, 1) := by decide +kernel
theorem dX12_copies_22 : decode cX12_copies 22 = .ok (.iastore, 1) := by decide +kernel
theorem dX12_copies_23 : decode cX12_copies 23 = .ok (.iinc 4 1, 3) := by decide +kernel
theorem dX12_copies_26 : decode cX12_copies 26 = .ok (.goto (-23), 3) := by decide +kernel
theorem dX12_copies_29 : decode cX12_copies 29 = .ok (.return_, 1) := by decide +kernel
theorem dX12_keeps_0 : decode cX12_keeps 0 = .ok (.aload_n 0, 1) := by decide +kernel
theorem dX12_keeps_1 : decode cX12_keeps 1 = .ok (.iconst 0, 1) := by decide +kernel
theorem dX12_keeps_2 : decode cX12_keeps 2 = .ok (.putfield 45, 3) := by decide +kernel
theorem dX12_keeps_5 : decode cX12_keeps 5 = .ok (.aload_n 0, 1) := by decide +kernel
theorem dX12_keeps_6 : decode cX12_keeps 6 = .ok (.getfield 48, 3) := by decide +kernel
theorem dX12_keeps_9 : decode cX12_keeps 9 = .ok (.ifCond .eq 4, 3) := by decide +kernel
theorem dX12_keeps_12 : decode cX12_keeps 12 = .ok (.return_, 1) := by decide +kernel
theorem dX12_keeps_13 : decode cX12_keeps 13 = .ok (.aload_n 0, 1) := by decide +kernel
theorem dX12_keeps_14 : decode cX12_keeps 14 = .ok (.getfield 52, 3) := by decide +kernel
theorem dX12_keeps_17 : decode cX12_keeps 17 = .ok (.bipush 8, 2) := by decide +kernel
theorem dX12_keeps_19 : decode cX12_keeps 19 = .ok (.if_icmp .ne 44, 3) := by decide +kernel
theorem dX12_keeps_22 : decode cX12_keeps 22 = .ok (.iconst 0, 1) := by decide +kernel
theorem dX12_keeps_23 : decode cX12_keeps 23 = .ok (.istore_n 2, 1) := by decide +kernel
theorem dX12_keeps_24 : decode cX12_keeps 24 = .ok (.iload_n 2, 1) := by decide +kernel
theorem dX12_keeps_25 : decode cX12_keeps 25 = .ok (.sipush 4795, 3) := by decide +kernel
theorem dX12_keeps_28 : decode cX12_keeps 28 = .ok (.if_icmp .ge 25, 3) := by decide +kernel
theorem dX12_keeps_31 : decode cX12_keeps 31 = .ok (.aload_n 0, 1) := by decide +kernel
theorem dX12_keeps_32 : decode cX12_keeps 32 = .ok (.getfield 13, 3) := by decide +kernel
theorem dX12_keeps_35 : decode cX12_keeps 35 = .ok (.iload_n 2, 1) := by decide +kernel
theorem dX12_keeps_36 : decode cX12_keeps 36 = .ok (.aload_n 0, 1) := by decide +kernel
theorem dX12_keeps_37 : decode cX12_keeps 37 = .ok (.getfield 13, 3) := by decide +kernel
theorem dX12_keeps_40 : decode cX12_keeps 40 = .ok (.iload_n 2, 1) := by decide +kernel
theorem dX12_keeps_41 : decode cX12_keeps 41 = .ok (.sipush 685, 3) := by decide +kernel
theorem dX12_keeps_44 : decode cX12_keeps 44 = .ok (.iadd, 1) := by decide +kernel
theorem dX12_keeps_45 : decode cX12_keeps 45 = .ok (.iaload, 1) := by decide +kernel
theorem dX12_keeps_46 : decode cX12_keeps 46 = .ok (.iastore, 1) := by decide +kernel
theorem dX12_keeps_47 : decode cX12_keeps 47 = .ok (.iinc 2 1, 3) := by decide +kernel
theorem dX12_keeps_50 : decode cX12_keeps 50 = .ok (.goto (-26), 3) := by decide +kernel
theorem dX12_keeps_53 : decode cX12_keeps 53 = .ok (.aload_n 0, 1) := by decide +kernel
theorem dX12_keeps_54 : decode cX12_keeps 54 = .ok (.dup, 1) := by decide +kernel
theorem dX12_keeps_55 : decode cX12_keeps 55 = .ok (.getfield 52, 3) := by decide +kernel
theorem dX12_keeps_58 : decode cX12_keeps 58 = .ok (.iconst 1, 1) := by decide +kernel
theorem dX12_keeps_59 : decode cX12_keeps 59 = .ok (.isub, 1) := by decide +kernel
theorem dX12_keeps_60 : decode cX12_keeps 60 = .ok (.putfield 52, 3) := by decide +kernel
theorem dX12_keeps_63 : decode cX12_keeps 63 = .ok (.aload_n 1, 1) := by decide +kernel
theorem dX12_keeps_64 : decode cX12_keeps 64 = .ok (.iconst 0, 1) := by decide +kernel
theorem dX12_keeps_65 : decode cX12_keeps 65 = .ok (.aload_n 0, 1) := by decide +kernel
theorem dX12_keeps_66 : decode cX12_keeps 66 = .ok (.getfield 13, 3) := by decide +kernel
theorem dX12_keeps_69 : decode cX12_keeps 69 = .ok (.sipush 685, 3) := by decide +kernel
theorem dX12_keeps_72 : decode cX12_keeps 72 = .ok (.aload_n 0, 1) := by decide +kernel
theorem dX12_keeps_73 : decode cX12_keeps 73 = .ok (.getfield 52, 3) := by decide +kernel
theorem dX12_keeps_76 : decode cX12_keeps 76 = .ok (.imul, 1) := by decide +kernel
theorem dX12_keeps_77 : decode cX12_keeps 77 = .ok (.invokestatic 55, 3) := by decide +kernel
theorem dX12_keeps_80 : decode cX12_keeps 80 = .ok (.aload_n 0, 1) := by decide +kernel
theorem dX12_keeps_81 : decode cX12_keeps 81 = .ok (.dup, 1) := by decide +kernel
theorem dX12_keeps_82 : decode cX12_keeps 82 = .ok (.getfield 52, 3) := by decide +kernel
theorem dX12_keeps_85 : decode cX12_keeps 85 = .ok (.iconst 1, 1) := by decide +kernel
theorem dX12_keeps_86 : decode cX12_keeps 86 = .ok (.iadd, 1) := by decide +kernel
theorem dX12_keeps_87 : decode cX12_keeps 87 = .ok (.putfield 52, 3) := by decide +kernel
theorem dX12_keeps_90 : decode cX12_keeps 90 = .ok (.return_, 1) := by decide +kernel
theorem dX12_of_0 : decode cX12_of 0 = .ok (.aload_n 0, 1) := by decide +kernel
theorem dX12_of_1 : decode cX12_of 1 = .ok (.getfield 7, 3) := by decide +kernel
theorem dX12_of_4 : decode cX12_of 4 = .ok (.bipush 13, 2) := by decide +kernel
theorem dX12_of_6 : decode cX12_of 6 = .ok (.bipush 42, 2) := by decide +kernel
theorem dX12_of_8 : decode cX12_of 8 = .ok (.iload_n 1, 1) := by decide +kernel
theorem dX12_of_9 : decode cX12_of 9 = .ok (.imul, 1) := by decide +kernel
theorem dX12_of_10 : decode cX12_of 10 = .ok (.iadd, 1) := by decide +kernel
theorem dX12_of_11 : decode cX12_of 11 = .ok (.iload_n 2, 1) := by decide +kernel
theorem dX12_of_12 : decode cX12_of 12 = .ok (.iadd, 1) := by decide +kernel
theorem dX12_of_13 : decode cX12_of 13 = .ok (.iaload, 1) := by decide +kernel
theorem dX12_of_14 : decode cX12_of 14 = .ok (.ireturn, 1) := by decide +kernel
theorem dX12_lays_0 : decode cX12_lays 0 = .ok (.aload_n 0, 1) := by decide +kernel
theorem dX12_lays_1 : decode cX12_lays 1 = .ok (.getfield 7, 3) := by decide +kernel
theorem dX12_lays_4 : decode cX12_lays 4 = .ok (.bipush 13, 2) := by decide +kernel
theorem dX12_lays_6 : decode cX12_lays 6 = .ok (.bipush 42, 2) := by decide +kernel
theorem dX12_lays_8 : decode cX12_lays 8 = .ok (.iload_n 1, 1) := by decide +kernel
theorem dX12_lays_9 : decode cX12_lays 9 = .ok (.imul, 1) := by decide +kernel
theorem dX12_lays_10 : decode cX12_lays 10 = .ok (.iadd, 1) := by decide +kernel
theorem dX12_lays_11 : decode cX12_lays 11 = .ok (.iload_n 2, 1) := by decide +kernel
theorem dX12_lays_12 : decode cX12_lays 12 = .ok (.iadd, 1) := by decide +kernel
theorem dX12_lays_13 : decode cX12_lays 13 = .ok (.iload_n 3, 1) := by decide +kernel
theorem dX12_lays_14 : decode cX12_lays 14 = .ok (.iastore, 1) := by decide +kernel
theorem dX12_lays_15 : decode cX12_lays 15 = .ok (.return_, 1) := by decide +kernel
theorem dX12_placeOf_0 : decode cX12_placeOf 0 = .ok (.iconst 0, 1) := by decide +kernel
theorem dX12_placeOf_1 : decode cX12_placeOf 1 = .ok (.istore_n 2, 1) := by decide +kernel
theorem dX12_placeOf_2 : decode cX12_placeOf 2 = .ok (.iload_n 2, 1) := by decide +kernel
theorem dX12_placeOf_3 : decode cX12_placeOf 3 = .ok (.aload_n 0, 1) := by decide +kernel
theorem dX12_placeOf_4 : decode cX12_placeOf 4 = .ok (.getfield 7, 3) := by decide +kernel
theorem dX12_placeOf_7 : decode cX12_placeOf 7 = .ok (.iconst 0, 1) := by decide +kernel
theorem dX12_placeOf_8 : decode cX12_placeOf 8 = .ok (.iaload, 1) := by decide +kernel
theorem dX12_placeOf_9 : decode cX12_placeOf 9 = .ok (.if_icmp .ge 21, 3) := by decide +kernel
theorem dX12_placeOf_12 : decode cX12_placeOf 12 = .ok (.aload_n 0, 1) := by decide +kernel
theorem dX12_placeOf_13 : decode cX12_placeOf 13 = .ok (.iload_n 2, 1) := by decide +kernel
theorem dX12_placeOf_14 : decode cX12_placeOf 14 = .ok (.iconst 0, 1) := by decide +kernel
theorem dX12_placeOf_15 : decode cX12_placeOf 15 = .ok (.invokevirtual 59, 3) := by decide +kernel
theorem dX12_placeOf_18 : decode cX12_placeOf 18 = .ok (.iload_n 1, 1) := by decide +kernel
theorem dX12_placeOf_19 : decode cX12_placeOf 19 = .ok (.if_icmp .ne 5, 3) := by decide +kernel
theorem dX12_placeOf_22 : decode cX12_placeOf 22 = .ok (.iload_n 2, 1) := by decide +kernel
theorem dX12_placeOf_23 : decode cX12_placeOf 23 = .ok (.ireturn, 1) := by decide +kernel
theorem dX12_placeOf_24 : decode cX12_placeOf 24 = .ok (.iinc 2 1, 3) := by decide +kernel
theorem dX12_placeOf_27 : decode cX12_placeOf 27 = .ok (.goto (-25), 3) := by decide +kernel
theorem dX12_placeOf_30 : decode cX12_placeOf 30 = .ok (.iconst (-1), 1) := by decide +kernel
theorem dX12_placeOf_31 : decode cX12_placeOf 31 = .ok (.ireturn, 1) := by decide +kernel
theorem dX12_isNone_0 : decode cX12_isNone 0 = .ok (.aload_n 0, 1) := by decide +kernel
theorem dX12_isNone_1 : decode cX12_isNone 1 = .ok (.aload_n 0, 1) := by decide +kernel
theorem dX12_isNone_2 : decode cX12_isNone 2 = .ok (.iload_n 1, 1) := by decide +kernel
theorem dX12_isNone_3 : decode cX12_isNone 3 = .ok (.invokevirtual 63, 3) := by decide +kernel
theorem dX12_isNone_6 : decode cX12_isNone 6 = .ok (.ifCond .ge 7, 3) := by decide +kernel
theorem dX12_isNone_9 : decode cX12_isNone 9 = .ok (.iconst 1, 1) := by decide +kernel
theorem dX12_isNone_10 : decode cX12_isNone 10 = .ok (.goto 4, 3) := by decide +kernel
theorem dX12_isNone_13 : decode cX12_isNone 13 = .ok (.iconst 0, 1) := by decide +kernel
theorem dX12_isNone_14 : decode cX12_isNone 14 = .ok (.invokevirtual 67, 3) := by decide +kernel
theorem dX12_isNone_17 : decode cX12_isNone 17 = .ok (.ireturn, 1) := by decide +kernel
theorem dX12_withSection_0 : decode cX12_withSection 0 = .ok (.iconst 0, 1) := by decide +kernel
theorem dX12_withSection_1 : decode cX12_withSection 1 = .ok (.istore_n 2, 1) := by decide +kernel
theorem dX12_withSection_2 : decode cX12_withSection 2 = .ok (.iload_n 2, 1) := by decide +kernel
theorem dX12_withSection_3 : decode cX12_withSection 3 = .ok (.aload_n 0, 1) := by decide +kernel
theorem dX12_withSection_4 : decode cX12_withSection 4 = .ok (.getfield 7, 3) := by decide +kernel
theorem dX12_withSection_7 : decode cX12_withSection 7 = .ok (.iconst 0, 1) := by decide +kernel
theorem dX12_withSection_8 : decode cX12_withSection 8 = .ok (.iaload, 1) := by decide +kernel
theorem dX12_withSection_9 : decode cX12_withSection 9 = .ok (.if_icmp .ge 21, 3) := by decide +kernel
theorem dX12_withSection_12 : decode cX12_withSection 12 = .ok (.aload_n 0, 1) := by decide +kernel
theorem dX12_withSection_13 : decode cX12_withSection 13 = .ok (.iload_n 2, 1) := by decide +kernel
theorem dX12_withSection_14 : decode cX12_withSection 14 = .ok (.iconst 1, 1) := by decide +kernel
theorem dX12_withSection_15 : decode cX12_withSection 15 = .ok (.invokevirtual 59, 3) := by decide +kernel
theorem dX12_withSection_18 : decode cX12_withSection 18 = .ok (.iload_n 1, 1) := by decide +kernel
theorem dX12_withSection_19 : decode cX12_withSection 19 = .ok (.if_icmp .ne 5, 3) := by decide +kernel
theorem dX12_withSection_22 : decode cX12_withSection 22 = .ok (.iload_n 2, 1) := by decide +kernel
theorem dX12_withSection_23 : decode cX12_withSection 23 = .ok (.ireturn, 1) := by decide +kernel
theorem dX12_withSection_24 : decode cX12_withSection 24 = .ok (.iinc 2 1, 3) := by decide +kernel
theorem dX12_withSection_27 : decode cX12_withSection 27 = .ok (.goto (-25), 3) := by decide +kernel
theorem dX12_withSection_30 : decode cX12_withSection 30 = .ok (.iconst (-1), 1) := by decide +kernel
theorem dX12_withSection_31 : decode cX12_withSection 31 = .ok (.ireturn, 1) := by decide +kernel
theorem dX12_isValid_0 : decode cX12_isValid 0 = .ok (.iload_n 2, 1) := by decide +kernel
theorem dX12_isValid_1 : decode cX12_isValid 1 = .ok (.aload_n 0, 1) := by decide +kernel
theorem dX12_isValid_2 : decode cX12_isValid 2 = .ok (.iload_n 1, 1) := by decide +kernel
theorem dX12_isValid_3 : decode cX12_isValid 3 = .ok (.iconst 2, 1) := by decide +kernel
theorem dX12_isValid_4 : decode cX12_isValid 4 = .ok (.invokevirtual 59, 3) := by decide +kernel
theorem dX12_isValid_7 : decode cX12_isValid 7 = .ok (.if_icmp .lt 26, 3) := by decide +kernel
theorem dX12_isValid_10 : decode cX12_isValid 10 = .ok (.aload_n 0, 1) := by decide +kernel
theorem dX12_isValid_11 : decode cX12_isValid 11 = .ok (.iload_n 1, 1) := by decide +kernel
theorem dX12_isValid_12 : decode cX12_isValid 12 = .ok (.iconst 3, 1) := by decide +kernel
theorem dX12_isValid_13 : decode cX12_isValid 13 = .ok (.invokevirtual 59, 3) := by decide +kernel
theorem dX12_isValid_16 : decode cX12_isValid 16 = .ok (.ifCond .lt 13, 3) := by decide +kernel
theorem dX12_isValid_19 : decode cX12_isValid 19 = .ok (.iload_n 2, 1) := by decide +kernel
theorem dX12_isValid_20 : decode cX12_isValid 20 = .ok (.aload_n 0, 1) := by decide +kernel
theorem dX12_isValid_21 : decode cX12_isValid 21 = .ok (.iload_n 1, 1) := by decide +kernel
theorem dX12_isValid_22 : decode cX12_isValid 22 = .ok (.iconst 3, 1) := by decide +kernel
theorem dX12_isValid_23 : decode cX12_isValid 23 = .ok (.invokevirtual 59, 3) := by decide +kernel
theorem dX12_isValid_26 : decode cX12_isValid 26 = .ok (.if_icmp .gt 7, 3) := by decide +kernel
theorem dX12_isValid_29 : decode cX12_isValid 29 = .ok (.iconst 1, 1) := by decide +kernel
theorem dX12_isValid_30 : decode cX12_isValid 30 = .ok (.goto 4, 3) := by decide +kernel
theorem dX12_isValid_33 : decode cX12_isValid 33 = .ok (.iconst 0, 1) := by decide +kernel
theorem dX12_isValid_34 : decode cX12_isValid 34 = .ok (.ireturn, 1) := by decide +kernel
theorem dX12_isOver_0 : decode cX12_isOver 0 = .ok (.aload_n 0, 1) := by decide +kernel
theorem dX12_isOver_1 : decode cX12_isOver 1 = .ok (.iload_n 1, 1) := by decide +kernel
theorem dX12_isOver_2 : decode cX12_isOver 2 = .ok (.iconst 3, 1) := by decide +kernel
theorem dX12_isOver_3 : decode cX12_isOver 3 = .ok (.invokevirtual 59, 3) := by decide +kernel
theorem dX12_isOver_6 : decode cX12_isOver 6 = .ok (.ifCond .lt 22, 3) := by decide +kernel
theorem dX12_isOver_9 : decode cX12_isOver 9 = .ok (.aload_n 0, 1) := by decide +kernel
theorem dX12_isOver_10 : decode cX12_isOver 10 = .ok (.iload_n 1, 1) := by decide +kernel
theorem dX12_isOver_11 : decode cX12_isOver 11 = .ok (.iconst 3, 1) := by decide +kernel
theorem dX12_isOver_12 : decode cX12_isOver 12 = .ok (.invokevirtual 59, 3) := by decide +kernel
theorem dX12_isOver_15 : decode cX12_isOver 15 = .ok (.aload_n 0, 1) := by decide +kernel
theorem dX12_isOver_16 : decode cX12_isOver 16 = .ok (.getfield 7, 3) := by decide +kernel
theorem dX12_isOver_19 : decode cX12_isOver 19 = .ok (.iconst 2, 1) := by decide +kernel
theorem dX12_isOver_20 : decode cX12_isOver 20 = .ok (.iaload, 1) := by decide +kernel
theorem dX12_isOver_21 : decode cX12_isOver 21 = .ok (.if_icmp .ge 7, 3) := by decide +kernel
theorem dX12_isOver_24 : decode cX12_isOver 24 = .ok (.iconst 1, 1) := by decide +kernel
theorem dX12_isOver_25 : decode cX12_isOver 25 = .ok (.goto 4, 3) := by decide +kernel
theorem dX12_isOver_28 : decode cX12_isOver 28 = .ok (.iconst 0, 1) := by decide +kernel
theorem dX12_isOver_29 : decode cX12_isOver 29 = .ok (.ireturn, 1) := by decide +kernel
theorem dX12_isNote_0 : decode cX12_isNote 0 = .ok (.iload_n 0, 1) := by decide +kernel
theorem dX12_isNote_1 : decode cX12_isNote 1 = .ok (.bipush 97, 2) := by decide +kernel
theorem dX12_isNote_3 : decode cX12_isNote 3 = .ok (.bipush 103, 2) := by decide +kernel
theorem dX12_isNote_5 : decode cX12_isNote 5 = .ok (.invokestatic 71, 3) := by decide +kernel
theorem dX12_isNote_8 : decode cX12_isNote 8 = .ok (.ireturn, 1) := by decide +kernel
theorem dX12_versionOn_0 : decode cX12_versionOn 0 = .ok (.iconst (-1), 1) := by decide +kernel
theorem dX12_versionOn_1 : decode cX12_versionOn 1 = .ok (.istore_n 3, 1) := by decide +kernel
theorem dX12_versionOn_2 : decode cX12_versionOn 2 = .ok (.iconst 0, 1) := by decide +kernel
theorem dX12_versionOn_3 : decode cX12_versionOn 3 = .ok (.istore 4, 2) := by decide +kernel
theorem dX12_versionOn_5 : decode cX12_versionOn 5 = .ok (.iload 4, 2) := by decide +kernel
theorem dX12_versionOn_7 : decode cX12_versionOn 7 = .ok (.aload_n 0, 1) := by decide +kernel
theorem dX12_versionOn_8 : decode cX12_versionOn 8 = .ok (.iload_n 1, 1) := by decide +kernel
theorem dX12_versionOn_9 : decode cX12_versionOn 9 = .ok (.iconst 4, 1) := by decide +kernel
theorem dX12_versionOn_10 : decode cX12_versionOn 10 = .ok (.invokevirtual 59, 3) := by decide +kernel
theorem dX12_versionOn_13 : decode cX12_versionOn 13 = .ok (.if_icmp .ge 31, 3) := by decide +kernel
theorem dX12_versionOn_16 : decode cX12_versionOn 16 = .ok (.aload_n 0, 1) := by decide +kernel
theorem dX12_versionOn_17 : decode cX12_versionOn 17 = .ok (.iload_n 1, 1) := by decide +kernel
theorem dX12_versionOn_18 : decode cX12_versionOn 18 = .ok (.iconst 5, 1) := by decide +kernel
theorem dX12_versionOn_19 : decode cX12_versionOn 19 = .ok (.iconst 4, 1) := by decide +kernel
theorem dX12_versionOn_20 : decode cX12_versionOn 20 = .ok (.iload 4, 2) := by decide +kernel
theorem dX12_versionOn_22 : decode cX12_versionOn 22 = .ok (.imul, 1) := by decide +kernel
theorem dX12_versionOn_23 : decode cX12_versionOn 23 = .ok (.iadd, 1) := by decide +kernel
theorem dX12_versionOn_24 : decode cX12_versionOn 24 = .ok (.invokevirtual 59, 3) := by decide +kernel
theorem dX12_versionOn_27 : decode cX12_versionOn 27 = .ok (.iload_n 2, 1) := by decide +kernel
theorem dX12_versionOn_28 : decode cX12_versionOn 28 = .ok (.if_icmp .gt 10, 3) := by decide +kernel
theorem dX12_versionOn_31 : decode cX12_versionOn 31 = .ok (.iconst 5, 1) := by decide +kernel
theorem dX12_versionOn_32 : decode cX12_versionOn 32 = .ok (.iconst 4, 1) := by decide +kernel
theorem dX12_versionOn_33 : decode cX12_versionOn 33 = .ok (.iload 4, 2) := by decide +kernel
theorem dX12_versionOn_35 : decode cX12_versionOn 35 = .ok (.imul, 1) := by decide +kernel
theorem dX12_versionOn_36 : decode cX12_versionOn 36 = .ok (.iadd, 1) := by decide +kernel
theorem dX12_versionOn_37 : decode cX12_versionOn 37 = .ok (.istore_n 3, 1) := by decide +kernel
theorem dX12_versionOn_38 : decode cX12_versionOn 38 = .ok (.iinc 4 1, 3) := by decide +kernel
theorem dX12_versionOn_41 : decode cX12_versionOn 41 = .ok (.goto (-36), 3) := by decide +kernel
theorem dX12_versionOn_44 : decode cX12_versionOn 44 = .ok (.iload_n 3, 1) := by decide +kernel
theorem dX12_versionOn_45 : decode cX12_versionOn 45 = .ok (.ireturn, 1) := by decide +kernel
theorem dX12_lastVersion_0 : decode cX12_lastVersion 0 = .ok (.iconst 5, 1) := by decide +kernel
theorem dX12_lastVersion_1 : decode cX12_lastVersion 1 = .ok (.iconst 4, 1) := by decide +kernel
theorem dX12_lastVersion_2 : decode cX12_lastVersion 2 = .ok (.aload_n 0, 1) := by decide +kernel
theorem dX12_lastVersion_3 : decode cX12_lastVersion 3 = .ok (.iload_n 1, 1) := by decide +kernel
theorem dX12_lastVersion_4 : decode cX12_lastVersion 4 = .ok (.iconst 4, 1) := by decide +kernel
theorem dX12_lastVersion_5 : decode cX12_lastVersion 5 = .ok (.invokevirtual 59, 3) := by decide +kernel
theorem dX12_lastVersion_8 : decode cX12_lastVersion 8 = .ok (.imul, 1) := by decide +kernel
theorem dX12_lastVersion_9 : decode cX12_lastVersion 9 = .ok (.iadd, 1) := by decide +kernel
theorem dX12_lastVersion_10 : decode cX12_lastVersion 10 = .ok (.iconst 4, 1) := by decide +kernel
theorem dX12_lastVersion_11 : decode cX12_lastVersion 11 = .ok (.isub, 1) := by decide +kernel
theorem dX12_lastVersion_12 : decode cX12_lastVersion 12 = .ok (.ireturn, 1) := by decide +kernel
theorem dX12_note_0 : decode cX12_note 0 = .ok (.bipush 97, 2) := by decide +kernel
theorem dX12_note_2 : decode cX12_note 2 = .ok (.aload_n 0, 1) := by decide +kernel
theorem dX12_note_3 : decode cX12_note 3 = .ok (.iload_n 1, 1) := by decide +kernel
theorem dX12_note_4 : decode cX12_note 4 = .ok (.iload_n 2, 1) := by decide +kernel
theorem dX12_note_5 : decode cX12_note 5 = .ok (.iconst 2, 1) := by decide +kernel
theorem dX12_note_6 : decode cX12_note 6 = .ok (.iadd, 1) := by decide +kernel
theorem dX12_note_7 : decode cX12_note 7 = .ok (.iload_n 3, 1) := by decide +kernel
theorem dX12_note_8 : decode cX12_note 8 = .ok (.bipush 6, 2) := by decide +kernel
theorem dX12_note_10 : decode cX12_note 10 = .ok (.idiv, 1) := by decide +kernel
theorem dX12_note_11 : decode cX12_note 11 = .ok (.iadd, 1) := by decide +kernel
theorem dX12_note_12 : decode cX12_note 12 = .ok (.invokevirtual 59, 3) := by decide +kernel
theorem dX12_note_15 : decode cX12_note 15 = .ok (.iconst 3, 1) := by decide +kernel
theorem dX12_note_16 : decode cX12_note 16 = .ok (.iload_n 3, 1) := by decide +kernel
theorem dX12_note_17 : decode cX12_note 17 = .ok (.bipush 6, 2) := by decide +kernel
theorem dX12_note_19 : decode cX12_note 19 = .ok (.irem, 1) := by decide +kernel
theorem dX12_note_20 : decode cX12_note 20 = .ok (.imul, 1) := by decide +kernel
theorem dX12_note_21 : decode cX12_note 21 = .ok (.ishr, 1) := by decide +kernel
theorem dX12_note_22 : decode cX12_note 22 = .ok (.bipush 7, 2) := by decide +kernel
theorem dX12_note_24 : decode cX12_note 24 = .ok (.iand, 1) := by decide +kernel
theorem dX12_note_25 : decode cX12_note 25 = .ok (.iadd, 1) := by decide +kernel
theorem dX12_note_26 : decode cX12_note 26 = .ok (.ireturn, 1) := by decide +kernel
theorem dX12_puts_0 : decode cX12_puts 0 = .ok (.iload_n 2, 1) := by decide +kernel
theorem dX12_puts_1 : decode cX12_puts 1 = .ok (.iconst 2, 1) := by decide +kernel
theorem dX12_puts_2 : decode cX12_puts 2 = .ok (.iadd, 1) := by decide +kernel
theorem dX12_puts_3 : decode cX12_puts 3 = .ok (.iload_n 3, 1) := by decide +kernel
theorem dX12_puts_4 : decode cX12_puts 4 = .ok (.bipush 6, 2) := by decide +kernel
theorem dX12_puts_6 : decode cX12_puts 6 = .ok (.idiv, 1) := by decide +kernel
theorem dX12_puts_7 : decode cX12_puts 7 = .ok (.iadd, 1) := by decide +kernel
theorem dX12_puts_8 : decode cX12_puts 8 = .ok (.istore 5, 2) := by decide +kernel
theorem dX12_puts_10 : decode cX12_puts 10 = .ok (.iconst 3, 1) := by decide +kernel
theorem dX12_puts_11 : decode cX12_puts 11 = .ok (.iload_n 3, 1) := by decide +kernel
theorem dX12_puts_12 : decode cX12_puts 12 = .ok (.bipush 6, 2) := by decide +kernel
theorem dX12_puts_14 : decode cX12_puts 14 = .ok (.irem, 1) := by decide +kernel
theorem dX12_puts_15 : decode cX12_puts 15 = .ok (.imul, 1) := by decide +kernel
theorem dX12_puts_16 : decode cX12_puts 16 = .ok (.istore 6, 2) := by decide +kernel
theorem dX12_puts_18 : decode cX12_puts 18 = .ok (.aload_n 0, 1) := by decide +kernel
theorem dX12_puts_19 : decode cX12_puts 19 = .ok (.iload_n 1, 1) := by decide +kernel
theorem dX12_puts_20 : decode cX12_puts 20 = .ok (.iload 5, 2) := by decide +kernel
theorem dX12_puts_22 : decode cX12_puts 22 = .ok (.aload_n 0, 1) := by decide +kernel
theorem dX12_puts_23 : decode cX12_puts 23 = .ok (.iload_n 1, 1) := by decide +kernel
theorem dX12_puts_24 : decode cX12_puts 24 = .ok (.iload 5, 2) := by decide +kernel
theorem dX12_puts_26 : decode cX12_puts 26 = .ok (.invokevirtual 59, 3) := by decide +kernel
theorem dX12_puts_29 : decode cX12_puts 29 = .ok (.bipush 7, 2) := by decide +kernel
theorem dX12_puts_31 : decode cX12_puts 31 = .ok (.iload 6, 2) := by decide +kernel
theorem dX12_puts_33 : decode cX12_puts 33 = .ok (.ishl, 1) := by decide +kernel
theorem dX12_puts_34 : decode cX12_puts 34 = .ok (.iconst (-1), 1) := by decide +kernel
theorem dX12_puts_35 : decode cX12_puts 35 = .ok (.ixor, 1) := by decide +kernel
theorem dX12_puts_36 : decode cX12_puts 36 = .ok (.iand, 1) := by decide +kernel
theorem dX12_puts_37 : decode cX12_puts 37 = .ok (.iload 4, 2) := by decide +kernel
theorem dX12_puts_39 : decode cX12_puts 39 = .ok (.bipush 97, 2) := by decide +kernel
theorem dX12_puts_41 : decode cX12_puts 41 = .ok (.isub, 1) := by decide +kernel
theorem dX12_puts_42 : decode cX12_puts 42 = .ok (.iload 6, 2) := by decide +kernel
theorem dX12_puts_44 : decode cX12_puts 44 = .ok (.ishl, 1) := by decide +kernel
theorem dX12_puts_45 : decode cX12_puts 45 = .ok (.ior, 1) := by decide +kernel
theorem dX12_puts_46 : decode cX12_puts 46 = .ok (.invokevirtual 75, 3) := by decide +kernel
theorem dX12_puts_49 : decode cX12_puts 49 = .ok (.return_, 1) := by decide +kernel
theorem dX12_addClause_0 : decode cX12_addClause 0 = .ok (.aload_n 0, 1) := by decide +kernel
theorem dX12_addClause_1 : decode cX12_addClause 1 = .ok (.iload_n 1, 1) := by decide +kernel
theorem dX12_addClause_2 : decode cX12_addClause 2 = .ok (.iconst 1, 1) := by decide +kernel
theorem dX12_addClause_3 : decode cX12_addClause 3 = .ok (.bipush 99, 2) := by decide +kernel
theorem dX12_addClause_5 : decode cX12_addClause 5 = .ok (.invokestatic 71, 3) := by decide +kernel
theorem dX12_addClause_8 : decode cX12_addClause 8 = .ok (.ifCond .eq 10, 3) := by decide +kernel
theorem dX12_addClause_11 : decode cX12_addClause 11 = .ok (.iload_n 2, 1) := by decide +kernel
theorem dX12_addClause_12 : decode cX12_addClause 12 = .ok (.invokestatic 79, 3) := by decide +kernel
theorem dX12_addClause_15 : decode cX12_addClause 15 = .ok (.ifCond .ne 7, 3) := by decide +kernel
theorem dX12_addClause_18 : decode cX12_addClause 18 = .ok (.iconst 1, 1) := by decide +kernel
theorem dX12_addClause_19 : decode cX12_addClause 19 = .ok (.goto 31, 3) := by decide +kernel
theorem dX12_addClause_22 : decode cX12_addClause 22 = .ok (.aload_n 0, 1) := by decide +kernel
theorem dX12_addClause_23 : decode cX12_addClause 23 = .ok (.getfield 7, 3) := by decide +kernel
theorem dX12_addClause_26 : decode cX12_addClause 26 = .ok (.iconst 0, 1) := by decide +kernel
theorem dX12_addClause_27 : decode cX12_addClause 27 = .ok (.iaload, 1) := by decide +kernel
theorem dX12_addClause_28 : decode cX12_addClause 28 = .ok (.bipush 16, 2) := by decide +kernel
theorem dX12_addClause_30 : decode cX12_addClause 30 = .ok (.if_icmp .ne 7, 3) := by decide +kernel
theorem dX12_addClause_33 : decode cX12_addClause 33 = .ok (.iconst 2, 1) := by decide +kernel
theorem dX12_addClause_34 : decode cX12_addClause 34 = .ok (.goto 16, 3) := by decide +kernel
theorem dX12_addClause_37 : decode cX12_addClause 37 = .ok (.aload_n 0, 1) := by decide +kernel
theorem dX12_addClause_38 : decode cX12_addClause 38 = .ok (.iload_n 1, 1) := by decide +kernel
theorem dX12_addClause_39 : decode cX12_addClause 39 = .ok (.invokevirtual 82, 3) := by decide +kernel
theorem dX12_addClause_42 : decode cX12_addClause 42 = .ok (.ifCond .lt 7, 3) := by decide +kernel
theorem dX12_addClause_45 : decode cX12_addClause 45 = .ok (.iconst 3, 1) := by decide +kernel
theorem dX12_addClause_46 : decode cX12_addClause 46 = .ok (.goto 4, 3) := by decide +kernel
theorem dX12_addClause_49 : decode cX12_addClause 49 = .ok (.iconst 0, 1) := by decide +kernel
theorem dX12_addClause_50 : decode cX12_addClause 50 = .ok (.invokevirtual 67, 3) := by decide +kernel
theorem dX12_addClause_53 : decode cX12_addClause 53 = .ok (.ifCond .eq 5, 3) := by decide +kernel
theorem dX12_addClause_56 : decode cX12_addClause 56 = .ok (.iconst 0, 1) := by decide +kernel
theorem dX12_addClause_57 : decode cX12_addClause 57 = .ok (.ireturn, 1) := by decide +kernel
theorem dX12_addClause_58 : decode cX12_addClause 58 = .ok (.aload_n 0, 1) := by decide +kernel
theorem dX12_addClause_59 : decode cX12_addClause 59 = .ok (.aload_n 0, 1) := by decide +kernel
theorem dX12_addClause_60 : decode cX12_addClause 60 = .ok (.getfield 7, 3) := by decide +kernel
theorem dX12_addClause_63 : decode cX12_addClause 63 = .ok (.invokevirtual 85, 3) := by decide +kernel
theorem dX12_addClause_66 : decode cX12_addClause 66 = .ok (.aload_n 0, 1) := by decide +kernel
theorem dX12_addClause_67 : decode cX12_addClause 67 = .ok (.getfield 7, 3) := by decide +kernel
theorem dX12_addClause_70 : decode cX12_addClause 70 = .ok (.iconst 0, 1) := by decide +kernel
theorem dX12_addClause_71 : decode cX12_addClause 71 = .ok (.iaload, 1) := by decide +kernel
theorem dX12_addClause_72 : decode cX12_addClause 72 = .ok (.istore_n 3, 1) := by decide +kernel
theorem dX12_addClause_73 : decode cX12_addClause 73 = .ok (.aload_n 0, 1) := by decide +kernel
theorem dX12_addClause_74 : decode cX12_addClause 74 = .ok (.getfield 7, 3) := by decide +kernel
theorem dX12_addClause_77 : decode cX12_addClause 77 = .ok (.iconst 0, 1) := by decide +kernel
theorem dX12_addClause_78 : decode cX12_addClause 78 = .ok (.dup2, 1) := by decide +kernel
theorem dX12_addClause_79 : decode cX12_addClause 79 = .ok (.iaload, 1) := by decide +kernel
theorem dX12_addClause_80 : decode cX12_addClause 80 = .ok (.iconst 1, 1) := by decide +kernel
theorem dX12_addClause_81 : decode cX12_addClause 81 = .ok (.iadd, 1) := by decide +kernel
theorem dX12_addClause_82 : decode cX12_addClause 82 = .ok (.iastore, 1) := by decide +kernel
theorem dX12_addClause_83 : decode cX12_addClause 83 = .ok (.iconst 0, 1) := by decide +kernel
theorem dX12_addClause_84 : decode cX12_addClause 84 = .ok (.istore 4, 2) := by decide +kernel
theorem dX12_addClause_86 : decode cX12_addClause 86 = .ok (.iload 4, 2) := by decide +kernel
theorem dX12_addClause_88 : decode cX12_addClause 88 = .ok (.bipush 42, 2) := by decide +kernel
theorem dX12_addClause_90 : decode cX12_addClause 90 = .ok (.if_icmp .ge 17, 3) := by decide +kernel
theorem dX12_addClause_93 : decode cX12_addClause 93 = .ok (.aload_n 0, 1) := by decide +kernel
theorem dX12_addClause_94 : decode cX12_addClause 94 = .ok (.iload_n 3, 1) := by decide +kernel
theorem dX12_addClause_95 : decode cX12_addClause 95 = .ok (.iload 4, 2) := by decide +kernel
theorem dX12_addClause_97 : decode cX12_addClause 97 = .ok (.iconst 0, 1) := by decide +kernel
theorem dX12_addClause_98 : decode cX12_addClause 98 = .ok (.invokevirtual 75, 3) := by decide +kernel
theorem dX12_addClause_101 : decode cX12_addClause 101 = .ok (.iinc 4 1, 3) := by decide +kernel
theorem dX12_addClause_104 : decode cX12_addClause 104 = .ok (.goto (-18), 3) := by decide +kernel
theorem dX12_addClause_107 : decode cX12_addClause 107 = .ok (.aload_n 0, 1) := by decide +kernel
theorem dX12_addClause_108 : decode cX12_addClause 108 = .ok (.iload_n 3, 1) := by decide +kernel
theorem dX12_addClause_109 : decode cX12_addClause 109 = .ok (.iconst 0, 1) := by decide +kernel
theorem dX12_addClause_110 : decode cX12_addClause 110 = .ok (.aload_n 0, 1) := by decide +kernel
theorem dX12_addClause_111 : decode cX12_addClause 111 = .ok (.getfield 7, 3) := by decide +kernel
theorem dX12_addClause_114 : decode cX12_addClause 114 = .ok (.iconst 1, 1) := by decide +kernel
theorem dX12_addClause_115 : decode cX12_addClause 115 = .ok (.iaload, 1) := by decide +kernel
theorem dX12_addClause_116 : decode cX12_addClause 116 = .ok (.invokevirtual 75, 3) := by decide +kernel
theorem dX12_addClause_119 : decode cX12_addClause 119 = .ok (.aload_n 0, 1) := by decide +kernel
theorem dX12_addClause_120 : decode cX12_addClause 120 = .ok (.iload_n 3, 1) := by decide +kernel
theorem dX12_addClause_121 : decode cX12_addClause 121 = .ok (.iconst 1, 1) := by decide +kernel
theorem dX12_addClause_122 : decode cX12_addClause 122 = .ok (.iload_n 1, 1) := by decide +kernel
theorem dX12_addClause_123 : decode cX12_addClause 123 = .ok (.invokevirtual 75, 3) := by decide +kernel
theorem dX12_addClause_126 : decode cX12_addClause 126 = .ok (.aload_n 0, 1) := by decide +kernel
theorem dX12_addClause_127 : decode cX12_addClause 127 = .ok (.iload_n 3, 1) := by decide +kernel
theorem dX12_addClause_128 : decode cX12_addClause 128 = .ok (.iconst 2, 1) := by decide +kernel
theorem dX12_addClause_129 : decode cX12_addClause 129 = .ok (.aload_n 0, 1) := by decide +kernel
theorem dX12_addClause_130 : decode cX12_addClause 130 = .ok (.getfield 7, 3) := by decide +kernel
theorem dX12_addClause_133 : decode cX12_addClause 133 = .ok (.iconst 2, 1) := by decide +kernel
theorem dX12_addClause_134 : decode cX12_addClause 134 = .ok (.iaload, 1) := by decide +kernel
theorem dX12_addClause_135 : decode cX12_addClause 135 = .ok (.invokevirtual 75, 3) := by decide +kernel
theorem dX12_addClause_138 : decode cX12_addClause 138 = .ok (.aload_n 0, 1) := by decide +kernel
theorem dX12_addClause_139 : decode cX12_addClause 139 = .ok (.iload_n 3, 1) := by decide +kernel
theorem dX12_addClause_140 : decode cX12_addClause 140 = .ok (.iconst 3, 1) := by decide +kernel
theorem dX12_addClause_141 : decode cX12_addClause 141 = .ok (.iconst (-1), 1) := by decide +kernel
theorem dX12_addClause_142 : decode cX12_addClause 142 = .ok (.invokevirtual 75, 3) := by decide +kernel
theorem dX12_addClause_145 : decode cX12_addClause 145 = .ok (.aload_n 0, 1) := by decide +kernel
theorem dX12_addClause_146 : decode cX12_addClause 146 = .ok (.iload_n 3, 1) := by decide +kernel
theorem dX12_addClause_147 : decode cX12_addClause 147 = .ok (.iconst 4, 1) := by decide +kernel
theorem dX12_addClause_148 : decode cX12_addClause 148 = .ok (.iconst 1, 1) := by decide +kernel
theorem dX12_addClause_149 : decode cX12_addClause 149 = .ok (.invokevirtual 75, 3) := by decide +kernel
theorem dX12_addClause_152 : decode cX12_addClause 152 = .ok (.aload_n 0, 1) := by decide +kernel
theorem dX12_addClause_153 : decode cX12_addClause 153 = .ok (.iload_n 3, 1) := by decide +kernel
theorem dX12_addClause_154 : decode cX12_addClause 154 = .ok (.iconst 5, 1) := by decide +kernel
theorem dX12_addClause_155 : decode cX12_addClause 155 = .ok (.aload_n 0, 1) := by decide +kernel
theorem dX12_addClause_156 : decode cX12_addClause 156 = .ok (.getfield 7, 3) := by decide +kernel
theorem dX12_addClause_159 : decode cX12_addClause 159 = .ok (.iconst 2, 1) := by decide +kernel
theorem dX12_addClause_160 : decode cX12_addClause 160 = .ok (.iaload, 1) := by decide +kernel
theorem dX12_addClause_161 : decode cX12_addClause 161 = .ok (.invokevirtual 75, 3) := by decide +kernel
theorem dX12_addClause_164 : decode cX12_addClause 164 = .ok (.aload_n 0, 1) := by decide +kernel
theorem dX12_addClause_165 : decode cX12_addClause 165 = .ok (.iload_n 3, 1) := by decide +kernel
theorem dX12_addClause_166 : decode cX12_addClause 166 = .ok (.bipush 6, 2) := by decide +kernel
theorem dX12_addClause_168 : decode cX12_addClause 168 = .ok (.iconst 1, 1) := by decide +kernel
theorem dX12_addClause_169 : decode cX12_addClause 169 = .ok (.invokevirtual 75, 3) := by decide +kernel
theorem dX12_addClause_172 : decode cX12_addClause 172 = .ok (.aload_n 0, 1) := by decide +kernel
theorem dX12_addClause_173 : decode cX12_addClause 173 = .ok (.iload_n 3, 1) := by decide +kernel
theorem dX12_addClause_174 : decode cX12_addClause 174 = .ok (.iconst 5, 1) := by decide +kernel
theorem dX12_addClause_175 : decode cX12_addClause 175 = .ok (.iconst 0, 1) := by decide +kernel
theorem dX12_addClause_176 : decode cX12_addClause 176 = .ok (.iload_n 2, 1) := by decide +kernel
theorem dX12_addClause_177 : decode cX12_addClause 177 = .ok (.invokevirtual 89, 3) := by decide +kernel
theorem dX12_addClause_180 : decode cX12_addClause 180 = .ok (.aload_n 0, 1) := by decide +kernel
theorem dX12_addClause_181 : decode cX12_addClause 181 = .ok (.getfield 7, 3) := by decide +kernel
theorem dX12_addClause_184 : decode cX12_addClause 184 = .ok (.iconst 1, 1) := by decide +kernel
theorem dX12_addClause_185 : decode cX12_addClause 185 = .ok (.dup2, 1) := by decide +kernel
theorem dX12_addClause_186 : decode cX12_addClause 186 = .ok (.iaload, 1) := by decide +kernel
theorem dX12_addClause_187 : decode cX12_addClause 187 = .ok (.iconst 1, 1) := by decide +kernel
theorem dX12_addClause_188 : decode cX12_addClause 188 = .ok (.iadd, 1) := by decide +kernel
theorem dX12_addClause_189 : decode cX12_addClause 189 = .ok (.iastore, 1) := by decide +kernel
theorem dX12_addClause_190 : decode cX12_addClause 190 = .ok (.aload_n 0, 1) := by decide +kernel
theorem dX12_addClause_191 : decode cX12_addClause 191 = .ok (.getfield 7, 3) := by decide +kernel
theorem dX12_addClause_194 : decode cX12_addClause 194 = .ok (.iconst 1, 1) := by decide +kernel
theorem dX12_addClause_195 : decode cX12_addClause 195 = .ok (.iaload, 1) := by decide +kernel
theorem dX12_addClause_196 : decode cX12_addClause 196 = .ok (.iconst 1, 1) := by decide +kernel
theorem dX12_addClause_197 : decode cX12_addClause 197 = .ok (.isub, 1) := by decide +kernel
theorem dX12_addClause_198 : decode cX12_addClause 198 = .ok (.ireturn, 1) := by decide +kernel
theorem dX12_amends_0 : decode cX12_amends 0 = .ok (.aload_n 0, 1) := by decide +kernel
theorem dX12_amends_1 : decode cX12_amends 1 = .ok (.iload_n 1, 1) := by decide +kernel
theorem dX12_amends_2 : decode cX12_amends 2 = .ok (.invokevirtual 93, 3) := by decide +kernel
theorem dX12_amends_5 : decode cX12_amends 5 = .ok (.istore_n 2, 1) := by decide +kernel
theorem dX12_amends_6 : decode cX12_amends 6 = .ok (.aload_n 0, 1) := by decide +kernel
theorem dX12_amends_7 : decode cX12_amends 7 = .ok (.iload_n 1, 1) := by decide +kernel
theorem dX12_amends_8 : decode cX12_amends 8 = .ok (.iconst 4, 1) := by decide +kernel
theorem dX12_amends_9 : decode cX12_amends 9 = .ok (.aload_n 0, 1) := by decide +kernel
theorem dX12_amends_10 : decode cX12_amends 10 = .ok (.iload_n 1, 1) := by decide +kernel
theorem dX12_amends_11 : decode cX12_amends 11 = .ok (.iconst 4, 1) := by decide +kernel
theorem dX12_amends_12 : decode cX12_amends 12 = .ok (.invokevirtual 59, 3) := by decide +kernel
theorem dX12_amends_15 : decode cX12_amends 15 = .ok (.iconst 1, 1) := by decide +kernel
theorem dX12_amends_16 : decode cX12_amends 16 = .ok (.iadd, 1) := by decide +kernel
theorem dX12_amends_17 : decode cX12_amends 17 = .ok (.invokevirtual 75, 3) := by decide +kernel
theorem dX12_amends_20 : decode cX12_amends 20 = .ok (.aload_n 0, 1) := by decide +kernel
theorem dX12_amends_21 : decode cX12_amends 21 = .ok (.iload_n 1, 1) := by decide +kernel
theorem dX12_amends_22 : decode cX12_amends 22 = .ok (.invokevirtual 93, 3) := by decide +kernel
theorem dX12_amends_25 : decode cX12_amends 25 = .ok (.istore_n 3, 1) := by decide +kernel
theorem dX12_amends_26 : decode cX12_amends 26 = .ok (.aload_n 0, 1) := by decide +kernel
theorem dX12_amends_27 : decode cX12_amends 27 = .ok (.iload_n 1, 1) := by decide +kernel
theorem dX12_amends_28 : decode cX12_amends 28 = .ok (.iload_n 3, 1) := by decide +kernel
theorem dX12_amends_29 : decode cX12_amends 29 = .ok (.aload_n 0, 1) := by decide +kernel
theorem dX12_amends_30 : decode cX12_amends 30 = .ok (.getfield 7, 3) := by decide +kernel
theorem dX12_amends_33 : decode cX12_amends 33 = .ok (.iconst 2, 1) := by decide +kernel
theorem dX12_amends_34 : decode cX12_amends 34 = .ok (.iaload, 1) := by decide +kernel
theorem dX12_amends_35 : decode cX12_amends 35 = .ok (.invokevirtual 75, 3) := by decide +kernel
theorem dX12_amends_38 : decode cX12_amends 38 = .ok (.iconst 1, 1) := by decide +kernel
theorem dX12_amends_39 : decode cX12_amends 39 = .ok (.istore 4, 2) := by decide +kernel
theorem dX12_amends_41 : decode cX12_amends 41 = .ok (.iload 4, 2) := by decide +kernel
theorem dX12_amends_43 : decode cX12_amends 43 = .ok (.iconst 4, 1) := by decide +kernel
theorem dX12_amends_44 : decode cX12_amends 44 = .ok (.if_icmp .ge 27, 3) := by decide +kernel
theorem dX12_amends_47 : decode cX12_amends 47 = .ok (.aload_n 0, 1) := by decide +kernel
theorem dX12_amends_48 : decode cX12_amends 48 = .ok (.iload_n 1, 1) := by decide +kernel
theorem dX12_amends_49 : decode cX12_amends 49 = .ok (.iload_n 3, 1) := by decide +kernel
theorem dX12_amends_50 : decode cX12_amends 50 = .ok (.iload 4, 2) := by decide +kernel
theorem dX12_amends_52 : decode cX12_amends 52 = .ok (.iadd, 1) := by decide +kernel
theorem dX12_amends_53 : decode cX12_amends 53 = .ok (.aload_n 0, 1) := by decide +kernel
theorem dX12_amends_54 : decode cX12_amends 54 = .ok (.iload_n 1, 1) := by decide +kernel
theorem dX12_amends_55 : decode cX12_amends 55 = .ok (.iload_n 2, 1) := by decide +kernel
theorem dX12_amends_56 : decode cX12_amends 56 = .ok (.iload 4, 2) := by decide +kernel
theorem dX12_amends_58 : decode cX12_amends 58 = .ok (.iadd, 1) := by decide +kernel
theorem dX12_amends_59 : decode cX12_amends 59 = .ok (.invokevirtual 59, 3) := by decide +kernel
theorem dX12_amends_62 : decode cX12_amends 62 = .ok (.invokevirtual 75, 3) := by decide +kernel
theorem dX12_amends_65 : decode cX12_amends 65 = .ok (.iinc 4 1, 3) := by decide +kernel
theorem dX12_amends_68 : decode cX12_amends 68 = .ok (.goto (-27), 3) := by decide +kernel
theorem dX12_amends_71 : decode cX12_amends 71 = .ok (.aload_n 0, 1) := by decide +kernel
theorem dX12_amends_72 : decode cX12_amends 72 = .ok (.getfield 7, 3) := by decide +kernel
theorem dX12_amends_75 : decode cX12_amends 75 = .ok (.iconst 3, 1) := by decide +kernel
theorem dX12_amends_76 : decode cX12_amends 76 = .ok (.dup2, 1) := by decide +kernel
theorem dX12_amends_77 : decode cX12_amends 77 = .ok (.iaload, 1) := by decide +kernel
theorem dX12_amends_78 : decode cX12_amends 78 = .ok (.iconst 1, 1) := by decide +kernel
theorem dX12_amends_79 : decode cX12_amends 79 = .ok (.iadd, 1) := by decide +kernel
theorem dX12_amends_80 : decode cX12_amends 80 = .ok (.iastore, 1) := by decide +kernel
theorem dX12_amends_81 : decode cX12_amends 81 = .ok (.iload_n 3, 1) := by decide +kernel
theorem dX12_amends_82 : decode cX12_amends 82 = .ok (.ireturn, 1) := by decide +kernel
theorem dX12_isClosed_0 : decode cX12_isClosed 0 = .ok (.aload_n 0, 1) := by decide +kernel
theorem dX12_isClosed_1 : decode cX12_isClosed 1 = .ok (.iload_n 1, 1) := by decide +kernel
theorem dX12_isClosed_2 : decode cX12_isClosed 2 = .ok (.aload_n 0, 1) := by decide +kernel
theorem dX12_isClosed_3 : decode cX12_isClosed 3 = .ok (.getfield 7, 3) := by decide +kernel
theorem dX12_isClosed_6 : decode cX12_isClosed 6 = .ok (.iconst 2, 1) := by decide +kernel
theorem dX12_isClosed_7 : decode cX12_isClosed 7 = .ok (.iaload, 1) := by decide +kernel
theorem dX12_isClosed_8 : decode cX12_isClosed 8 = .ok (.invokevirtual 96, 3) := by decide +kernel
theorem dX12_isClosed_11 : decode cX12_isClosed 11 = .ok (.ifCond .eq 14, 3) := by decide +kernel
theorem dX12_isClosed_14 : decode cX12_isClosed 14 = .ok (.aload_n 0, 1) := by decide +kernel
theorem dX12_isClosed_15 : decode cX12_isClosed 15 = .ok (.iload_n 1, 1) := by decide +kernel
theorem dX12_isClosed_16 : decode cX12_isClosed 16 = .ok (.iconst 4, 1) := by decide +kernel
theorem dX12_isClosed_17 : decode cX12_isClosed 17 = .ok (.invokevirtual 59, 3) := by decide +kernel
theorem dX12_isClosed_20 : decode cX12_isClosed 20 = .ok (.bipush 8, 2) := by decide +kernel
theorem dX12_isClosed_22 : decode cX12_isClosed 22 = .ok (.if_icmp .ne 7, 3) := by decide +kernel
theorem dX12_isClosed_25 : decode cX12_isClosed 25 = .ok (.iconst 1, 1) := by decide +kernel
theorem dX12_isClosed_26 : decode cX12_isClosed 26 = .ok (.goto 4, 3) := by decide +kernel
theorem dX12_isClosed_29 : decode cX12_isClosed 29 = .ok (.iconst 0, 1) := by decide +kernel
theorem dX12_isClosed_30 : decode cX12_isClosed 30 = .ok (.ireturn, 1) := by decide +kernel
theorem dX12_long0_0 : decode cX12_long0 0 = .ok (.aload_n 0, 1) := by decide +kernel
theorem dX12_long0_1 : decode cX12_long0 1 = .ok (.iload_n 1, 1) := by decide +kernel
theorem dX12_long0_2 : decode cX12_long0 2 = .ok (.aload_n 0, 1) := by decide +kernel
theorem dX12_long0_3 : decode cX12_long0 3 = .ok (.iload_n 1, 1) := by decide +kernel
theorem dX12_long0_4 : decode cX12_long0 4 = .ok (.invokevirtual 93, 3) := by decide +kernel
theorem dX12_long0_7 : decode cX12_long0 7 = .ok (.iconst 1, 1) := by decide +kernel
theorem dX12_long0_8 : decode cX12_long0 8 = .ok (.iadd, 1) := by decide +kernel
theorem dX12_long0_9 : decode cX12_long0 9 = .ok (.invokevirtual 59, 3) := by decide +kernel
theorem dX12_long0_12 : decode cX12_long0 12 = .ok (.ireturn, 1) := by decide +kernel
theorem dX12_insertNote_0 : decode cX12_insertNote 0 = .ok (.aload_n 0, 1) := by decide +kernel
theorem dX12_insertNote_1 : decode cX12_insertNote 1 = .ok (.iload_n 1, 1) := by decide +kernel
theorem dX12_insertNote_2 : decode cX12_insertNote 2 = .ok (.invokevirtual 63, 3) := by decide +kernel
theorem dX12_insertNote_5 : decode cX12_insertNote 5 = .ok (.istore 4, 2) := by decide +kernel
theorem dX12_insertNote_7 : decode cX12_insertNote 7 = .ok (.aload_n 0, 1) := by decide +kernel
theorem dX12_insertNote_8 : decode cX12_insertNote 8 = .ok (.iload 4, 2) := by decide +kernel
theorem dX12_insertNote_10 : decode cX12_insertNote 10 = .ok (.ifCond .ge 7, 3) := by decide +kernel
theorem dX12_insertNote_13 : decode cX12_insertNote 13 = .ok (.iconst 1, 1) := by decide +kernel
theorem dX12_insertNote_14 : decode cX12_insertNote 14 = .ok (.goto 61, 3) := by decide +kernel
theorem dX12_insertNote_17 : decode cX12_insertNote 17 = .ok (.iload_n 2, 1) := by decide +kernel
theorem dX12_insertNote_18 : decode cX12_insertNote 18 = .ok (.iconst 0, 1) := by decide +kernel
theorem dX12_insertNote_19 : decode cX12_insertNote 19 = .ok (.aload_n 0, 1) := by decide +kernel
theorem dX12_insertNote_20 : decode cX12_insertNote 20 = .ok (.iload 4, 2) := by decide +kernel
theorem dX12_insertNote_22 : decode cX12_insertNote 22 = .ok (.invokevirtual 100, 3) := by decide +kernel
theorem dX12_insertNote_25 : decode cX12_insertNote 25 = .ok (.invokestatic 71, 3) := by decide +kernel
theorem dX12_insertNote_28 : decode cX12_insertNote 28 = .ok (.ifCond .ne 7, 3) := by decide +kernel
theorem dX12_insertNote_31 : decode cX12_insertNote 31 = .ok (.iconst 2, 1) := by decide +kernel
theorem dX12_insertNote_32 : decode cX12_insertNote 32 = .ok (.goto 43, 3) := by decide +kernel
theorem dX12_insertNote_35 : decode cX12_insertNote 35 = .ok (.iload_n 3, 1) := by decide +kernel
theorem dX12_insertNote_36 : decode cX12_insertNote 36 = .ok (.invokestatic 79, 3) := by decide +kernel
theorem dX12_insertNote_39 : decode cX12_insertNote 39 = .ok (.ifCond .ne 7, 3) := by decide +kernel
theorem dX12_insertNote_42 : decode cX12_insertNote 42 = .ok (.iconst 3, 1) := by decide +kernel
theorem dX12_insertNote_43 : decode cX12_insertNote 43 = .ok (.goto 32, 3) := by decide +kernel
theorem dX12_insertNote_46 : decode cX12_insertNote 46 = .ok (.aload_n 0, 1) := by decide +kernel
theorem dX12_insertNote_47 : decode cX12_insertNote 47 = .ok (.iload 4, 2) := by decide +kernel
theorem dX12_insertNote_49 : decode cX12_insertNote 49 = .ok (.invokevirtual 103, 3) := by decide +kernel
theorem dX12_insertNote_52 : decode cX12_insertNote 52 = .ok (.ifCond .eq 7, 3) := by decide +kernel
theorem dX12_insertNote_55 : decode cX12_insertNote 55 = .ok (.iconst 4, 1) := by decide +kernel
theorem dX12_insertNote_56 : decode cX12_insertNote 56 = .ok (.goto 19, 3) := by decide +kernel
theorem dX12_insertNote_59 : decode cX12_insertNote 59 = .ok (.aload_n 0, 1) := by decide +kernel
theorem dX12_insertNote_60 : decode cX12_insertNote 60 = .ok (.iload 4, 2) := by decide +kernel
theorem dX12_insertNote_62 : decode cX12_insertNote 62 = .ok (.invokevirtual 100, 3) := by decide +kernel
theorem dX12_insertNote_65 : decode cX12_insertNote 65 = .ok (.bipush 12, 2) := by decide +kernel
theorem dX12_insertNote_67 : decode cX12_insertNote 67 = .ok (.if_icmp .ne 7, 3) := by decide +kernel
theorem dX12_insertNote_70 : decode cX12_insertNote 70 = .ok (.iconst 5, 1) := by decide +kernel
theorem dX12_insertNote_71 : decode cX12_insertNote 71 = .ok (.goto 4, 3) := by decide +kernel
theorem dX12_insertNote_74 : decode cX12_insertNote 74 = .ok (.iconst 0, 1) := by decide +kernel
theorem dX12_insertNote_75 : decode cX12_insertNote 75 = .ok (.invokevirtual 67, 3) := by decide +kernel
theorem dX12_insertNote_78 : decode cX12_insertNote 78 = .ok (.ifCond .eq 5, 3) := by decide +kernel
theorem dX12_insertNote_81 : decode cX12_insertNote 81 = .ok (.iconst 0, 1) := by decide +kernel
theorem dX12_insertNote_82 : decode cX12_insertNote 82 = .ok (.ireturn, 1) := by decide +kernel
theorem dX12_insertNote_83 : decode cX12_insertNote 83 = .ok (.aload_n 0, 1) := by decide +kernel
theorem dX12_insertNote_84 : decode cX12_insertNote 84 = .ok (.aload_n 0, 1) := by decide +kernel
theorem dX12_insertNote_85 : decode cX12_insertNote 85 = .ok (.getfield 7, 3) := by decide +kernel
theorem dX12_insertNote_88 : decode cX12_insertNote 88 = .ok (.invokevirtual 85, 3) := by decide +kernel
theorem dX12_insertNote_91 : decode cX12_insertNote 91 = .ok (.aload_n 0, 1) := by decide +kernel
theorem dX12_insertNote_92 : decode cX12_insertNote 92 = .ok (.iload 4, 2) := by decide +kernel
theorem dX12_insertNote_94 : decode cX12_insertNote 94 = .ok (.invokevirtual 106, 3) := by decide +kernel
theorem dX12_insertNote_97 : decode cX12_insertNote 97 = .ok (.istore 5, 2) := by decide +kernel
theorem dX12_insertNote_99 : decode cX12_insertNote 99 = .ok (.aload_n 0, 1) := by decide +kernel
theorem dX12_insertNote_100 : decode cX12_insertNote 100 = .ok (.iload 4, 2) := by decide +kernel
theorem dX12_insertNote_102 : decode cX12_insertNote 102 = .ok (.iload 5, 2) := by decide +kernel
theorem dX12_insertNote_104 : decode cX12_insertNote 104 = .ok (.iconst 1, 1) := by decide +kernel
theorem dX12_insertNote_105 : decode cX12_insertNote 105 = .ok (.iadd, 1) := by decide +kernel
theorem dX12_insertNote_106 : decode cX12_insertNote 106 = .ok (.invokevirtual 59, 3) := by decide +kernel
theorem dX12_insertNote_109 : decode cX12_insertNote 109 = .ok (.istore 6, 2) := by decide +kernel
theorem dX12_insertNote_111 : decode cX12_insertNote 111 = .ok (.iload 6, 2) := by decide +kernel
theorem dX12_insertNote_113 : decode cX12_insertNote 113 = .ok (.istore 7, 2) := by decide +kernel
theorem dX12_insertNote_115 : decode cX12_insertNote 115 = .ok (.iload 7, 2) := by decide +kernel
theorem dX12_insertNote_117 : decode cX12_insertNote 117 = .ok (.iload_n 2, 1) := by decide +kernel
theorem dX12_insertNote_118 : decode cX12_insertNote 118 = .ok (.if_icmp .le 31, 3) := by decide +kernel
theorem dX12_insertNote_121 : decode cX12_insertNote 121 = .ok (.aload_n 0, 1) := by decide +kernel
theorem dX12_insertNote_122 : decode cX12_insertNote 122 = .ok (.iload 4, 2) := by decide +kernel
theorem dX12_insertNote_124 : decode cX12_insertNote 124 = .ok (.iload 5, 2) := by decide +kernel
theorem dX12_insertNote_126 : decode cX12_insertNote 126 = .ok (.iload 7, 2) := by decide +kernel
theorem dX12_insertNote_128 : decode cX12_insertNote 128 = .ok (.aload_n 0, 1) := by decide +kernel
theorem dX12_insertNote_129 : decode cX12_insertNote 129 = .ok (.iload 4, 2) := by decide +kernel
theorem dX12_insertNote_131 : decode cX12_insertNote 131 = .ok (.iload 5, 2) := by decide +kernel
theorem dX12_insertNote_133 : decode cX12_insertNote 133 = .ok (.iload 7, 2) := by decide +kernel
theorem dX12_insertNote_135 : decode cX12_insertNote 135 = .ok (.iconst 1, 1) := by decide +kernel
theorem dX12_insertNote_136 : decode cX12_insertNote 136 = .ok (.isub, 1) := by decide +kernel
theorem dX12_insertNote_137 : decode cX12_insertNote 137 = .ok (.invokevirtual 109, 3) := by decide +kernel
theorem dX12_insertNote_140 : decode cX12_insertNote 140 = .ok (.invokevirtual 89, 3) := by decide +kernel
theorem dX12_insertNote_143 : decode cX12_insertNote 143 = .ok (.iinc 7 (-1), 3) := by decide +kernel
theorem dX12_insertNote_146 : decode cX12_insertNote 146 = .ok (.goto (-31), 3) := by decide +kernel
theorem dX12_insertNote_149 : decode cX12_insertNote 149 = .ok (.aload_n 0, 1) := by decide +kernel
theorem dX12_insertNote_150 : decode cX12_insertNote 150 = .ok (.iload 4, 2) := by decide +kernel
theorem dX12_insertNote_152 : decode cX12_insertNote 152 = .ok (.iload 5, 2) := by decide +kernel
theorem dX12_insertNote_154 : decode cX12_insertNote 154 = .ok (.iload_n 2, 1) := by decide +kernel
theorem dX12_insertNote_155 : decode cX12_insertNote 155 = .ok (.iload_n 3, 1) := by decide +kernel
theorem dX12_insertNote_156 : decode cX12_insertNote 156 = .ok (.invokevirtual 89, 3) := by decide +kernel
theorem dX12_insertNote_159 : decode cX12_insertNote 159 = .ok (.aload_n 0, 1) := by decide +kernel
theorem dX12_insertNote_160 : decode cX12_insertNote 160 = .ok (.iload 4, 2) := by decide +kernel
theorem dX12_insertNote_162 : decode cX12_insertNote 162 = .ok (.iload 5, 2) := by decide +kernel
theorem dX12_insertNote_164 : decode cX12_insertNote 164 = .ok (.iconst 1, 1) := by decide +kernel
theorem dX12_insertNote_165 : decode cX12_insertNote 165 = .ok (.iadd, 1) := by decide +kernel
theorem dX12_insertNote_166 : decode cX12_insertNote 166 = .ok (.iload 6, 2) := by decide +kernel
theorem dX12_insertNote_168 : decode cX12_insertNote 168 = .ok (.iconst 1, 1) := by decide +kernel
theorem dX12_insertNote_169 : decode cX12_insertNote 169 = .ok (.iadd, 1) := by decide +kernel
theorem dX12_insertNote_170 : decode cX12_insertNote 170 = .ok (.invokevirtual 75, 3) := by decide +kernel
theorem dX12_insertNote_173 : decode cX12_insertNote 173 = .ok (.aload_n 0, 1) := by decide +kernel
theorem dX12_insertNote_174 : decode cX12_insertNote 174 = .ok (.iload 4, 2) := by decide +kernel
theorem dX12_insertNote_176 : decode cX12_insertNote 176 = .ok (.iconst 4, 1) := by decide +kernel
theorem dX12_insertNote_177 : decode cX12_insertNote 177 = .ok (.invokevirtual 59, 3) := by decide +kernel
theorem dX12_insertNote_180 : decode cX12_insertNote 180 = .ok (.ireturn, 1) := by decide +kernel
theorem dX12_replaceNote_0 : decode cX12_replaceNote 0 = .ok (.aload_n 0, 1) := by decide +kernel
theorem dX12_replaceNote_1 : decode cX12_replaceNote 1 = .ok (.iload_n 1, 1) := by decide +kernel
theorem dX12_replaceNote_2 : decode cX12_replaceNote 2 = .ok (.invokevirtual 63, 3) := by decide +kernel
theorem dX12_replaceNote_5 : decode cX12_replaceNote 5 = .ok (.istore 4, 2) := by decide +kernel
theorem dX12_replaceNote_7 : decode cX12_replaceNote 7 = .ok (.aload_n 0, 1) := by decide +kernel
theorem dX12_replaceNote_8 : decode cX12_replaceNote 8 = .ok (.iload 4, 2) := by decide +kernel
theorem dX12_replaceNote_10 : decode cX12_replaceNote 10 = .ok (.ifCond .ge 7, 3) := by decide +kernel
theorem dX12_replaceNote_13 : decode cX12_replaceNote 13 = .ok (.iconst 1, 1) := by decide +kernel
theorem dX12_replaceNote_14 : decode cX12_replaceNote 14 = .ok (.goto 48, 3) := by decide +kernel
theorem dX12_replaceNote_17 : decode cX12_replaceNote 17 = .ok (.iload_n 2, 1) := by decide +kernel
theorem dX12_replaceNote_18 : decode cX12_replaceNote 18 = .ok (.iconst 0, 1) := by decide +kernel
theorem dX12_replaceNote_19 : decode cX12_replaceNote 19 = .ok (.aload_n 0, 1) := by decide +kernel
theorem dX12_replaceNote_20 : decode cX12_replaceNote 20 = .ok (.iload 4, 2) := by decide +kernel
theorem dX12_replaceNote_22 : decode cX12_replaceNote 22 = .ok (.invokevirtual 100, 3) := by decide +kernel
theorem dX12_replaceNote_25 : decode cX12_replaceNote 25 = .ok (.iconst 1, 1) := by decide +kernel
theorem dX12_replaceNote_26 : decode cX12_replaceNote 26 = .ok (.isub, 1) := by decide +kernel
theorem dX12_replaceNote_27 : decode cX12_replaceNote 27 = .ok (.invokestatic 71, 3) := by decide +kernel
theorem dX12_replaceNote_30 : decode cX12_replaceNote 30 = .ok (.ifCond .ne 7, 3) := by decide +kernel
theorem dX12_replaceNote_33 : decode cX12_replaceNote 33 = .ok (.iconst 2, 1) := by decide +kernel
theorem dX12_replaceNote_34 : decode cX12_replaceNote 34 = .ok (.goto 28, 3) := by decide +kernel
theorem dX12_replaceNote_37 : decode cX12_replaceNote 37 = .ok (.iload_n 3, 1) := by decide +kernel
theorem dX12_replaceNote_38 : decode cX12_replaceNote 38 = .ok (.invokestatic 79, 3) := by decide +kernel
theorem dX12_replaceNote_41 : decode cX12_replaceNote 41 = .ok (.ifCond .ne 7, 3) := by decide +kernel
theorem dX12_replaceNote_44 : decode cX12_replaceNote 44 = .ok (.iconst 3, 1) := by decide +kernel
theorem dX12_replaceNote_45 : decode cX12_replaceNote 45 = .ok (.goto 17, 3) := by decide +kernel
theorem dX12_replaceNote_48 : decode cX12_replaceNote 48 = .ok (.aload_n 0, 1) := by decide +kernel
theorem dX12_replaceNote_49 : decode cX12_replaceNote 49 = .ok (.iload 4, 2) := by decide +kernel
theorem dX12_replaceNote_51 : decode cX12_replaceNote 51 = .ok (.invokevirtual 103, 3) := by decide +kernel
theorem dX12_replaceNote_54 : decode cX12_replaceNote 54 = .ok (.ifCond .eq 7, 3) := by decide +kernel
theorem dX12_replaceNote_57 : decode cX12_replaceNote 57 = .ok (.iconst 4, 1) := by decide +kernel
theorem dX12_replaceNote_58 : decode cX12_replaceNote 58 = .ok (.goto 4, 3) := by decide +kernel
theorem dX12_replaceNote_61 : decode cX12_replaceNote 61 = .ok (.iconst 0, 1) := by decide +kernel
theorem dX12_replaceNote_62 : decode cX12_replaceNote 62 = .ok (.invokevirtual 67, 3) := by decide +kernel
theorem dX12_replaceNote_65 : decode cX12_replaceNote 65 = .ok (.ifCond .eq 5, 3) := by decide +kernel
theorem dX12_replaceNote_68 : decode cX12_replaceNote 68 = .ok (.iconst 0, 1) := by decide +kernel
theorem dX12_replaceNote_69 : decode cX12_replaceNote 69 = .ok (.ireturn, 1) := by decide +kernel
theorem dX12_replaceNote_70 : decode cX12_replaceNote 70 = .ok (.aload_n 0, 1) := by decide +kernel
theorem dX12_replaceNote_71 : decode cX12_replaceNote 71 = .ok (.aload_n 0, 1) := by decide +kernel
theorem dX12_replaceNote_72 : decode cX12_replaceNote 72 = .ok (.getfield 7, 3) := by decide +kernel
theorem dX12_replaceNote_75 : decode cX12_replaceNote 75 = .ok (.invokevirtual 85, 3) := by decide +kernel
theorem dX12_replaceNote_78 : decode cX12_replaceNote 78 = .ok (.aload_n 0, 1) := by decide +kernel
theorem dX12_replaceNote_79 : decode cX12_replaceNote 79 = .ok (.iload 4, 2) := by decide +kernel
theorem dX12_replaceNote_81 : decode cX12_replaceNote 81 = .ok (.aload_n 0, 1) := by decide +kernel
theorem dX12_replaceNote_82 : decode cX12_replaceNote 82 = .ok (.iload 4, 2) := by decide +kernel
theorem dX12_replaceNote_84 : decode cX12_replaceNote 84 = .ok (.invokevirtual 106, 3) := by decide +kernel
theorem dX12_replaceNote_87 : decode cX12_replaceNote 87 = .ok (.iload_n 2, 1) := by decide +kernel
theorem dX12_replaceNote_88 : decode cX12_replaceNote 88 = .ok (.iload_n 3, 1) := by decide +kernel
theorem dX12_replaceNote_89 : decode cX12_replaceNote 89 = .ok (.invokevirtual 89, 3) := by decide +kernel
theorem dX12_replaceNote_92 : decode cX12_replaceNote 92 = .ok (.aload_n 0, 1) := by decide +kernel
theorem dX12_replaceNote_93 : decode cX12_replaceNote 93 = .ok (.iload 4, 2) := by decide +kernel
theorem dX12_replaceNote_95 : decode cX12_replaceNote 95 = .ok (.iconst 4, 1) := by decide +kernel
theorem dX12_replaceNote_96 : decode cX12_replaceNote 96 = .ok (.invokevirtual 59, 3) := by decide +kernel
theorem dX12_replaceNote_99 : decode cX12_replaceNote 99 = .ok (.ireturn, 1) := by decide +kernel
theorem dX12_deleteNote_0 : decode cX12_deleteNote 0 = .ok (.aload_n 0, 1) := by decide +kernel
theorem dX12_deleteNote_1 : decode cX12_deleteNote 1 = .ok (.iload_n 1, 1) := by decide +kernel
theorem dX12_deleteNote_2 : decode cX12_deleteNote 2 = .ok (.invokevirtual 63, 3) := by decide +kernel
theorem dX12_deleteNote_5 : decode cX12_deleteNote 5 = .ok (.istore_n 3, 1) := by decide +kernel
theorem dX12_deleteNote_6 : decode cX12_deleteNote 6 = .ok (.aload_n 0, 1) := by decide +kernel
theorem dX12_deleteNote_7 : decode cX12_deleteNote 7 = .ok (.iload_n 3, 1) := by decide +kernel
theorem dX12_deleteNote_8 : decode cX12_deleteNote 8 = .ok (.ifCond .ge 7, 3) := by decide +kernel
theorem dX12_deleteNote_11 : decode cX12_deleteNote 11 = .ok (.iconst 1, 1) := by decide +kernel
theorem dX12_deleteNote_12 : decode cX12_deleteNote 12 = .ok (.goto 48, 3) := by decide +kernel
theorem dX12_deleteNote_15 : decode cX12_deleteNote 15 = .ok (.iload_n 2, 1) := by decide +kernel
theorem dX12_deleteNote_16 : decode cX12_deleteNote 16 = .ok (.iconst 0, 1) := by decide +kernel
theorem dX12_deleteNote_17 : decode cX12_deleteNote 17 = .ok (.aload_n 0, 1) := by decide +kernel
theorem dX12_deleteNote_18 : decode cX12_deleteNote 18 = .ok (.iload_n 3, 1) := by decide +kernel
theorem dX12_deleteNote_19 : decode cX12_deleteNote 19 = .ok (.invokevirtual 100, 3) := by decide +kernel
theorem dX12_deleteNote_22 : decode cX12_deleteNote 22 = .ok (.iconst 1, 1) := by decide +kernel
theorem dX12_deleteNote_23 : decode cX12_deleteNote 23 = .ok (.isub, 1) := by decide +kernel
theorem dX12_deleteNote_24 : decode cX12_deleteNote 24 = .ok (.invokestatic 71, 3) := by decide +kernel
theorem dX12_deleteNote_27 : decode cX12_deleteNote 27 = .ok (.ifCond .ne 7, 3) := by decide +kernel
theorem dX12_deleteNote_30 : decode cX12_deleteNote 30 = .ok (.iconst 2, 1) := by decide +kernel
theorem dX12_deleteNote_31 : decode cX12_deleteNote 31 = .ok (.goto 29, 3) := by decide +kernel
theorem dX12_deleteNote_34 : decode cX12_deleteNote 34 = .ok (.aload_n 0, 1) := by decide +kernel
theorem dX12_deleteNote_35 : decode cX12_deleteNote 35 = .ok (.iload_n 3, 1) := by decide +kernel
theorem dX12_deleteNote_36 : decode cX12_deleteNote 36 = .ok (.invokevirtual 103, 3) := by decide +kernel
theorem dX12_deleteNote_39 : decode cX12_deleteNote 39 = .ok (.ifCond .eq 7, 3) := by decide +kernel
theorem dX12_deleteNote_42 : decode cX12_deleteNote 42 = .ok (.iconst 3, 1) := by decide +kernel
theorem dX12_deleteNote_43 : decode cX12_deleteNote 43 = .ok (.goto 17, 3) := by decide +kernel
theorem dX12_deleteNote_46 : decode cX12_deleteNote 46 = .ok (.aload_n 0, 1) := by decide +kernel
theorem dX12_deleteNote_47 : decode cX12_deleteNote 47 = .ok (.iload_n 3, 1) := by decide +kernel
theorem dX12_deleteNote_48 : decode cX12_deleteNote 48 = .ok (.invokevirtual 100, 3) := by decide +kernel
theorem dX12_deleteNote_51 : decode cX12_deleteNote 51 = .ok (.iconst 1, 1) := by decide +kernel
theorem dX12_deleteNote_52 : decode cX12_deleteNote 52 = .ok (.if_icmp .ne 7, 3) := by decide +kernel
theorem dX12_deleteNote_55 : decode cX12_deleteNote 55 = .ok (.iconst 4, 1) := by decide +kernel
theorem dX12_deleteNote_56 : decode cX12_deleteNote 56 = .ok (.goto 4, 3) := by decide +kernel
theorem dX12_deleteNote_59 : decode cX12_deleteNote 59 = .ok (.iconst 0, 1) := by decide +kernel
theorem dX12_deleteNote_60 : decode cX12_deleteNote 60 = .ok (.invokevirtual 67, 3) := by decide +kernel
theorem dX12_deleteNote_63 : decode cX12_deleteNote 63 = .ok (.ifCond .eq 5, 3) := by decide +kernel
theorem dX12_deleteNote_66 : decode cX12_deleteNote 66 = .ok (.iconst 0, 1) := by decide +kernel
theorem dX12_deleteNote_67 : decode cX12_deleteNote 67 = .ok (.ireturn, 1) := by decide +kernel
theorem dX12_deleteNote_68 : decode cX12_deleteNote 68 = .ok (.aload_n 0, 1) := by decide +kernel
theorem dX12_deleteNote_69 : decode cX12_deleteNote 69 = .ok (.aload_n 0, 1) := by decide +kernel
theorem dX12_deleteNote_70 : decode cX12_deleteNote 70 = .ok (.getfield 7, 3) := by decide +kernel
theorem dX12_deleteNote_73 : decode cX12_deleteNote 73 = .ok (.invokevirtual 85, 3) := by decide +kernel
theorem dX12_deleteNote_76 : decode cX12_deleteNote 76 = .ok (.aload_n 0, 1) := by decide +kernel
theorem dX12_deleteNote_77 : decode cX12_deleteNote 77 = .ok (.iload_n 3, 1) := by decide +kernel
theorem dX12_deleteNote_78 : decode cX12_deleteNote 78 = .ok (.invokevirtual 106, 3) := by decide +kernel
theorem dX12_deleteNote_81 : decode cX12_deleteNote 81 = .ok (.istore 4, 2) := by decide +kernel
theorem dX12_deleteNote_83 : decode cX12_deleteNote 83 = .ok (.aload_n 0, 1) := by decide +kernel
theorem dX12_deleteNote_84 : decode cX12_deleteNote 84 = .ok (.iload_n 3, 1) := by decide +kernel
theorem dX12_deleteNote_85 : decode cX12_deleteNote 85 = .ok (.iload 4, 2) := by decide +kernel
theorem dX12_deleteNote_87 : decode cX12_deleteNote 87 = .ok (.iconst 1, 1) := by decide +kernel
theorem dX12_deleteNote_88 : decode cX12_deleteNote 88 = .ok (.iadd, 1) := by decide +kernel
theorem dX12_deleteNote_89 : decode cX12_deleteNote 89 = .ok (.invokevirtual 59, 3) := by decide +kernel
theorem dX12_deleteNote_92 : decode cX12_deleteNote 92 = .ok (.istore 5, 2) := by decide +kernel
theorem dX12_deleteNote_94 : decode cX12_deleteNote 94 = .ok (.iload_n 2, 1) := by decide +kernel
theorem dX12_deleteNote_95 : decode cX12_deleteNote 95 = .ok (.istore 6, 2) := by decide +kernel
theorem dX12_deleteNote_97 : decode cX12_deleteNote 97 = .ok (.iload 6, 2) := by decide +kernel
theorem dX12_deleteNote_99 : decode cX12_deleteNote 99 = .ok (.iconst 1, 1) := by decide +kernel
theorem dX12_deleteNote_100 : decode cX12_deleteNote 100 = .ok (.iadd, 1) := by decide +kernel
theorem dX12_deleteNote_101 : decode cX12_deleteNote 101 = .ok (.iload 5, 2) := by decide +kernel
theorem dX12_deleteNote_103 : decode cX12_deleteNote 103 = .ok (.if_icmp .ge 29, 3) := by decide +kernel
theorem dX12_deleteNote_106 : decode cX12_deleteNote 106 = .ok (.aload_n 0, 1) := by decide +kernel
theorem dX12_deleteNote_107 : decode cX12_deleteNote 107 = .ok (.iload_n 3, 1) := by decide +kernel
theorem dX12_deleteNote_108 : decode cX12_deleteNote 108 = .ok (.iload 4, 2) := by decide +kernel
theorem dX12_deleteNote_110 : decode cX12_deleteNote 110 = .ok (.iload 6, 2) := by decide +kernel
theorem dX12_deleteNote_112 : decode cX12_deleteNote 112 = .ok (.aload_n 0, 1) := by decide +kernel
theorem dX12_deleteNote_113 : decode cX12_deleteNote 113 = .ok (.iload_n 3, 1) := by decide +kernel
theorem dX12_deleteNote_114 : decode cX12_deleteNote 114 = .ok (.iload 4, 2) := by decide +kernel
theorem dX12_deleteNote_116 : decode cX12_deleteNote 116 = .ok (.iload 6, 2) := by decide +kernel
theorem dX12_deleteNote_118 : decode cX12_deleteNote 118 = .ok (.iconst 1, 1) := by decide +kernel
theorem dX12_deleteNote_119 : decode cX12_deleteNote 119 = .ok (.iadd, 1) := by decide +kernel
theorem dX12_deleteNote_120 : decode cX12_deleteNote 120 = .ok (.invokevirtual 109, 3) := by decide +kernel
theorem dX12_deleteNote_123 : decode cX12_deleteNote 123 = .ok (.invokevirtual 89, 3) := by decide +kernel
theorem dX12_deleteNote_126 : decode cX12_deleteNote 126 = .ok (.iinc 6 1, 3) := by decide +kernel
theorem dX12_deleteNote_129 : decode cX12_deleteNote 129 = .ok (.goto (-32), 3) := by decide +kernel
theorem dX12_deleteNote_132 : decode cX12_deleteNote 132 = .ok (.aload_n 0, 1) := by decide +kernel
theorem dX12_deleteNote_133 : decode cX12_deleteNote 133 = .ok (.iload_n 3, 1) := by decide +kernel
theorem dX12_deleteNote_134 : decode cX12_deleteNote 134 = .ok (.iload 4, 2) := by decide +kernel
theorem dX12_deleteNote_136 : decode cX12_deleteNote 136 = .ok (.iload 5, 2) := by decide +kernel
theorem dX12_deleteNote_138 : decode cX12_deleteNote 138 = .ok (.iconst 1, 1) := by decide +kernel
theorem dX12_deleteNote_139 : decode cX12_deleteNote 139 = .ok (.isub, 1) := by decide +kernel
theorem dX12_deleteNote_140 : decode cX12_deleteNote 140 = .ok (.bipush 97, 2) := by decide +kernel
theorem dX12_deleteNote_142 : decode cX12_deleteNote 142 = .ok (.invokevirtual 89, 3) := by decide +kernel
theorem dX12_deleteNote_145 : decode cX12_deleteNote 145 = .ok (.aload_n 0, 1) := by decide +kernel
theorem dX12_deleteNote_146 : decode cX12_deleteNote 146 = .ok (.iload_n 3, 1) := by decide +kernel
theorem dX12_deleteNote_147 : decode cX12_deleteNote 147 = .ok (.iload 4, 2) := by decide +kernel
theorem dX12_deleteNote_149 : decode cX12_deleteNote 149 = .ok (.iconst 1, 1) := by decide +kernel
theorem dX12_deleteNote_150 : decode cX12_deleteNote 150 = .ok (.iadd, 1) := by decide +kernel
theorem dX12_deleteNote_151 : decode cX12_deleteNote 151 = .ok (.iload 5, 2) := by decide +kernel
theorem dX12_deleteNote_153 : decode cX12_deleteNote 153 = .ok (.iconst 1, 1) := by decide +kernel
theorem dX12_deleteNote_154 : decode cX12_deleteNote 154 = .ok (.isub, 1) := by decide +kernel
theorem dX12_deleteNote_155 : decode cX12_deleteNote 155 = .ok (.invokevirtual 75, 3) := by decide +kernel
theorem dX12_deleteNote_158 : decode cX12_deleteNote 158 = .ok (.aload_n 0, 1) := by decide +kernel
theorem dX12_deleteNote_159 : decode cX12_deleteNote 159 = .ok (.iload_n 3, 1) := by decide +kernel
theorem dX12_deleteNote_160 : decode cX12_deleteNote 160 = .ok (.iconst 4, 1) := by decide +kernel
theorem dX12_deleteNote_161 : decode cX12_deleteNote 161 = .ok (.invokevirtual 59, 3) := by decide +kernel
theorem dX12_deleteNote_164 : decode cX12_deleteNote 164 = .ok (.ireturn, 1) := by decide +kernel
theorem dX12_setSunset_0 : decode cX12_setSunset 0 = .ok (.aload_n 0, 1) := by decide +kernel
theorem dX12_setSunset_1 : decode cX12_setSunset 1 = .ok (.iload_n 1, 1) := by decide +kernel
theorem dX12_setSunset_2 : decode cX12_setSunset 2 = .ok (.invokevirtual 63, 3) := by decide +kernel
theorem dX12_setSunset_5 : decode cX12_setSunset 5 = .ok (.istore_n 3, 1) := by decide +kernel
theorem dX12_setSunset_6 : decode cX12_setSunset 6 = .ok (.aload_n 0, 1) := by decide +kernel
theorem dX12_setSunset_7 : decode cX12_setSunset 7 = .ok (.iload_n 3, 1) := by decide +kernel
theorem dX12_setSunset_8 : decode cX12_setSunset 8 = .ok (.ifCond .ge 7, 3) := by decide +kernel
theorem dX12_setSunset_11 : decode cX12_setSunset 11 = .ok (.iconst 1, 1) := by decide +kernel
theorem dX12_setSunset_12 : decode cX12_setSunset 12 = .ok (.goto 44, 3) := by decide +kernel
theorem dX12_setSunset_15 : decode cX12_setSunset 15 = .ok (.iload_n 2, 1) := by decide +kernel
theorem dX12_setSunset_16 : decode cX12_setSunset 16 = .ok (.aload_n 0, 1) := by decide +kernel
theorem dX12_setSunset_17 : decode cX12_setSunset 17 = .ok (.getfield 7, 3) := by decide +kernel
theorem dX12_setSunset_20 : decode cX12_setSunset 20 = .ok (.iconst 2, 1) := by decide +kernel
theorem dX12_setSunset_21 : decode cX12_setSunset 21 = .ok (.iaload, 1) := by decide +kernel
theorem dX12_setSunset_22 : decode cX12_setSunset 22 = .ok (.if_icmp .lt 17, 3) := by decide +kernel
theorem dX12_setSunset_25 : decode cX12_setSunset 25 = .ok (.iload_n 2, 1) := by decide +kernel
theorem dX12_setSunset_26 : decode cX12_setSunset 26 = .ok (.aload_n 0, 1) := by decide +kernel
theorem dX12_setSunset_27 : decode cX12_setSunset 27 = .ok (.getfield 7, 3) := by decide +kernel
theorem dX12_setSunset_30 : decode cX12_setSunset 30 = .ok (.iconst 2, 1) := by decide +kernel
theorem dX12_setSunset_31 : decode cX12_setSunset 31 = .ok (.iaload, 1) := by decide +kernel
theorem dX12_setSunset_32 : decode cX12_setSunset 32 = .ok (.isub, 1) := by decide +kernel
theorem dX12_setSunset_33 : decode cX12_setSunset 33 = .ok (.sipush 9999, 3) := by decide +kernel
theorem dX12_setSunset_36 : decode cX12_setSunset 36 = .ok (.if_icmp .le 7, 3) := by decide +kernel
theorem dX12_setSunset_39 : decode cX12_setSunset 39 = .ok (.iconst 2, 1) := by decide +kernel
theorem dX12_setSunset_40 : decode cX12_setSunset 40 = .ok (.goto 16, 3) := by decide +kernel
theorem dX12_setSunset_43 : decode cX12_setSunset 43 = .ok (.aload_n 0, 1) := by decide +kernel
theorem dX12_setSunset_44 : decode cX12_setSunset 44 = .ok (.iload_n 3, 1) := by decide +kernel
theorem dX12_setSunset_45 : decode cX12_setSunset 45 = .ok (.invokevirtual 113, 3) := by decide +kernel
theorem dX12_setSunset_48 : decode cX12_setSunset 48 = .ok (.ifCond .eq 7, 3) := by decide +kernel
theorem dX12_setSunset_51 : decode cX12_setSunset 51 = .ok (.iconst 3, 1) := by decide +kernel
theorem dX12_setSunset_52 : decode cX12_setSunset 52 = .ok (.goto 4, 3) := by decide +kernel
theorem dX12_setSunset_55 : decode cX12_setSunset 55 = .ok (.iconst 0, 1) := by decide +kernel
theorem dX12_setSunset_56 : decode cX12_setSunset 56 = .ok (.invokevirtual 67, 3) := by decide +kernel
theorem dX12_setSunset_59 : decode cX12_setSunset 59 = .ok (.ifCond .eq 5, 3) := by decide +kernel
theorem dX12_setSunset_62 : decode cX12_setSunset 62 = .ok (.iconst 0, 1) := by decide +kernel
theorem dX12_setSunset_63 : decode cX12_setSunset 63 = .ok (.ireturn, 1) := by decide +kernel
theorem dX12_setSunset_64 : decode cX12_setSunset 64 = .ok (.aload_n 0, 1) := by decide +kernel
theorem dX12_setSunset_65 : decode cX12_setSunset 65 = .ok (.aload_n 0, 1) := by decide +kernel
theorem dX12_setSunset_66 : decode cX12_setSunset 66 = .ok (.getfield 7, 3) := by decide +kernel
theorem dX12_setSunset_69 : decode cX12_setSunset 69 = .ok (.invokevirtual 85, 3) := by decide +kernel
theorem dX12_setSunset_72 : decode cX12_setSunset 72 = .ok (.aload_n 0, 1) := by decide +kernel
theorem dX12_setSunset_73 : decode cX12_setSunset 73 = .ok (.iload_n 3, 1) := by decide +kernel
theorem dX12_setSunset_74 : decode cX12_setSunset 74 = .ok (.iconst 3, 1) := by decide +kernel
theorem dX12_setSunset_75 : decode cX12_setSunset 75 = .ok (.iload_n 2, 1) := by decide +kernel
theorem dX12_setSunset_76 : decode cX12_setSunset 76 = .ok (.invokevirtual 75, 3) := by decide +kernel
theorem dX12_setSunset_79 : decode cX12_setSunset 79 = .ok (.iload_n 2, 1) := by decide +kernel
theorem dX12_setSunset_80 : decode cX12_setSunset 80 = .ok (.aload_n 0, 1) := by decide +kernel
theorem dX12_setSunset_81 : decode cX12_setSunset 81 = .ok (.getfield 7, 3) := by decide +kernel
theorem dX12_setSunset_84 : decode cX12_setSunset 84 = .ok (.iconst 2, 1) := by decide +kernel
theorem dX12_setSunset_85 : decode cX12_setSunset 85 = .ok (.iaload, 1) := by decide +kernel
theorem dX12_setSunset_86 : decode cX12_setSunset 86 = .ok (.isub, 1) := by decide +kernel
theorem dX12_setSunset_87 : decode cX12_setSunset 87 = .ok (.ireturn, 1) := by decide +kernel
theorem dX12_cited_0 : decode cX12_cited 0 = .ok (.iconst 0, 1) := by decide +kernel
theorem dX12_cited_1 : decode cX12_cited 1 = .ok (.istore_n 3, 1) := by decide +kernel
theorem dX12_cited_2 : decode cX12_cited 2 = .ok (.iload_n 3, 1) := by decide +kernel
theorem dX12_cited_3 : decode cX12_cited 3 = .ok (.aload_n 0, 1) := by decide +kernel
theorem dX12_cited_4 : decode cX12_cited 4 = .ok (.iload_n 1, 1) := by decide +kernel
theorem dX12_cited_5 : decode cX12_cited 5 = .ok (.bipush 37, 2) := by decide +kernel
theorem dX12_cited_7 : decode cX12_cited 7 = .ok (.invokevirtual 59, 3) := by decide +kernel
theorem dX12_cited_10 : decode cX12_cited 10 = .ok (.if_icmp .ge 24, 3) := by decide +kernel
theorem dX12_cited_13 : decode cX12_cited 13 = .ok (.aload_n 0, 1) := by decide +kernel
theorem dX12_cited_14 : decode cX12_cited 14 = .ok (.iload_n 1, 1) := by decide +kernel
theorem dX12_cited_15 : decode cX12_cited 15 = .ok (.bipush 38, 2) := by decide +kernel
theorem dX12_cited_17 : decode cX12_cited 17 = .ok (.iload_n 3, 1) := by decide +kernel
theorem dX12_cited_18 : decode cX12_cited 18 = .ok (.iadd, 1) := by decide +kernel
theorem dX12_cited_19 : decode cX12_cited 19 = .ok (.invokevirtual 59, 3) := by decide +kernel
theorem dX12_cited_22 : decode cX12_cited 22 = .ok (.iload_n 2, 1) := by decide +kernel
theorem dX12_cited_23 : decode cX12_cited 23 = .ok (.if_icmp .ne 5, 3) := by decide +kernel
theorem dX12_cited_26 : decode cX12_cited 26 = .ok (.iload_n 3, 1) := by decide +kernel
theorem dX12_cited_27 : decode cX12_cited 27 = .ok (.ireturn, 1) := by decide +kernel
theorem dX12_cited_28 : decode cX12_cited 28 = .ok (.iinc 3 1, 3) := by decide +kernel
theorem dX12_cited_31 : decode cX12_cited 31 = .ok (.goto (-29), 3) := by decide +kernel
theorem dX12_cited_34 : decode cX12_cited 34 = .ok (.iconst (-1), 1) := by decide +kernel
theorem dX12_cited_35 : decode cX12_cited 35 = .ok (.ireturn, 1) := by decide +kernel
theorem dX12_cite_0 : decode cX12_cite 0 = .ok (.aload_n 0, 1) := by decide +kernel
theorem dX12_cite_1 : decode cX12_cite 1 = .ok (.iload_n 1, 1) := by decide +kernel
theorem dX12_cite_2 : decode cX12_cite 2 = .ok (.invokevirtual 63, 3) := by decide +kernel
theorem dX12_cite_5 : decode cX12_cite 5 = .ok (.istore_n 3, 1) := by decide +kernel
theorem dX12_cite_6 : decode cX12_cite 6 = .ok (.aload_n 0, 1) := by decide +kernel
theorem dX12_cite_7 : decode cX12_cite 7 = .ok (.iload_n 3, 1) := by decide +kernel
theorem dX12_cite_8 : decode cX12_cite 8 = .ok (.ifCond .lt 11, 3) := by decide +kernel
theorem dX12_cite_11 : decode cX12_cite 11 = .ok (.aload_n 0, 1) := by decide +kernel
theorem dX12_cite_12 : decode cX12_cite 12 = .ok (.iload_n 2, 1) := by decide +kernel
theorem dX12_cite_13 : decode cX12_cite 13 = .ok (.invokevirtual 63, 3) := by decide +kernel
theorem dX12_cite_16 : decode cX12_cite 16 = .ok (.ifCond .ge 7, 3) := by decide +kernel
theorem dX12_cite_19 : decode cX12_cite 19 = .ok (.iconst 1, 1) := by decide +kernel
theorem dX12_cite_20 : decode cX12_cite 20 = .ok (.goto 37, 3) := by decide +kernel
theorem dX12_cite_23 : decode cX12_cite 23 = .ok (.iload_n 1, 1) := by decide +kernel
theorem dX12_cite_24 : decode cX12_cite 24 = .ok (.iload_n 2, 1) := by decide +kernel
theorem dX12_cite_25 : decode cX12_cite 25 = .ok (.if_icmp .ne 7, 3) := by decide +kernel
theorem dX12_cite_28 : decode cX12_cite 28 = .ok (.iconst 2, 1) := by decide +kernel
theorem dX12_cite_29 : decode cX12_cite 29 = .ok (.goto 28, 3) := by decide +kernel
theorem dX12_cite_32 : decode cX12_cite 32 = .ok (.aload_n 0, 1) := by decide +kernel
theorem dX12_cite_33 : decode cX12_cite 33 = .ok (.iload_n 3, 1) := by decide +kernel
theorem dX12_cite_34 : decode cX12_cite 34 = .ok (.iload_n 2, 1) := by decide +kernel
theorem dX12_cite_35 : decode cX12_cite 35 = .ok (.invokevirtual 116, 3) := by decide +kernel
theorem dX12_cite_38 : decode cX12_cite 38 = .ok (.ifCond .ge 14, 3) := by decide +kernel
theorem dX12_cite_41 : decode cX12_cite 41 = .ok (.aload_n 0, 1) := by decide +kernel
theorem dX12_cite_42 : decode cX12_cite 42 = .ok (.iload_n 3, 1) := by decide +kernel
theorem dX12_cite_43 : decode cX12_cite 43 = .ok (.bipush 37, 2) := by decide +kernel
theorem dX12_cite_45 : decode cX12_cite 45 = .ok (.invokevirtual 59, 3) := by decide +kernel
theorem dX12_cite_48 : decode cX12_cite 48 = .ok (.iconst 4, 1) := by decide +kernel
theorem dX12_cite_49 : decode cX12_cite 49 = .ok (.if_icmp .ne 7, 3) := by decide +kernel
theorem dX12_cite_52 : decode cX12_cite 52 = .ok (.iconst 3, 1) := by decide +kernel
theorem dX12_cite_53 : decode cX12_cite 53 = .ok (.goto 4, 3) := by decide +kernel
theorem dX12_cite_56 : decode cX12_cite 56 = .ok (.iconst 0, 1) := by decide +kernel
theorem dX12_cite_57 : decode cX12_cite 57 = .ok (.invokevirtual 67, 3) := by decide +kernel
theorem dX12_cite_60 : decode cX12_cite 60 = .ok (.ifCond .eq 5, 3) := by decide +kernel
theorem dX12_cite_63 : decode cX12_cite 63 = .ok (.iconst 0, 1) := by decide +kernel
theorem dX12_cite_64 : decode cX12_cite 64 = .ok (.ireturn, 1) := by decide +kernel
theorem dX12_cite_65 : decode cX12_cite 65 = .ok (.aload_n 0, 1) := by decide +kernel
theorem dX12_cite_66 : decode cX12_cite 66 = .ok (.aload_n 0, 1) := by decide +kernel
theorem dX12_cite_67 : decode cX12_cite 67 = .ok (.getfield 7, 3) := by decide +kernel
theorem dX12_cite_70 : decode cX12_cite 70 = .ok (.invokevirtual 85, 3) := by decide +kernel
theorem dX12_cite_73 : decode cX12_cite 73 = .ok (.aload_n 0, 1) := by decide +kernel
theorem dX12_cite_74 : decode cX12_cite 74 = .ok (.iload_n 3, 1) := by decide +kernel
theorem dX12_cite_75 : decode cX12_cite 75 = .ok (.bipush 37, 2) := by decide +kernel
theorem dX12_cite_77 : decode cX12_cite 77 = .ok (.invokevirtual 59, 3) := by decide +kernel
theorem dX12_cite_80 : decode cX12_cite 80 = .ok (.istore 4, 2) := by decide +kernel
theorem dX12_cite_82 : decode cX12_cite 82 = .ok (.aload_n 0, 1) := by decide +kernel
theorem dX12_cite_83 : decode cX12_cite 83 = .ok (.iload_n 3, 1) := by decide +kernel
theorem dX12_cite_84 : decode cX12_cite 84 = .ok (.bipush 38, 2) := by decide +kernel
theorem dX12_cite_86 : decode cX12_cite 86 = .ok (.iload 4, 2) := by decide +kernel
theorem dX12_cite_88 : decode cX12_cite 88 = .ok (.iadd, 1) := by decide +kernel
theorem dX12_cite_89 : decode cX12_cite 89 = .ok (.iload_n 2, 1) := by decide +kernel
theorem dX12_cite_90 : decode cX12_cite 90 = .ok (.invokevirtual 75, 3) := by decide +kernel
theorem dX12_cite_93 : decode cX12_cite 93 = .ok (.aload_n 0, 1) := by decide +kernel
theorem dX12_cite_94 : decode cX12_cite 94 = .ok (.iload_n 3, 1) := by decide +kernel
theorem dX12_cite_95 : decode cX12_cite 95 = .ok (.bipush 37, 2) := by decide +kernel
theorem dX12_cite_97 : decode cX12_cite 97 = .ok (.iload 4, 2) := by decide +kernel
theorem dX12_cite_99 : decode cX12_cite 99 = .ok (.iconst 1, 1) := by decide +kernel
theorem dX12_cite_100 : decode cX12_cite 100 = .ok (.iadd, 1) := by decide +kernel
theorem dX12_cite_101 : decode cX12_cite 101 = .ok (.invokevirtual 75, 3) := by decide +kernel
theorem dX12_cite_104 : decode cX12_cite 104 = .ok (.iload 4, 2) := by decide +kernel
theorem dX12_cite_106 : decode cX12_cite 106 = .ok (.iconst 1, 1) := by decide +kernel
theorem dX12_cite_107 : decode cX12_cite 107 = .ok (.iadd, 1) := by decide +kernel
theorem dX12_cite_108 : decode cX12_cite 108 = .ok (.ireturn, 1) := by decide +kernel
theorem dX12_dropsCite_0 : decode cX12_dropsCite 0 = .ok (.aload_n 0, 1) := by decide +kernel
theorem dX12_dropsCite_1 : decode cX12_dropsCite 1 = .ok (.iload_n 1, 1) := by decide +kernel
theorem dX12_dropsCite_2 : decode cX12_dropsCite 2 = .ok (.bipush 37, 2) := by decide +kernel
theorem dX12_dropsCite_4 : decode cX12_dropsCite 4 = .ok (.invokevirtual 59, 3) := by decide +kernel
theorem dX12_dropsCite_7 : decode cX12_dropsCite 7 = .ok (.istore_n 3, 1) := by decide +kernel
theorem dX12_dropsCite_8 : decode cX12_dropsCite 8 = .ok (.iload_n 2, 1) := by decide +kernel
theorem dX12_dropsCite_9 : decode cX12_dropsCite 9 = .ok (.istore 4, 2) := by decide +kernel
theorem dX12_dropsCite_11 : decode cX12_dropsCite 11 = .ok (.iload 4, 2) := by decide +kernel
theorem dX12_dropsCite_13 : decode cX12_dropsCite 13 = .ok (.iconst 1, 1) := by decide +kernel
theorem dX12_dropsCite_14 : decode cX12_dropsCite 14 = .ok (.iadd, 1) := by decide +kernel
theorem dX12_dropsCite_15 : decode cX12_dropsCite 15 = .ok (.iload_n 3, 1) := by decide +kernel
theorem dX12_dropsCite_16 : decode cX12_dropsCite 16 = .ok (.if_icmp .ge 29, 3) := by decide +kernel
theorem dX12_dropsCite_19 : decode cX12_dropsCite 19 = .ok (.aload_n 0, 1) := by decide +kernel
theorem dX12_dropsCite_20 : decode cX12_dropsCite 20 = .ok (.iload_n 1, 1) := by decide +kernel
theorem dX12_dropsCite_21 : decode cX12_dropsCite 21 = .ok (.bipush 38, 2) := by decide +kernel
theorem dX12_dropsCite_23 : decode cX12_dropsCite 23 = .ok (.iload 4, 2) := by decide +kernel
theorem dX12_dropsCite_25 : decode cX12_dropsCite 25 = .ok (.iadd, 1) := by decide +kernel
theorem dX12_dropsCite_26 : decode cX12_dropsCite 26 = .ok (.aload_n 0, 1) := by decide +kernel
theorem dX12_dropsCite_27 : decode cX12_dropsCite 27 = .ok (.iload_n 1, 1) := by decide +kernel
theorem dX12_dropsCite_28 : decode cX12_dropsCite 28 = .ok (.bipush 39, 2) := by decide +kernel
theorem dX12_dropsCite_30 : decode cX12_dropsCite 30 = .ok (.iload 4, 2) := by decide +kernel
theorem dX12_dropsCite_32 : decode cX12_dropsCite 32 = .ok (.iadd, 1) := by decide +kernel
theorem dX12_dropsCite_33 : decode cX12_dropsCite 33 = .ok (.invokevirtual 59, 3) := by decide +kernel
theorem dX12_dropsCite_36 : decode cX12_dropsCite 36 = .ok (.invokevirtual 75, 3) := by decide +kernel
theorem dX12_dropsCite_39 : decode cX12_dropsCite 39 = .ok (.iinc 4 1, 3) := by decide +kernel
theorem dX12_dropsCite_42 : decode cX12_dropsCite 42 = .ok (.goto (-31), 3) := by decide +kernel
theorem dX12_dropsCite_45 : decode cX12_dropsCite 45 = .ok (.aload_n 0, 1) := by decide +kernel
theorem dX12_dropsCite_46 : decode cX12_dropsCite 46 = .ok (.iload_n 1, 1) := by decide +kernel
theorem dX12_dropsCite_47 : decode cX12_dropsCite 47 = .ok (.bipush 37, 2) := by decide +kernel
theorem dX12_dropsCite_49 : decode cX12_dropsCite 49 = .ok (.iload_n 3, 1) := by decide +kernel
theorem dX12_dropsCite_50 : decode cX12_dropsCite 50 = .ok (.iconst 1, 1) := by decide +kernel
theorem dX12_dropsCite_51 : decode cX12_dropsCite 51 = .ok (.isub, 1) := by decide +kernel
theorem dX12_dropsCite_52 : decode cX12_dropsCite 52 = .ok (.invokevirtual 75, 3) := by decide +kernel
theorem dX12_dropsCite_55 : decode cX12_dropsCite 55 = .ok (.return_, 1) := by decide +kernel
theorem dX12_uncite_0 : decode cX12_uncite 0 = .ok (.aload_n 0, 1) := by decide +kernel
theorem dX12_uncite_1 : decode cX12_uncite 1 = .ok (.iload_n 1, 1) := by decide +kernel
theorem dX12_uncite_2 : decode cX12_uncite 2 = .ok (.invokevirtual 63, 3) := by decide +kernel
theorem dX12_uncite_5 : decode cX12_uncite 5 = .ok (.istore_n 3, 1) := by decide +kernel
theorem dX12_uncite_6 : decode cX12_uncite 6 = .ok (.aload_n 0, 1) := by decide +kernel
theorem dX12_uncite_7 : decode cX12_uncite 7 = .ok (.iload_n 3, 1) := by decide +kernel
theorem dX12_uncite_8 : decode cX12_uncite 8 = .ok (.ifCond .lt 12, 3) := by decide +kernel
theorem dX12_uncite_11 : decode cX12_uncite 11 = .ok (.aload_n 0, 1) := by decide +kernel
theorem dX12_uncite_12 : decode cX12_uncite 12 = .ok (.iload_n 3, 1) := by decide +kernel
theorem dX12_uncite_13 : decode cX12_uncite 13 = .ok (.iload_n 2, 1) := by decide +kernel
theorem dX12_uncite_14 : decode cX12_uncite 14 = .ok (.invokevirtual 116, 3) := by decide +kernel
theorem dX12_uncite_17 : decode cX12_uncite 17 = .ok (.ifCond .ge 7, 3) := by decide +kernel
theorem dX12_uncite_20 : decode cX12_uncite 20 = .ok (.iconst 1, 1) := by decide +kernel
theorem dX12_uncite_21 : decode cX12_uncite 21 = .ok (.goto 4, 3) := by decide +kernel
theorem dX12_uncite_24 : decode cX12_uncite 24 = .ok (.iconst 0, 1) := by decide +kernel
theorem dX12_uncite_25 : decode cX12_uncite 25 = .ok (.invokevirtual 67, 3) := by decide +kernel
theorem dX12_uncite_28 : decode cX12_uncite 28 = .ok (.ifCond .eq 5, 3) := by decide +kernel
theorem dX12_uncite_31 : decode cX12_uncite 31 = .ok (.iconst 0, 1) := by decide +kernel
theorem dX12_uncite_32 : decode cX12_uncite 32 = .ok (.ireturn, 1) := by decide +kernel
theorem dX12_uncite_33 : decode cX12_uncite 33 = .ok (.aload_n 0, 1) := by decide +kernel
theorem dX12_uncite_34 : decode cX12_uncite 34 = .ok (.aload_n 0, 1) := by decide +kernel
theorem dX12_uncite_35 : decode cX12_uncite 35 = .ok (.getfield 7, 3) := by decide +kernel
theorem dX12_uncite_38 : decode cX12_uncite 38 = .ok (.invokevirtual 85, 3) := by decide +kernel
theorem dX12_uncite_41 : decode cX12_uncite 41 = .ok (.aload_n 0, 1) := by decide +kernel
theorem dX12_uncite_42 : decode cX12_uncite 42 = .ok (.iload_n 3, 1) := by decide +kernel
theorem dX12_uncite_43 : decode cX12_uncite 43 = .ok (.aload_n 0, 1) := by decide +kernel
theorem dX12_uncite_44 : decode cX12_uncite 44 = .ok (.iload_n 3, 1) := by decide +kernel
theorem dX12_uncite_45 : decode cX12_uncite 45 = .ok (.iload_n 2, 1) := by decide +kernel
theorem dX12_uncite_46 : decode cX12_uncite 46 = .ok (.invokevirtual 116, 3) := by decide +kernel
theorem dX12_uncite_49 : decode cX12_uncite 49 = .ok (.invokevirtual 119, 3) := by decide +kernel
theorem dX12_uncite_52 : decode cX12_uncite 52 = .ok (.aload_n 0, 1) := by decide +kernel
theorem dX12_uncite_53 : decode cX12_uncite 53 = .ok (.iload_n 3, 1) := by decide +kernel
theorem dX12_uncite_54 : decode cX12_uncite 54 = .ok (.bipush 37, 2) := by decide +kernel
theorem dX12_uncite_56 : decode cX12_uncite 56 = .ok (.invokevirtual 59, 3) := by decide +kernel
theorem dX12_uncite_59 : decode cX12_uncite 59 = .ok (.ireturn, 1) := by decide +kernel
theorem dX12_drops_0 : decode cX12_drops 0 = .ok (.aload_n 0, 1) := by decide +kernel
theorem dX12_drops_1 : decode cX12_drops 1 = .ok (.getfield 7, 3) := by decide +kernel
theorem dX12_drops_4 : decode cX12_drops 4 = .ok (.iconst 0, 1) := by decide +kernel
theorem dX12_drops_5 : decode cX12_drops 5 = .ok (.dup2, 1) := by decide +kernel
theorem dX12_drops_6 : decode cX12_drops 6 = .ok (.iaload, 1) := by decide +kernel
theorem dX12_drops_7 : decode cX12_drops 7 = .ok (.iconst 1, 1) := by decide +kernel
theorem dX12_drops_8 : decode cX12_drops 8 = .ok (.isub, 1) := by decide +kernel
theorem dX12_drops_9 : decode cX12_drops 9 = .ok (.iastore, 1) := by decide +kernel
theorem dX12_drops_10 : decode cX12_drops 10 = .ok (.bipush 13, 2) := by decide +kernel
theorem dX12_drops_12 : decode cX12_drops 12 = .ok (.bipush 42, 2) := by decide +kernel
theorem dX12_drops_14 : decode cX12_drops 14 = .ok (.iload_n 1, 1) := by decide +kernel
theorem dX12_drops_15 : decode cX12_drops 15 = .ok (.imul, 1) := by decide +kernel
theorem dX12_drops_16 : decode cX12_drops 16 = .ok (.iadd, 1) := by decide +kernel
theorem dX12_drops_17 : decode cX12_drops 17 = .ok (.istore_n 2, 1) := by decide +kernel
theorem dX12_drops_18 : decode cX12_drops 18 = .ok (.iload_n 2, 1) := by decide +kernel
theorem dX12_drops_19 : decode cX12_drops 19 = .ok (.bipush 13, 2) := by decide +kernel
theorem dX12_drops_21 : decode cX12_drops 21 = .ok (.bipush 42, 2) := by decide +kernel
theorem dX12_drops_23 : decode cX12_drops 23 = .ok (.aload_n 0, 1) := by decide +kernel
theorem dX12_drops_24 : decode cX12_drops 24 = .ok (.getfield 7, 3) := by decide +kernel
theorem dX12_drops_27 : decode cX12_drops 27 = .ok (.iconst 0, 1) := by decide +kernel
theorem dX12_drops_28 : decode cX12_drops 28 = .ok (.iaload, 1) := by decide +kernel
theorem dX12_drops_29 : decode cX12_drops 29 = .ok (.imul, 1) := by decide +kernel
theorem dX12_drops_30 : decode cX12_drops 30 = .ok (.iadd, 1) := by decide +kernel
theorem dX12_drops_31 : decode cX12_drops 31 = .ok (.if_icmp .ge 24, 3) := by decide +kernel
theorem dX12_drops_34 : decode cX12_drops 34 = .ok (.aload_n 0, 1) := by decide +kernel
theorem dX12_drops_35 : decode cX12_drops 35 = .ok (.getfield 7, 3) := by decide +kernel
theorem dX12_drops_38 : decode cX12_drops 38 = .ok (.iload_n 2, 1) := by decide +kernel
theorem dX12_drops_39 : decode cX12_drops 39 = .ok (.aload_n 0, 1) := by decide +kernel
theorem dX12_drops_40 : decode cX12_drops 40 = .ok (.getfield 7, 3) := by decide +kernel
theorem dX12_drops_43 : decode cX12_drops 43 = .ok (.iload_n 2, 1) := by decide +kernel
theorem dX12_drops_44 : decode cX12_drops 44 = .ok (.bipush 42, 2) := by decide +kernel
theorem dX12_drops_46 : decode cX12_drops 46 = .ok (.iadd, 1) := by decide +kernel
theorem dX12_drops_47 : decode cX12_drops 47 = .ok (.iaload, 1) := by decide +kernel
theorem dX12_drops_48 : decode cX12_drops 48 = .ok (.iastore, 1) := by decide +kernel
theorem dX12_drops_49 : decode cX12_drops 49 = .ok (.iinc 2 1, 3) := by decide +kernel
theorem dX12_drops_52 : decode cX12_drops 52 = .ok (.goto (-34), 3) := by decide +kernel
theorem dX12_drops_55 : decode cX12_drops 55 = .ok (.return_, 1) := by decide +kernel
theorem dX12_repeal_0 : decode cX12_repeal 0 = .ok (.aload_n 0, 1) := by decide +kernel
theorem dX12_repeal_1 : decode cX12_repeal 1 = .ok (.iload_n 1, 1) := by decide +kernel
theorem dX12_repeal_2 : decode cX12_repeal 2 = .ok (.invokevirtual 63, 3) := by decide +kernel
theorem dX12_repeal_5 : decode cX12_repeal 5 = .ok (.istore_n 2, 1) := by decide +kernel
theorem dX12_repeal_6 : decode cX12_repeal 6 = .ok (.aload_n 0, 1) := by decide +kernel
theorem dX12_repeal_7 : decode cX12_repeal 7 = .ok (.iload_n 2, 1) := by decide +kernel
theorem dX12_repeal_8 : decode cX12_repeal 8 = .ok (.ifCond .ge 7, 3) := by decide +kernel
theorem dX12_repeal_11 : decode cX12_repeal 11 = .ok (.iconst 1, 1) := by decide +kernel
theorem dX12_repeal_12 : decode cX12_repeal 12 = .ok (.goto 4, 3) := by decide +kernel
theorem dX12_repeal_15 : decode cX12_repeal 15 = .ok (.iconst 0, 1) := by decide +kernel
theorem dX12_repeal_16 : decode cX12_repeal 16 = .ok (.invokevirtual 67, 3) := by decide +kernel
theorem dX12_repeal_19 : decode cX12_repeal 19 = .ok (.ifCond .eq 5, 3) := by decide +kernel
theorem dX12_repeal_22 : decode cX12_repeal 22 = .ok (.iconst 0, 1) := by decide +kernel
theorem dX12_repeal_23 : decode cX12_repeal 23 = .ok (.ireturn, 1) := by decide +kernel
theorem dX12_repeal_24 : decode cX12_repeal 24 = .ok (.aload_n 0, 1) := by decide +kernel
theorem dX12_repeal_25 : decode cX12_repeal 25 = .ok (.aload_n 0, 1) := by decide +kernel
theorem dX12_repeal_26 : decode cX12_repeal 26 = .ok (.getfield 7, 3) := by decide +kernel
theorem dX12_repeal_29 : decode cX12_repeal 29 = .ok (.invokevirtual 85, 3) := by decide +kernel
theorem dX12_repeal_32 : decode cX12_repeal 32 = .ok (.aload_n 0, 1) := by decide +kernel
theorem dX12_repeal_33 : decode cX12_repeal 33 = .ok (.iload_n 2, 1) := by decide +kernel
theorem dX12_repeal_34 : decode cX12_repeal 34 = .ok (.invokevirtual 123, 3) := by decide +kernel
theorem dX12_repeal_37 : decode cX12_repeal 37 = .ok (.aload_n 0, 1) := by decide +kernel
theorem dX12_repeal_38 : decode cX12_repeal 38 = .ok (.getfield 7, 3) := by decide +kernel
theorem dX12_repeal_41 : decode cX12_repeal 41 = .ok (.iconst 4, 1) := by decide +kernel
theorem dX12_repeal_42 : decode cX12_repeal 42 = .ok (.dup2, 1) := by decide +kernel
theorem dX12_repeal_43 : decode cX12_repeal 43 = .ok (.iaload, 1) := by decide +kernel
theorem dX12_repeal_44 : decode cX12_repeal 44 = .ok (.iconst 1, 1) := by decide +kernel
theorem dX12_repeal_45 : decode cX12_repeal 45 = .ok (.iadd, 1) := by decide +kernel
theorem dX12_repeal_46 : decode cX12_repeal 46 = .ok (.iastore, 1) := by decide +kernel
theorem dX12_repeal_47 : decode cX12_repeal 47 = .ok (.aload_n 0, 1) := by decide +kernel
theorem dX12_repeal_48 : decode cX12_repeal 48 = .ok (.getfield 7, 3) := by decide +kernel
theorem dX12_repeal_51 : decode cX12_repeal 51 = .ok (.iconst 0, 1) := by decide +kernel
theorem dX12_repeal_52 : decode cX12_repeal 52 = .ok (.iaload, 1) := by decide +kernel
theorem dX12_repeal_53 : decode cX12_repeal 53 = .ok (.ireturn, 1) := by decide +kernel
theorem dX12_sectionsBefore_0 : decode cX12_sectionsBefore 0 = .ok (.iconst 0, 1) := by decide +kernel
theorem dX12_sectionsBefore_1 : decode cX12_sectionsBefore 1 = .ok (.istore_n 2, 1) := by decide +kernel
theorem dX12_sectionsBefore_2 : decode cX12_sectionsBefore 2 = .ok (.iconst 0, 1) := by decide +kernel
theorem dX12_sectionsBefore_3 : decode cX12_sectionsBefore 3 = .ok (.istore_n 3, 1) := by decide +kernel
theorem dX12_sectionsBefore_4 : decode cX12_sectionsBefore 4 = .ok (.iload_n 3, 1) := by decide +kernel
theorem dX12_sectionsBefore_5 : decode cX12_sectionsBefore 5 = .ok (.aload_n 0, 1) := by decide +kernel
theorem dX12_sectionsBefore_6 : decode cX12_sectionsBefore 6 = .ok (.getfield 7, 3) := by decide +kernel
theorem dX12_sectionsBefore_9 : decode cX12_sectionsBefore 9 = .ok (.iconst 0, 1) := by decide +kernel
theorem dX12_sectionsBefore_10 : decode cX12_sectionsBefore 10 = .ok (.iaload, 1) := by decide +kernel
theorem dX12_sectionsBefore_11 : decode cX12_sectionsBefore 11 = .ok (.if_icmp .ge 32, 3) := by decide +kernel
theorem dX12_sectionsBefore_14 : decode cX12_sectionsBefore 14 = .ok (.iload_n 2, 1) := by decide +kernel
theorem dX12_sectionsBefore_15 : decode cX12_sectionsBefore 15 = .ok (.aload_n 0, 1) := by decide +kernel
theorem dX12_sectionsBefore_16 : decode cX12_sectionsBefore 16 = .ok (.iload_n 3, 1) := by decide +kernel
theorem dX12_sectionsBefore_17 : decode cX12_sectionsBefore 17 = .ok (.iconst 1, 1) := by decide +kernel
theorem dX12_sectionsBefore_18 : decode cX12_sectionsBefore 18 = .ok (.invokevirtual 59, 3) := by decide +kernel
theorem dX12_sectionsBefore_21 : decode cX12_sectionsBefore 21 = .ok (.aload_n 0, 1) := by decide +kernel
theorem dX12_sectionsBefore_22 : decode cX12_sectionsBefore 22 = .ok (.iload_n 1, 1) := by decide +kernel
theorem dX12_sectionsBefore_23 : decode cX12_sectionsBefore 23 = .ok (.iconst 1, 1) := by decide +kernel
theorem dX12_sectionsBefore_24 : decode cX12_sectionsBefore 24 = .ok (.invokevirtual 59, 3) := by decide +kernel
theorem dX12_sectionsBefore_27 : decode cX12_sectionsBefore 27 = .ok (.if_icmp .ge 7, 3) := by decide +kernel
theorem dX12_sectionsBefore_30 : decode cX12_sectionsBefore 30 = .ok (.iconst 1, 1) := by decide +kernel
theorem dX12_sectionsBefore_31 : decode cX12_sectionsBefore 31 = .ok (.goto 4, 3) := by decide +kernel
theorem dX12_sectionsBefore_34 : decode cX12_sectionsBefore 34 = .ok (.iconst 0, 1) := by decide +kernel
theorem dX12_sectionsBefore_35 : decode cX12_sectionsBefore 35 = .ok (.iadd, 1) := by decide +kernel
theorem dX12_sectionsBefore_36 : decode cX12_sectionsBefore 36 = .ok (.istore_n 2, 1) := by decide +kernel
theorem dX12_sectionsBefore_37 : decode cX12_sectionsBefore 37 = .ok (.iinc 3 1, 3) := by decide +kernel
theorem dX12_sectionsBefore_40 : decode cX12_sectionsBefore 40 = .ok (.goto (-36), 3) := by decide +kernel
theorem dX12_sectionsBefore_43 : decode cX12_sectionsBefore 43 = .ok (.iload_n 2, 1) := by decide +kernel
theorem dX12_sectionsBefore_44 : decode cX12_sectionsBefore 44 = .ok (.ireturn, 1) := by decide +kernel
theorem dX12_consolidate_0 : decode cX12_consolidate 0 = .ok (.aload_n 0, 1) := by decide +kernel
theorem dX12_consolidate_1 : decode cX12_consolidate 1 = .ok (.aload_n 0, 1) := by decide +kernel
theorem dX12_consolidate_2 : decode cX12_consolidate 2 = .ok (.getfield 7, 3) := by decide +kernel
theorem dX12_consolidate_5 : decode cX12_consolidate 5 = .ok (.invokevirtual 85, 3) := by decide +kernel
theorem dX12_consolidate_8 : decode cX12_consolidate 8 = .ok (.aload_n 0, 1) := by decide +kernel
theorem dX12_consolidate_9 : decode cX12_consolidate 9 = .ok (.getfield 7, 3) := by decide +kernel
theorem dX12_consolidate_12 : decode cX12_consolidate 12 = .ok (.iconst 0, 1) := by decide +kernel
theorem dX12_consolidate_13 : decode cX12_consolidate 13 = .ok (.iaload, 1) := by decide +kernel
theorem dX12_consolidate_14 : decode cX12_consolidate 14 = .ok (.iconst 1, 1) := by decide +kernel
theorem dX12_consolidate_15 : decode cX12_consolidate 15 = .ok (.isub, 1) := by decide +kernel
theorem dX12_consolidate_16 : decode cX12_consolidate 16 = .ok (.istore_n 1, 1) := by decide +kernel
theorem dX12_consolidate_17 : decode cX12_consolidate 17 = .ok (.iload_n 1, 1) := by decide +kernel
theorem dX12_consolidate_18 : decode cX12_consolidate 18 = .ok (.ifCond .lt 35, 3) := by decide +kernel
theorem dX12_consolidate_21 : decode cX12_consolidate 21 = .ok (.aload_n 0, 1) := by decide +kernel
theorem dX12_consolidate_22 : decode cX12_consolidate 22 = .ok (.iload_n 1, 1) := by decide +kernel
theorem dX12_consolidate_23 : decode cX12_consolidate 23 = .ok (.invokevirtual 113, 3) := by decide +kernel
theorem dX12_consolidate_26 : decode cX12_consolidate 26 = .ok (.ifCond .ne 6, 3) := by decide +kernel
theorem dX12_consolidate_29 : decode cX12_consolidate 29 = .ok (.goto 18, 3) := by decide +kernel
theorem dX12_consolidate_32 : decode cX12_consolidate 32 = .ok (.aload_n 0, 1) := by decide +kernel
theorem dX12_consolidate_33 : decode cX12_consolidate 33 = .ok (.iload_n 1, 1) := by decide +kernel
theorem dX12_consolidate_34 : decode cX12_consolidate 34 = .ok (.invokevirtual 123, 3) := by decide +kernel
theorem dX12_consolidate_37 : decode cX12_consolidate 37 = .ok (.aload_n 0, 1) := by decide +kernel
theorem dX12_consolidate_38 : decode cX12_consolidate 38 = .ok (.getfield 7, 3) := by decide +kernel
theorem dX12_consolidate_41 : decode cX12_consolidate 41 = .ok (.iconst 5, 1) := by decide +kernel
theorem dX12_consolidate_42 : decode cX12_consolidate 42 = .ok (.dup2, 1) := by decide +kernel
theorem dX12_consolidate_43 : decode cX12_consolidate 43 = .ok (.iaload, 1) := by decide +kernel
theorem dX12_consolidate_44 : decode cX12_consolidate 44 = .ok (.iconst 1, 1) := by decide +kernel
theorem dX12_consolidate_45 : decode cX12_consolidate 45 = .ok (.iadd, 1) := by decide +kernel
theorem dX12_consolidate_46 : decode cX12_consolidate 46 = .ok (.iastore, 1) := by decide +kernel
theorem dX12_consolidate_47 : decode cX12_consolidate 47 = .ok (.iinc 1 (-1), 3) := by decide +kernel
theorem dX12_consolidate_50 : decode cX12_consolidate 50 = .ok (.goto (-33), 3) := by decide +kernel
theorem dX12_consolidate_53 : decode cX12_consolidate 53 = .ok (.iconst 0, 1) := by decide +kernel
theorem dX12_consolidate_54 : decode cX12_consolidate 54 = .ok (.istore_n 1, 1) := by decide +kernel
theorem dX12_consolidate_55 : decode cX12_consolidate 55 = .ok (.iload_n 1, 1) := by decide +kernel
theorem dX12_consolidate_56 : decode cX12_consolidate 56 = .ok (.aload_n 0, 1) := by decide +kernel
theorem dX12_consolidate_57 : decode cX12_consolidate 57 = .ok (.getfield 7, 3) := by decide +kernel
theorem dX12_consolidate_60 : decode cX12_consolidate 60 = .ok (.iconst 0, 1) := by decide +kernel
theorem dX12_consolidate_61 : decode cX12_consolidate 61 = .ok (.iaload, 1) := by decide +kernel
theorem dX12_consolidate_62 : decode cX12_consolidate 62 = .ok (.if_icmp .ge 106, 3) := by decide +kernel
theorem dX12_consolidate_65 : decode cX12_consolidate 65 = .ok (.aload_n 0, 1) := by decide +kernel
theorem dX12_consolidate_66 : decode cX12_consolidate 66 = .ok (.iload_n 1, 1) := by decide +kernel
theorem dX12_consolidate_67 : decode cX12_consolidate 67 = .ok (.bipush 37, 2) := by decide +kernel
theorem dX12_consolidate_69 : decode cX12_consolidate 69 = .ok (.invokevirtual 59, 3) := by decide +kernel
theorem dX12_consolidate_72 : decode cX12_consolidate 72 = .ok (.iconst 1, 1) := by decide +kernel
theorem dX12_consolidate_73 : decode cX12_consolidate 73 = .ok (.isub, 1) := by decide +kernel
theorem dX12_consolidate_74 : decode cX12_consolidate 74 = .ok (.istore_n 2, 1) := by decide +kernel
theorem dX12_consolidate_75 : decode cX12_consolidate 75 = .ok (.iload_n 2, 1) := by decide +kernel
theorem dX12_consolidate_76 : decode cX12_consolidate 76 = .ok (.ifCond .lt 31, 3) := by decide +kernel
theorem dX12_consolidate_79 : decode cX12_consolidate 79 = .ok (.aload_n 0, 1) := by decide +kernel
theorem dX12_consolidate_80 : decode cX12_consolidate 80 = .ok (.aload_n 0, 1) := by decide +kernel
theorem dX12_consolidate_81 : decode cX12_consolidate 81 = .ok (.iload_n 1, 1) := by decide +kernel
theorem dX12_consolidate_82 : decode cX12_consolidate 82 = .ok (.bipush 38, 2) := by decide +kernel
theorem dX12_consolidate_84 : decode cX12_consolidate 84 = .ok (.iload_n 2, 1) := by decide +kernel
theorem dX12_consolidate_85 : decode cX12_consolidate 85 = .ok (.iadd, 1) := by decide +kernel
theorem dX12_consolidate_86 : decode cX12_consolidate 86 = .ok (.invokevirtual 59, 3) := by decide +kernel
theorem dX12_consolidate_89 : decode cX12_consolidate 89 = .ok (.invokevirtual 63, 3) := by decide +kernel
theorem dX12_consolidate_92 : decode cX12_consolidate 92 = .ok (.ifCond .ge 9, 3) := by decide +kernel
theorem dX12_consolidate_95 : decode cX12_consolidate 95 = .ok (.aload_n 0, 1) := by decide +kernel
theorem dX12_consolidate_96 : decode cX12_consolidate 96 = .ok (.iload_n 1, 1) := by decide +kernel
theorem dX12_consolidate_97 : decode cX12_consolidate 97 = .ok (.iload_n 2, 1) := by decide +kernel
theorem dX12_consolidate_98 : decode cX12_consolidate 98 = .ok (.invokevirtual 119, 3) := by decide +kernel
theorem dX12_consolidate_101 : decode cX12_consolidate 101 = .ok (.iinc 2 (-1), 3) := by decide +kernel
theorem dX12_consolidate_104 : decode cX12_consolidate 104 = .ok (.goto (-29), 3) := by decide +kernel
theorem dX12_consolidate_107 : decode cX12_consolidate 107 = .ok (.aload_n 0, 1) := by decide +kernel
theorem dX12_consolidate_108 : decode cX12_consolidate 108 = .ok (.getfield 36, 3) := by decide +kernel
theorem dX12_consolidate_111 : decode cX12_consolidate 111 = .ok (.iload_n 1, 1) := by decide +kernel
theorem dX12_consolidate_112 : decode cX12_consolidate 112 = .ok (.aload_n 0, 1) := by decide +kernel
theorem dX12_consolidate_113 : decode cX12_consolidate 113 = .ok (.iload_n 1, 1) := by decide +kernel
theorem dX12_consolidate_114 : decode cX12_consolidate 114 = .ok (.invokevirtual 127, 3) := by decide +kernel
theorem dX12_consolidate_117 : decode cX12_consolidate 117 = .ok (.iconst 1, 1) := by decide +kernel
theorem dX12_consolidate_118 : decode cX12_consolidate 118 = .ok (.iadd, 1) := by decide +kernel
theorem dX12_consolidate_119 : decode cX12_consolidate 119 = .ok (.iastore, 1) := by decide +kernel
theorem dX12_consolidate_120 : decode cX12_consolidate 120 = .ok (.aload_n 0, 1) := by decide +kernel
theorem dX12_consolidate_121 : decode cX12_consolidate 121 = .ok (.iload_n 1, 1) := by decide +kernel
theorem dX12_consolidate_122 : decode cX12_consolidate 122 = .ok (.invokevirtual 93, 3) := by decide +kernel
theorem dX12_consolidate_125 : decode cX12_consolidate 125 = .ok (.istore_n 2, 1) := by decide +kernel
theorem dX12_consolidate_126 : decode cX12_consolidate 126 = .ok (.iconst 0, 1) := by decide +kernel
theorem dX12_consolidate_127 : decode cX12_consolidate 127 = .ok (.istore_n 3, 1) := by decide +kernel
theorem dX12_consolidate_128 : decode cX12_consolidate 128 = .ok (.iload_n 3, 1) := by decide +kernel
theorem dX12_consolidate_129 : decode cX12_consolidate 129 = .ok (.iconst 4, 1) := by decide +kernel
theorem dX12_consolidate_130 : decode cX12_consolidate 130 = .ok (.if_icmp .ge 25, 3) := by decide +kernel
theorem dX12_consolidate_133 : decode cX12_consolidate 133 = .ok (.aload_n 0, 1) := by decide +kernel
theorem dX12_consolidate_134 : decode cX12_consolidate 134 = .ok (.iload_n 1, 1) := by decide +kernel
theorem dX12_consolidate_135 : decode cX12_consolidate 135 = .ok (.iconst 5, 1) := by decide +kernel
theorem dX12_consolidate_136 : decode cX12_consolidate 136 = .ok (.iload_n 3, 1) := by decide +kernel
theorem dX12_consolidate_137 : decode cX12_consolidate 137 = .ok (.iadd, 1) := by decide +kernel
theorem dX12_consolidate_138 : decode cX12_consolidate 138 = .ok (.aload_n 0, 1) := by decide +kernel
theorem dX12_consolidate_139 : decode cX12_consolidate 139 = .ok (.iload_n 1, 1) := by decide +kernel
theorem dX12_consolidate_140 : decode cX12_consolidate 140 = .ok (.iload_n 2, 1) := by decide +kernel
theorem dX12_consolidate_141 : decode cX12_consolidate 141 = .ok (.iload_n 3, 1) := by decide +kernel
theorem dX12_consolidate_142 : decode cX12_consolidate 142 = .ok (.iadd, 1) := by decide +kernel
theorem dX12_consolidate_143 : decode cX12_consolidate 143 = .ok (.invokevirtual 59, 3) := by decide +kernel
theorem dX12_consolidate_146 : decode cX12_consolidate 146 = .ok (.invokevirtual 75, 3) := by decide +kernel
theorem dX12_consolidate_149 : decode cX12_consolidate 149 = .ok (.iinc 3 1, 3) := by decide +kernel
theorem dX12_consolidate_152 : decode cX12_consolidate 152 = .ok (.goto (-24), 3) := by decide +kernel
theorem dX12_consolidate_155 : decode cX12_consolidate 155 = .ok (.aload_n 0, 1) := by decide +kernel
theorem dX12_consolidate_156 : decode cX12_consolidate 156 = .ok (.iload_n 1, 1) := by decide +kernel
theorem dX12_consolidate_157 : decode cX12_consolidate 157 = .ok (.iconst 4, 1) := by decide +kernel
theorem dX12_consolidate_158 : decode cX12_consolidate 158 = .ok (.iconst 1, 1) := by decide +kernel
theorem dX12_consolidate_159 : decode cX12_consolidate 159 = .ok (.invokevirtual 75, 3) := by decide +kernel
theorem dX12_consolidate_162 : decode cX12_consolidate 162 = .ok (.iinc 1 1, 3) := by decide +kernel
theorem dX12_consolidate_165 : decode cX12_consolidate 165 = .ok (.goto (-110), 3) := by decide +kernel
theorem dX12_consolidate_168 : decode cX12_consolidate 168 = .ok (.iconst 0, 1) := by decide +kernel
theorem dX12_consolidate_169 : decode cX12_consolidate 169 = .ok (.istore_n 1, 1) := by decide +kernel
theorem dX12_consolidate_170 : decode cX12_consolidate 170 = .ok (.iload_n 1, 1) := by decide +kernel
theorem dX12_consolidate_171 : decode cX12_consolidate 171 = .ok (.aload_n 0, 1) := by decide +kernel
theorem dX12_consolidate_172 : decode cX12_consolidate 172 = .ok (.getfield 7, 3) := by decide +kernel
theorem dX12_consolidate_175 : decode cX12_consolidate 175 = .ok (.iconst 0, 1) := by decide +kernel
theorem dX12_consolidate_176 : decode cX12_consolidate 176 = .ok (.iaload, 1) := by decide +kernel
theorem dX12_consolidate_177 : decode cX12_consolidate 177 = .ok (.if_icmp .ge 21, 3) := by decide +kernel
theorem dX12_consolidate_180 : decode cX12_consolidate 180 = .ok (.aload_n 0, 1) := by decide +kernel
theorem dX12_consolidate_181 : decode cX12_consolidate 181 = .ok (.iload_n 1, 1) := by decide +kernel
theorem dX12_consolidate_182 : decode cX12_consolidate 182 = .ok (.iconst 1, 1) := by decide +kernel
theorem dX12_consolidate_183 : decode cX12_consolidate 183 = .ok (.aload_n 0, 1) := by decide +kernel
theorem dX12_consolidate_184 : decode cX12_consolidate 184 = .ok (.getfield 36, 3) := by decide +kernel
theorem dX12_consolidate_187 : decode cX12_consolidate 187 = .ok (.iload_n 1, 1) := by decide +kernel
theorem dX12_consolidate_188 : decode cX12_consolidate 188 = .ok (.iaload, 1) := by decide +kernel
theorem dX12_consolidate_189 : decode cX12_consolidate 189 = .ok (.invokevirtual 75, 3) := by decide +kernel
theorem dX12_consolidate_192 : decode cX12_consolidate 192 = .ok (.iinc 1 1, 3) := by decide +kernel
theorem dX12_consolidate_195 : decode cX12_consolidate 195 = .ok (.goto (-25), 3) := by decide +kernel
theorem dX12_consolidate_198 : decode cX12_consolidate 198 = .ok (.aload_n 0, 1) := by decide +kernel
theorem dX12_consolidate_199 : decode cX12_consolidate 199 = .ok (.getfield 7, 3) := by decide +kernel
theorem dX12_consolidate_202 : decode cX12_consolidate 202 = .ok (.bipush 7, 2) := by decide +kernel
theorem dX12_consolidate_204 : decode cX12_consolidate 204 = .ok (.aload_n 0, 1) := by decide +kernel
theorem dX12_consolidate_205 : decode cX12_consolidate 205 = .ok (.getfield 7, 3) := by decide +kernel
theorem dX12_consolidate_208 : decode cX12_consolidate 208 = .ok (.bipush 6, 2) := by decide +kernel
theorem dX12_consolidate_210 : decode cX12_consolidate 210 = .ok (.iaload, 1) := by decide +kernel
theorem dX12_consolidate_211 : decode cX12_consolidate 211 = .ok (.bipush 6, 2) := by decide +kernel
theorem dX12_consolidate_213 : decode cX12_consolidate 213 = .ok (.irem, 1) := by decide +kernel
theorem dX12_consolidate_214 : decode cX12_consolidate 214 = .ok (.iadd, 1) := by decide +kernel
theorem dX12_consolidate_215 : decode cX12_consolidate 215 = .ok (.aload_n 0, 1) := by decide +kernel
theorem dX12_consolidate_216 : decode cX12_consolidate 216 = .ok (.getfield 7, 3) := by decide +kernel
theorem dX12_consolidate_219 : decode cX12_consolidate 219 = .ok (.iconst 2, 1) := by decide +kernel
theorem dX12_consolidate_220 : decode cX12_consolidate 220 = .ok (.iaload, 1) := by decide +kernel
theorem dX12_consolidate_221 : decode cX12_consolidate 221 = .ok (.iastore, 1) := by decide +kernel
theorem dX12_consolidate_222 : decode cX12_consolidate 222 = .ok (.aload_n 0, 1) := by decide +kernel
theorem dX12_consolidate_223 : decode cX12_consolidate 223 = .ok (.getfield 7, 3) := by decide +kernel
theorem dX12_consolidate_226 : decode cX12_consolidate 226 = .ok (.bipush 6, 2) := by decide +kernel
theorem dX12_consolidate_228 : decode cX12_consolidate 228 = .ok (.dup2, 1) := by decide +kernel
theorem dX12_consolidate_229 : decode cX12_consolidate 229 = .ok (.iaload, 1) := by decide +kernel
theorem dX12_consolidate_230 : decode cX12_consolidate 230 = .ok (.iconst 1, 1) := by decide +kernel
theorem dX12_consolidate_231 : decode cX12_consolidate 231 = .ok (.iadd, 1) := by decide +kernel
theorem dX12_consolidate_232 : decode cX12_consolidate 232 = .ok (.iastore, 1) := by decide +kernel
theorem dX12_consolidate_233 : decode cX12_consolidate 233 = .ok (.aload_n 0, 1) := by decide +kernel
theorem dX12_consolidate_234 : decode cX12_consolidate 234 = .ok (.getfield 7, 3) := by decide +kernel
theorem dX12_consolidate_237 : decode cX12_consolidate 237 = .ok (.bipush 6, 2) := by decide +kernel
theorem dX12_consolidate_239 : decode cX12_consolidate 239 = .ok (.iaload, 1) := by decide +kernel
theorem dX12_consolidate_240 : decode cX12_consolidate 240 = .ok (.ireturn, 1) := by decide +kernel
theorem dX12_advance_0 : decode cX12_advance 0 = .ok (.aload_n 0, 1) := by decide +kernel
theorem dX12_advance_1 : decode cX12_advance 1 = .ok (.iload_n 1, 1) := by decide +kernel
theorem dX12_advance_2 : decode cX12_advance 2 = .ok (.iconst 1, 1) := by decide +kernel
theorem dX12_advance_3 : decode cX12_advance 3 = .ok (.sipush 400, 3) := by decide +kernel
theorem dX12_advance_6 : decode cX12_advance 6 = .ok (.invokestatic 71, 3) := by decide +kernel
theorem dX12_advance_9 : decode cX12_advance 9 = .ok (.ifCond .eq 7, 3) := by decide +kernel
theorem dX12_advance_12 : decode cX12_advance 12 = .ok (.iconst 0, 1) := by decide +kernel
theorem dX12_advance_13 : decode cX12_advance 13 = .ok (.goto 4, 3) := by decide +kernel
theorem dX12_advance_16 : decode cX12_advance 16 = .ok (.iconst 1, 1) := by decide +kernel
theorem dX12_advance_17 : decode cX12_advance 17 = .ok (.invokevirtual 67, 3) := by decide +kernel
theorem dX12_advance_20 : decode cX12_advance 20 = .ok (.ifCond .eq 5, 3) := by decide +kernel
theorem dX12_advance_23 : decode cX12_advance 23 = .ok (.iconst 0, 1) := by decide +kernel
theorem dX12_advance_24 : decode cX12_advance 24 = .ok (.ireturn, 1) := by decide +kernel
theorem dX12_advance_25 : decode cX12_advance 25 = .ok (.aload_n 0, 1) := by decide +kernel
theorem dX12_advance_26 : decode cX12_advance 26 = .ok (.aload_n 0, 1) := by decide +kernel
theorem dX12_advance_27 : decode cX12_advance 27 = .ok (.getfield 7, 3) := by decide +kernel
theorem dX12_advance_30 : decode cX12_advance 30 = .ok (.invokevirtual 85, 3) := by decide +kernel
theorem dX12_advance_33 : decode cX12_advance 33 = .ok (.iconst 0, 1) := by decide +kernel
theorem dX12_advance_34 : decode cX12_advance 34 = .ok (.istore_n 2, 1) := by decide +kernel
theorem dX12_advance_35 : decode cX12_advance 35 = .ok (.iconst 0, 1) := by decide +kernel
theorem dX12_advance_36 : decode cX12_advance 36 = .ok (.istore_n 3, 1) := by decide +kernel
theorem dX12_advance_37 : decode cX12_advance 37 = .ok (.iload_n 3, 1) := by decide +kernel
theorem dX12_advance_38 : decode cX12_advance 38 = .ok (.aload_n 0, 1) := by decide +kernel
theorem dX12_advance_39 : decode cX12_advance 39 = .ok (.getfield 7, 3) := by decide +kernel
theorem dX12_advance_42 : decode cX12_advance 42 = .ok (.iconst 0, 1) := by decide +kernel
theorem dX12_advance_43 : decode cX12_advance 43 = .ok (.iaload, 1) := by decide +kernel
theorem dX12_advance_44 : decode cX12_advance 44 = .ok (.if_icmp .ge 25, 3) := by decide +kernel
theorem dX12_advance_47 : decode cX12_advance 47 = .ok (.iload_n 2, 1) := by decide +kernel
theorem dX12_advance_48 : decode cX12_advance 48 = .ok (.aload_n 0, 1) := by decide +kernel
theorem dX12_advance_49 : decode cX12_advance 49 = .ok (.iload_n 3, 1) := by decide +kernel
theorem dX12_advance_50 : decode cX12_advance 50 = .ok (.invokevirtual 113, 3) := by decide +kernel
theorem dX12_advance_53 : decode cX12_advance 53 = .ok (.ifCond .eq 7, 3) := by decide +kernel
theorem dX12_advance_56 : decode cX12_advance 56 = .ok (.iconst 1, 1) := by decide +kernel
theorem dX12_advance_57 : decode cX12_advance 57 = .ok (.goto 4, 3) := by decide +kernel
theorem dX12_advance_60 : decode cX12_advance 60 = .ok (.iconst 0, 1) := by decide +kernel
theorem dX12_advance_61 : decode cX12_advance 61 = .ok (.isub, 1) := by decide +kernel
theorem dX12_advance_62 : decode cX12_advance 62 = .ok (.istore_n 2, 1) := by decide +kernel
theorem dX12_advance_63 : decode cX12_advance 63 = .ok (.iinc 3 1, 3) := by decide +kernel
theorem dX12_advance_66 : decode cX12_advance 66 = .ok (.goto (-29), 3) := by decide +kernel
theorem dX12_advance_69 : decode cX12_advance 69 = .ok (.aload_n 0, 1) := by decide +kernel
theorem dX12_advance_70 : decode cX12_advance 70 = .ok (.getfield 7, 3) := by decide +kernel
theorem dX12_advance_73 : decode cX12_advance 73 = .ok (.iconst 2, 1) := by decide +kernel
theorem dX12_advance_74 : decode cX12_advance 74 = .ok (.dup2, 1) := by decide +kernel
theorem dX12_advance_75 : decode cX12_advance 75 = .ok (.iaload, 1) := by decide +kernel
theorem dX12_advance_76 : decode cX12_advance 76 = .ok (.iload_n 1, 1) := by decide +kernel
theorem dX12_advance_77 : decode cX12_advance 77 = .ok (.iadd, 1) := by decide +kernel
theorem dX12_advance_78 : decode cX12_advance 78 = .ok (.iastore, 1) := by decide +kernel
theorem dX12_advance_79 : decode cX12_advance 79 = .ok (.iconst 0, 1) := by decide +kernel
theorem dX12_advance_80 : decode cX12_advance 80 = .ok (.istore_n 3, 1) := by decide +kernel
theorem dX12_advance_81 : decode cX12_advance 81 = .ok (.iload_n 3, 1) := by decide +kernel
theorem dX12_advance_82 : decode cX12_advance 82 = .ok (.aload_n 0, 1) := by decide +kernel
theorem dX12_advance_83 : decode cX12_advance 83 = .ok (.getfield 7, 3) := by decide +kernel
theorem dX12_advance_86 : decode cX12_advance 86 = .ok (.iconst 0, 1) := by decide +kernel
theorem dX12_advance_87 : decode cX12_advance 87 = .ok (.iaload, 1) := by decide +kernel
theorem dX12_advance_88 : decode cX12_advance 88 = .ok (.if_icmp .ge 25, 3) := by decide +kernel
theorem dX12_advance_91 : decode cX12_advance 91 = .ok (.iload_n 2, 1) := by decide +kernel
theorem dX12_advance_92 : decode cX12_advance 92 = .ok (.aload_n 0, 1) := by decide +kernel
theorem dX12_advance_93 : decode cX12_advance 93 = .ok (.iload_n 3, 1) := by decide +kernel
theorem dX12_advance_94 : decode cX12_advance 94 = .ok (.invokevirtual 113, 3) := by decide +kernel
theorem dX12_advance_97 : decode cX12_advance 97 = .ok (.ifCond .eq 7, 3) := by decide +kernel
theorem dX12_advance_100 : decode cX12_advance 100 = .ok (.iconst 1, 1) := by decide +kernel
theorem dX12_advance_101 : decode cX12_advance 101 = .ok (.goto 4, 3) := by decide +kernel
theorem dX12_advance_104 : decode cX12_advance 104 = .ok (.iconst 0, 1) := by decide +kernel
theorem dX12_advance_105 : decode cX12_advance 105 = .ok (.iadd, 1) := by decide +kernel
theorem dX12_advance_106 : decode cX12_advance 106 = .ok (.istore_n 2, 1) := by decide +kernel
theorem dX12_advance_107 : decode cX12_advance 107 = .ok (.iinc 3 1, 3) := by decide +kernel
theorem dX12_advance_110 : decode cX12_advance 110 = .ok (.goto (-29), 3) := by decide +kernel
theorem dX12_advance_113 : decode cX12_advance 113 = .ok (.iload_n 2, 1) := by decide +kernel
theorem dX12_advance_114 : decode cX12_advance 114 = .ok (.ireturn, 1) := by decide +kernel
theorem dX12_day_0 : decode cX12_day 0 = .ok (.aload_n 0, 1) := by decide +kernel
theorem dX12_day_1 : decode cX12_day 1 = .ok (.iconst 0, 1) := by decide +kernel
theorem dX12_day_2 : decode cX12_day 2 = .ok (.putfield 45, 3) := by decide +kernel
theorem dX12_day_5 : decode cX12_day 5 = .ok (.aload_n 0, 1) := by decide +kernel
theorem dX12_day_6 : decode cX12_day 6 = .ok (.getfield 7, 3) := by decide +kernel
theorem dX12_day_9 : decode cX12_day 9 = .ok (.iconst 2, 1) := by decide +kernel
theorem dX12_day_10 : decode cX12_day 10 = .ok (.iaload, 1) := by decide +kernel
theorem dX12_day_11 : decode cX12_day 11 = .ok (.ireturn, 1) := by decide +kernel
theorem dX12_clauseCount_0 : decode cX12_clauseCount 0 = .ok (.aload_n 0, 1) := by decide +kernel
theorem dX12_clauseCount_1 : decode cX12_clauseCount 1 = .ok (.iconst 0, 1) := by decide +kernel
theorem dX12_clauseCount_2 : decode cX12_clauseCount 2 = .ok (.putfield 45, 3) := by decide +kernel
theorem dX12_clauseCount_5 : decode cX12_clauseCount 5 = .ok (.aload_n 0, 1) := by decide +kernel
theorem dX12_clauseCount_6 : decode cX12_clauseCount 6 = .ok (.getfield 7, 3) := by decide +kernel
theorem dX12_clauseCount_9 : decode cX12_clauseCount 9 = .ok (.iconst 0, 1) := by decide +kernel
theorem dX12_clauseCount_10 : decode cX12_clauseCount 10 = .ok (.iaload, 1) := by decide +kernel
theorem dX12_clauseCount_11 : decode cX12_clauseCount 11 = .ok (.ireturn, 1) := by decide +kernel
theorem dX12_clauseAt_0 : decode cX12_clauseAt 0 = .ok (.iconst 0, 1) := by decide +kernel
theorem dX12_clauseAt_1 : decode cX12_clauseAt 1 = .ok (.istore_n 2, 1) := by decide +kernel
theorem dX12_clauseAt_2 : decode cX12_clauseAt 2 = .ok (.iload_n 2, 1) := by decide +kernel
theorem dX12_clauseAt_3 : decode cX12_clauseAt 3 = .ok (.aload_n 0, 1) := by decide +kernel
theorem dX12_clauseAt_4 : decode cX12_clauseAt 4 = .ok (.getfield 7, 3) := by decide +kernel
theorem dX12_clauseAt_7 : decode cX12_clauseAt 7 = .ok (.iconst 0, 1) := by decide +kernel
theorem dX12_clauseAt_8 : decode cX12_clauseAt 8 = .ok (.iaload, 1) := by decide +kernel
theorem dX12_clauseAt_9 : decode cX12_clauseAt 9 = .ok (.if_icmp .ge 33, 3) := by decide +kernel
theorem dX12_clauseAt_12 : decode cX12_clauseAt 12 = .ok (.aload_n 0, 1) := by decide +kernel
theorem dX12_clauseAt_13 : decode cX12_clauseAt 13 = .ok (.iload_n 2, 1) := by decide +kernel
theorem dX12_clauseAt_14 : decode cX12_clauseAt 14 = .ok (.invokevirtual 127, 3) := by decide +kernel
theorem dX12_clauseAt_17 : decode cX12_clauseAt 17 = .ok (.iload_n 1, 1) := by decide +kernel
theorem dX12_clauseAt_18 : decode cX12_clauseAt 18 = .ok (.if_icmp .eq 6, 3) := by decide +kernel
theorem dX12_clauseAt_21 : decode cX12_clauseAt 21 = .ok (.goto 15, 3) := by decide +kernel
theorem dX12_clauseAt_24 : decode cX12_clauseAt 24 = .ok (.aload_n 0, 1) := by decide +kernel
theorem dX12_clauseAt_25 : decode cX12_clauseAt 25 = .ok (.iconst 0, 1) := by decide +kernel
theorem dX12_clauseAt_26 : decode cX12_clauseAt 26 = .ok (.putfield 45, 3) := by decide +kernel
theorem dX12_clauseAt_29 : decode cX12_clauseAt 29 = .ok (.aload_n 0, 1) := by decide +kernel
theorem dX12_clauseAt_30 : decode cX12_clauseAt 30 = .ok (.iload_n 2, 1) := by decide +kernel
theorem dX12_clauseAt_31 : decode cX12_clauseAt 31 = .ok (.iconst 0, 1) := by decide +kernel
theorem dX12_clauseAt_32 : decode cX12_clauseAt 32 = .ok (.invokevirtual 59, 3) := by decide +kernel
theorem dX12_clauseAt_35 : decode cX12_clauseAt 35 = .ok (.ireturn, 1) := by decide +kernel
theorem dX12_clauseAt_36 : decode cX12_clauseAt 36 = .ok (.iinc 2 1, 3) := by decide +kernel
theorem dX12_clauseAt_39 : decode cX12_clauseAt 39 = .ok (.goto (-37), 3) := by decide +kernel
theorem dX12_clauseAt_42 : decode cX12_clauseAt 42 = .ok (.aload_n 0, 1) := by decide +kernel
theorem dX12_clauseAt_43 : decode cX12_clauseAt 43 = .ok (.iconst 1, 1) := by decide +kernel
theorem dX12_clauseAt_44 : decode cX12_clauseAt 44 = .ok (.putfield 45, 3) := by decide +kernel
theorem dX12_clauseAt_47 : decode cX12_clauseAt 47 = .ok (.iconst 0, 1) := by decide +kernel
theorem dX12_clauseAt_48 : decode cX12_clauseAt 48 = .ok (.ireturn, 1) := by decide +kernel
theorem dX12_clauseOfSection_0 : decode cX12_clauseOfSection 0 = .ok (.aload_n 0, 1) := by decide +kernel
theorem dX12_clauseOfSection_1 : decode cX12_clauseOfSection 1 = .ok (.aload_n 0, 1) := by decide +kernel
theorem dX12_clauseOfSection_2 : decode cX12_clauseOfSection 2 = .ok (.iload_n 1, 1) := by decide +kernel
theorem dX12_clauseOfSection_3 : decode cX12_clauseOfSection 3 = .ok (.invokevirtual 82, 3) := by decide +kernel
theorem dX12_clauseOfSection_6 : decode cX12_clauseOfSection 6 = .ok (.ifCond .ge 7, 3) := by decide +kernel
theorem dX12_clauseOfSection_9 : decode cX12_clauseOfSection 9 = .ok (.iconst 1, 1) := by decide +kernel
theorem dX12_clauseOfSection_10 : decode cX12_clauseOfSection 10 = .ok (.goto 4, 3) := by decide +kernel
theorem dX12_clauseOfSection_13 : decode cX12_clauseOfSection 13 = .ok (.iconst 0, 1) := by decide +kernel
theorem dX12_clauseOfSection_14 : decode cX12_clauseOfSection 14 = .ok (.invokevirtual 67, 3) := by decide +kernel
theorem dX12_clauseOfSection_17 : decode cX12_clauseOfSection 17 = .ok (.ifCond .eq 7, 3) := by decide +kernel
theorem dX12_clauseOfSection_20 : decode cX12_clauseOfSection 20 = .ok (.iconst 0, 1) := by decide +kernel
theorem dX12_clauseOfSection_21 : decode cX12_clauseOfSection 21 = .ok (.goto 13, 3) := by decide +kernel
theorem dX12_clauseOfSection_24 : decode cX12_clauseOfSection 24 = .ok (.aload_n 0, 1) := by decide +kernel
theorem dX12_clauseOfSection_25 : decode cX12_clauseOfSection 25 = .ok (.aload_n 0, 1) := by decide +kernel
theorem dX12_clauseOfSection_26 : decode cX12_clauseOfSection 26 = .ok (.iload_n 1, 1) := by decide +kernel
theorem dX12_clauseOfSection_27 : decode cX12_clauseOfSection 27 = .ok (.invokevirtual 82, 3) := by decide +kernel
theorem dX12_clauseOfSection_30 : decode cX12_clauseOfSection 30 = .ok (.iconst 0, 1) := by decide +kernel
theorem dX12_clauseOfSection_31 : decode cX12_clauseOfSection 31 = .ok (.invokevirtual 59, 3) := by decide +kernel
theorem dX12_clauseOfSection_34 : decode cX12_clauseOfSection 34 = .ok (.ireturn, 1) := by decide +kernel
theorem dX12_section_0 : decode cX12_section 0 = .ok (.aload_n 0, 1) := by decide +kernel
theorem dX12_section_1 : decode cX12_section 1 = .ok (.iload_n 1, 1) := by decide +kernel
theorem dX12_section_2 : decode cX12_section 2 = .ok (.invokevirtual 130, 3) := by decide +kernel
theorem dX12_section_5 : decode cX12_section 5 = .ok (.ifCond .eq 7, 3) := by decide +kernel
theorem dX12_section_8 : decode cX12_section 8 = .ok (.iconst 0, 1) := by decide +kernel
theorem dX12_section_9 : decode cX12_section 9 = .ok (.goto 13, 3) := by decide +kernel
theorem dX12_section_12 : decode cX12_section 12 = .ok (.aload_n 0, 1) := by decide +kernel
theorem dX12_section_13 : decode cX12_section 13 = .ok (.aload_n 0, 1) := by decide +kernel
theorem dX12_section_14 : decode cX12_section 14 = .ok (.iload_n 1, 1) := by decide +kernel
theorem dX12_section_15 : decode cX12_section 15 = .ok (.invokevirtual 63, 3) := by decide +kernel
theorem dX12_section_18 : decode cX12_section 18 = .ok (.iconst 1, 1) := by decide +kernel
theorem dX12_section_19 : decode cX12_section 19 = .ok (.invokevirtual 59, 3) := by decide +kernel
theorem dX12_section_22 : decode cX12_section 22 = .ok (.ireturn, 1) := by decide +kernel
theorem dX12_enactedOn_0 : decode cX12_enactedOn 0 = .ok (.aload_n 0, 1) := by decide +kernel
theorem dX12_enactedOn_1 : decode cX12_enactedOn 1 = .ok (.iload_n 1, 1) := by decide +kernel
theorem dX12_enactedOn_2 : decode cX12_enactedOn 2 = .ok (.invokevirtual 130, 3) := by decide +kernel
theorem dX12_enactedOn_5 : decode cX12_enactedOn 5 = .ok (.ifCond .eq 7, 3) := by decide +kernel
theorem dX12_enactedOn_8 : decode cX12_enactedOn 8 = .ok (.iconst 0, 1) := by decide +kernel
theorem dX12_enactedOn_9 : decode cX12_enactedOn 9 = .ok (.goto 13, 3) := by decide +kernel
theorem dX12_enactedOn_12 : decode cX12_enactedOn 12 = .ok (.aload_n 0, 1) := by decide +kernel
theorem dX12_enactedOn_13 : decode cX12_enactedOn 13 = .ok (.aload_n 0, 1) := by decide +kernel
theorem dX12_enactedOn_14 : decode cX12_enactedOn 14 = .ok (.iload_n 1, 1) := by decide +kernel
theorem dX12_enactedOn_15 : decode cX12_enactedOn 15 = .ok (.invokevirtual 63, 3) := by decide +kernel
theorem dX12_enactedOn_18 : decode cX12_enactedOn 18 = .ok (.iconst 2, 1) := by decide +kernel
theorem dX12_enactedOn_19 : decode cX12_enactedOn 19 = .ok (.invokevirtual 59, 3) := by decide +kernel
theorem dX12_enactedOn_22 : decode cX12_enactedOn 22 = .ok (.ireturn, 1) := by decide +kernel
theorem dX12_isEndless_0 : decode cX12_isEndless 0 = .ok (.aload_n 0, 1) := by decide +kernel
theorem dX12_isEndless_1 : decode cX12_isEndless 1 = .ok (.aload_n 0, 1) := by decide +kernel
theorem dX12_isEndless_2 : decode cX12_isEndless 2 = .ok (.iload_n 1, 1) := by decide +kernel
theorem dX12_isEndless_3 : decode cX12_isEndless 3 = .ok (.invokevirtual 63, 3) := by decide +kernel
theorem dX12_isEndless_6 : decode cX12_isEndless 6 = .ok (.ifCond .lt 16, 3) := by decide +kernel
theorem dX12_isEndless_9 : decode cX12_isEndless 9 = .ok (.aload_n 0, 1) := by decide +kernel
theorem dX12_isEndless_10 : decode cX12_isEndless 10 = .ok (.aload_n 0, 1) := by decide +kernel
theorem dX12_isEndless_11 : decode cX12_isEndless 11 = .ok (.iload_n 1, 1) := by decide +kernel
theorem dX12_isEndless_12 : decode cX12_isEndless 12 = .ok (.invokevirtual 63, 3) := by decide +kernel
theorem dX12_isEndless_15 : decode cX12_isEndless 15 = .ok (.iconst 3, 1) := by decide +kernel
theorem dX12_isEndless_16 : decode cX12_isEndless 16 = .ok (.invokevirtual 59, 3) := by decide +kernel
theorem dX12_isEndless_19 : decode cX12_isEndless 19 = .ok (.ifCond .ge 7, 3) := by decide +kernel
theorem dX12_isEndless_22 : decode cX12_isEndless 22 = .ok (.iconst 1, 1) := by decide +kernel
theorem dX12_isEndless_23 : decode cX12_isEndless 23 = .ok (.goto 4, 3) := by decide +kernel
theorem dX12_isEndless_26 : decode cX12_isEndless 26 = .ok (.iconst 0, 1) := by decide +kernel
theorem dX12_isEndless_27 : decode cX12_isEndless 27 = .ok (.invokevirtual 67, 3) := by decide +kernel
theorem dX12_isEndless_30 : decode cX12_isEndless 30 = .ok (.ireturn, 1) := by decide +kernel
theorem dX12_sunset_0 : decode cX12_sunset 0 = .ok (.aload_n 0, 1) := by decide +kernel
theorem dX12_sunset_1 : decode cX12_sunset 1 = .ok (.iload_n 1, 1) := by decide +kernel
theorem dX12_sunset_2 : decode cX12_sunset 2 = .ok (.invokevirtual 133, 3) := by decide +kernel
theorem dX12_sunset_5 : decode cX12_sunset 5 = .ok (.ifCond .eq 7, 3) := by decide +kernel
theorem dX12_sunset_8 : decode cX12_sunset 8 = .ok (.iconst 0, 1) := by decide +kernel
theorem dX12_sunset_9 : decode cX12_sunset 9 = .ok (.goto 13, 3) := by decide +kernel
theorem dX12_sunset_12 : decode cX12_sunset 12 = .ok (.aload_n 0, 1) := by decide +kernel
theorem dX12_sunset_13 : decode cX12_sunset 13 = .ok (.aload_n 0, 1) := by decide +kernel
theorem dX12_sunset_14 : decode cX12_sunset 14 = .ok (.iload_n 1, 1) := by decide +kernel
theorem dX12_sunset_15 : decode cX12_sunset 15 = .ok (.invokevirtual 63, 3) := by decide +kernel
theorem dX12_sunset_18 : decode cX12_sunset 18 = .ok (.iconst 3, 1) := by decide +kernel
theorem dX12_sunset_19 : decode cX12_sunset 19 = .ok (.invokevirtual 59, 3) := by decide +kernel
theorem dX12_sunset_22 : decode cX12_sunset 22 = .ok (.ireturn, 1) := by decide +kernel
theorem dX12_isInForce_0 : decode cX12_isInForce 0 = .ok (.aload_n 0, 1) := by decide +kernel
theorem dX12_isInForce_1 : decode cX12_isInForce 1 = .ok (.iload_n 1, 1) := by decide +kernel
theorem dX12_isInForce_2 : decode cX12_isInForce 2 = .ok (.invokevirtual 130, 3) := by decide +kernel
theorem dX12_isInForce_5 : decode cX12_isInForce 5 = .ok (.ifCond .ne 20, 3) := by decide +kernel
theorem dX12_isInForce_8 : decode cX12_isInForce 8 = .ok (.aload_n 0, 1) := by decide +kernel
theorem dX12_isInForce_9 : decode cX12_isInForce 9 = .ok (.aload_n 0, 1) := by decide +kernel
theorem dX12_isInForce_10 : decode cX12_isInForce 10 = .ok (.iload_n 1, 1) := by decide +kernel
theorem dX12_isInForce_11 : decode cX12_isInForce 11 = .ok (.invokevirtual 63, 3) := by decide +kernel
theorem dX12_isInForce_14 : decode cX12_isInForce 14 = .ok (.iload_n 2, 1) := by decide +kernel
theorem dX12_isInForce_15 : decode cX12_isInForce 15 = .ok (.invokevirtual 96, 3) := by decide +kernel
theorem dX12_isInForce_18 : decode cX12_isInForce 18 = .ok (.ifCond .eq 7, 3) := by decide +kernel
theorem dX12_isInForce_21 : decode cX12_isInForce 21 = .ok (.iconst 1, 1) := by decide +kernel
theorem dX12_isInForce_22 : decode cX12_isInForce 22 = .ok (.goto 4, 3) := by decide +kernel
theorem dX12_isInForce_25 : decode cX12_isInForce 25 = .ok (.iconst 0, 1) := by decide +kernel
theorem dX12_isInForce_26 : decode cX12_isInForce 26 = .ok (.ireturn, 1) := by decide +kernel
theorem dX12_hasLapsed_0 : decode cX12_hasLapsed 0 = .ok (.aload_n 0, 1) := by decide +kernel
theorem dX12_hasLapsed_1 : decode cX12_hasLapsed 1 = .ok (.iload_n 1, 1) := by decide +kernel
theorem dX12_hasLapsed_2 : decode cX12_hasLapsed 2 = .ok (.invokevirtual 130, 3) := by decide +kernel
theorem dX12_hasLapsed_5 : decode cX12_hasLapsed 5 = .ok (.ifCond .ne 19, 3) := by decide +kernel
theorem dX12_hasLapsed_8 : decode cX12_hasLapsed 8 = .ok (.aload_n 0, 1) := by decide +kernel
theorem dX12_hasLapsed_9 : decode cX12_hasLapsed 9 = .ok (.aload_n 0, 1) := by decide +kernel
theorem dX12_hasLapsed_10 : decode cX12_hasLapsed 10 = .ok (.iload_n 1, 1) := by decide +kernel
theorem dX12_hasLapsed_11 : decode cX12_hasLapsed 11 = .ok (.invokevirtual 63, 3) := by decide +kernel
theorem dX12_hasLapsed_14 : decode cX12_hasLapsed 14 = .ok (.invokevirtual 113, 3) := by decide +kernel
theorem dX12_hasLapsed_17 : decode cX12_hasLapsed 17 = .ok (.ifCond .eq 7, 3) := by decide +kernel
theorem dX12_hasLapsed_20 : decode cX12_hasLapsed 20 = .ok (.iconst 1, 1) := by decide +kernel
theorem dX12_hasLapsed_21 : decode cX12_hasLapsed 21 = .ok (.goto 4, 3) := by decide +kernel
theorem dX12_hasLapsed_24 : decode cX12_hasLapsed 24 = .ok (.iconst 0, 1) := by decide +kernel
theorem dX12_hasLapsed_25 : decode cX12_hasLapsed 25 = .ok (.ireturn, 1) := by decide +kernel
theorem dX12_valid_0 : decode cX12_valid 0 = .ok (.iconst 0, 1) := by decide +kernel
theorem dX12_valid_1 : decode cX12_valid 1 = .ok (.istore_n 2, 1) := by decide +kernel
theorem dX12_valid_2 : decode cX12_valid 2 = .ok (.iconst 0, 1) := by decide +kernel
theorem dX12_valid_3 : decode cX12_valid 3 = .ok (.istore_n 3, 1) := by decide +kernel
theorem dX12_valid_4 : decode cX12_valid 4 = .ok (.iload_n 3, 1) := by decide +kernel
theorem dX12_valid_5 : decode cX12_valid 5 = .ok (.aload_n 0, 1) := by decide +kernel
theorem dX12_valid_6 : decode cX12_valid 6 = .ok (.getfield 7, 3) := by decide +kernel
theorem dX12_valid_9 : decode cX12_valid 9 = .ok (.iconst 0, 1) := by decide +kernel
theorem dX12_valid_10 : decode cX12_valid 10 = .ok (.iaload, 1) := by decide +kernel
theorem dX12_valid_11 : decode cX12_valid 11 = .ok (.if_icmp .ge 26, 3) := by decide +kernel
theorem dX12_valid_14 : decode cX12_valid 14 = .ok (.iload_n 2, 1) := by decide +kernel
theorem dX12_valid_15 : decode cX12_valid 15 = .ok (.aload_n 0, 1) := by decide +kernel
theorem dX12_valid_16 : decode cX12_valid 16 = .ok (.iload_n 3, 1) := by decide +kernel
theorem dX12_valid_17 : decode cX12_valid 17 = .ok (.iload_n 1, 1) := by decide +kernel
theorem dX12_valid_18 : decode cX12_valid 18 = .ok (.invokevirtual 96, 3) := by decide +kernel
theorem dX12_valid_21 : decode cX12_valid 21 = .ok (.ifCond .eq 7, 3) := by decide +kernel
theorem dX12_valid_24 : decode cX12_valid 24 = .ok (.iconst 1, 1) := by decide +kernel
theorem dX12_valid_25 : decode cX12_valid 25 = .ok (.goto 4, 3) := by decide +kernel
theorem dX12_valid_28 : decode cX12_valid 28 = .ok (.iconst 0, 1) := by decide +kernel
theorem dX12_valid_29 : decode cX12_valid 29 = .ok (.iadd, 1) := by decide +kernel
theorem dX12_valid_30 : decode cX12_valid 30 = .ok (.istore_n 2, 1) := by decide +kernel
theorem dX12_valid_31 : decode cX12_valid 31 = .ok (.iinc 3 1, 3) := by decide +kernel
theorem dX12_valid_34 : decode cX12_valid 34 = .ok (.goto (-30), 3) := by decide +kernel
theorem dX12_valid_37 : decode cX12_valid 37 = .ok (.iload_n 2, 1) := by decide +kernel
theorem dX12_valid_38 : decode cX12_valid 38 = .ok (.ireturn, 1) := by decide +kernel
theorem dX12_inForceOn_0 : decode cX12_inForceOn 0 = .ok (.aload_n 0, 1) := by decide +kernel
theorem dX12_inForceOn_1 : decode cX12_inForceOn 1 = .ok (.iconst 0, 1) := by decide +kernel
theorem dX12_inForceOn_2 : decode cX12_inForceOn 2 = .ok (.putfield 45, 3) := by decide +kernel
theorem dX12_inForceOn_5 : decode cX12_inForceOn 5 = .ok (.aload_n 0, 1) := by decide +kernel
theorem dX12_inForceOn_6 : decode cX12_inForceOn 6 = .ok (.iload_n 1, 1) := by decide +kernel
theorem dX12_inForceOn_7 : decode cX12_inForceOn 7 = .ok (.invokevirtual 136, 3) := by decide +kernel
theorem dX12_inForceOn_10 : decode cX12_inForceOn 10 = .ok (.ireturn, 1) := by decide +kernel
theorem dX12_daysUntilLapsed_0 : decode cX12_daysUntilLapsed 0 = .ok (.aload_n 0, 1) := by decide +kernel
theorem dX12_daysUntilLapsed_1 : decode cX12_daysUntilLapsed 1 = .ok (.iload_n 1, 1) := by decide +kernel
theorem dX12_daysUntilLapsed_2 : decode cX12_daysUntilLapsed 2 = .ok (.invokevirtual 133, 3) := by decide +kernel
theorem dX12_daysUntilLapsed_5 : decode cX12_daysUntilLapsed 5 = .ok (.ifCond .eq 7, 3) := by decide +kernel
theorem dX12_daysUntilLapsed_8 : decode cX12_daysUntilLapsed 8 = .ok (.iconst 0, 1) := by decide +kernel
theorem dX12_daysUntilLapsed_9 : decode cX12_daysUntilLapsed 9 = .ok (.goto 26, 3) := by decide +kernel
theorem dX12_daysUntilLapsed_12 : decode cX12_daysUntilLapsed 12 = .ok (.iconst 0, 1) := by decide +kernel
theorem dX12_daysUntilLapsed_13 : decode cX12_daysUntilLapsed 13 = .ok (.aload_n 0, 1) := by decide +kernel
theorem dX12_daysUntilLapsed_14 : decode cX12_daysUntilLapsed 14 = .ok (.aload_n 0, 1) := by decide +kernel
theorem dX12_daysUntilLapsed_15 : decode cX12_daysUntilLapsed 15 = .ok (.iload_n 1, 1) := by decide +kernel
theorem dX12_daysUntilLapsed_16 : decode cX12_daysUntilLapsed 16 = .ok (.invokevirtual 63, 3) := by decide +kernel
theorem dX12_daysUntilLapsed_19 : decode cX12_daysUntilLapsed 19 = .ok (.iconst 3, 1) := by decide +kernel
theorem dX12_daysUntilLapsed_20 : decode cX12_daysUntilLapsed 20 = .ok (.invokevirtual 59, 3) := by decide +kernel
theorem dX12_daysUntilLapsed_23 : decode cX12_daysUntilLapsed 23 = .ok (.aload_n 0, 1) := by decide +kernel
theorem dX12_daysUntilLapsed_24 : decode cX12_daysUntilLapsed 24 = .ok (.getfield 7, 3) := by decide +kernel
theorem dX12_daysUntilLapsed_27 : decode cX12_daysUntilLapsed 27 = .ok (.iconst 2, 1) := by decide +kernel
theorem dX12_daysUntilLapsed_28 : decode cX12_daysUntilLapsed 28 = .ok (.iaload, 1) := by decide +kernel
theorem dX12_daysUntilLapsed_29 : decode cX12_daysUntilLapsed 29 = .ok (.isub, 1) := by decide +kernel
theorem dX12_daysUntilLapsed_30 : decode cX12_daysUntilLapsed 30 = .ok (.iconst 1, 1) := by decide +kernel
theorem dX12_daysUntilLapsed_31 : decode cX12_daysUntilLapsed 31 = .ok (.iadd, 1) := by decide +kernel
theorem dX12_daysUntilLapsed_32 : decode cX12_daysUntilLapsed 32 = .ok (.invokestatic 139, 3) := by decide +kernel
theorem dX12_daysUntilLapsed_35 : decode cX12_daysUntilLapsed 35 = .ok (.ireturn, 1) := by decide +kernel
theorem dX12_length_0 : decode cX12_length 0 = .ok (.aload_n 0, 1) := by decide +kernel
theorem dX12_length_1 : decode cX12_length 1 = .ok (.iload_n 1, 1) := by decide +kernel
theorem dX12_length_2 : decode cX12_length 2 = .ok (.invokevirtual 130, 3) := by decide +kernel
theorem dX12_length_5 : decode cX12_length 5 = .ok (.ifCond .eq 7, 3) := by decide +kernel
theorem dX12_length_8 : decode cX12_length 8 = .ok (.iconst 0, 1) := by decide +kernel
theorem dX12_length_9 : decode cX12_length 9 = .ok (.goto 12, 3) := by decide +kernel
theorem dX12_length_12 : decode cX12_length 12 = .ok (.aload_n 0, 1) := by decide +kernel
theorem dX12_length_13 : decode cX12_length 13 = .ok (.aload_n 0, 1) := by decide +kernel
theorem dX12_length_14 : decode cX12_length 14 = .ok (.iload_n 1, 1) := by decide +kernel
theorem dX12_length_15 : decode cX12_length 15 = .ok (.invokevirtual 63, 3) := by decide +kernel
theorem dX12_length_18 : decode cX12_length 18 = .ok (.invokevirtual 100, 3) := by decide +kernel
theorem dX12_length_21 : decode cX12_length 21 = .ok (.ireturn, 1) := by decide +kernel
theorem dX12_noteAt_0 : decode cX12_noteAt 0 = .ok (.aload_n 0, 1) := by decide +kernel
theorem dX12_noteAt_1 : decode cX12_noteAt 1 = .ok (.iload_n 1, 1) := by decide +kernel
theorem dX12_noteAt_2 : decode cX12_noteAt 2 = .ok (.invokevirtual 63, 3) := by decide +kernel
theorem dX12_noteAt_5 : decode cX12_noteAt 5 = .ok (.istore_n 3, 1) := by decide +kernel
theorem dX12_noteAt_6 : decode cX12_noteAt 6 = .ok (.aload_n 0, 1) := by decide +kernel
theorem dX12_noteAt_7 : decode cX12_noteAt 7 = .ok (.iload_n 3, 1) := by decide +kernel
theorem dX12_noteAt_8 : decode cX12_noteAt 8 = .ok (.ifCond .ge 7, 3) := by decide +kernel
theorem dX12_noteAt_11 : decode cX12_noteAt 11 = .ok (.iconst 1, 1) := by decide +kernel
theorem dX12_noteAt_12 : decode cX12_noteAt 12 = .ok (.goto 23, 3) := by decide +kernel
theorem dX12_noteAt_15 : decode cX12_noteAt 15 = .ok (.iload_n 2, 1) := by decide +kernel
theorem dX12_noteAt_16 : decode cX12_noteAt 16 = .ok (.iconst 0, 1) := by decide +kernel
theorem dX12_noteAt_17 : decode cX12_noteAt 17 = .ok (.aload_n 0, 1) := by decide +kernel
theorem dX12_noteAt_18 : decode cX12_noteAt 18 = .ok (.iload_n 3, 1) := by decide +kernel
theorem dX12_noteAt_19 : decode cX12_noteAt 19 = .ok (.invokevirtual 100, 3) := by decide +kernel
theorem dX12_noteAt_22 : decode cX12_noteAt 22 = .ok (.iconst 1, 1) := by decide +kernel
theorem dX12_noteAt_23 : decode cX12_noteAt 23 = .ok (.isub, 1) := by decide +kernel
theorem dX12_noteAt_24 : decode cX12_noteAt 24 = .ok (.invokestatic 71, 3) := by decide +kernel
theorem dX12_noteAt_27 : decode cX12_noteAt 27 = .ok (.ifCond .eq 7, 3) := by decide +kernel
theorem dX12_noteAt_30 : decode cX12_noteAt 30 = .ok (.iconst 0, 1) := by decide +kernel
theorem dX12_noteAt_31 : decode cX12_noteAt 31 = .ok (.goto 4, 3) := by decide +kernel
theorem dX12_noteAt_34 : decode cX12_noteAt 34 = .ok (.iconst 2, 1) := by decide +kernel
theorem dX12_noteAt_35 : decode cX12_noteAt 35 = .ok (.invokevirtual 67, 3) := by decide +kernel
theorem dX12_noteAt_38 : decode cX12_noteAt 38 = .ok (.ifCond .eq 8, 3) := by decide +kernel
theorem dX12_noteAt_41 : decode cX12_noteAt 41 = .ok (.bipush 32, 2) := by decide +kernel
theorem dX12_noteAt_43 : decode cX12_noteAt 43 = .ok (.goto 15, 3) := by decide +kernel
theorem dX12_noteAt_46 : decode cX12_noteAt 46 = .ok (.aload_n 0, 1) := by decide +kernel
theorem dX12_noteAt_47 : decode cX12_noteAt 47 = .ok (.iload_n 3, 1) := by decide +kernel
theorem dX12_noteAt_48 : decode cX12_noteAt 48 = .ok (.aload_n 0, 1) := by decide +kernel
theorem dX12_noteAt_49 : decode cX12_noteAt 49 = .ok (.iload_n 3, 1) := by decide +kernel
theorem dX12_noteAt_50 : decode cX12_noteAt 50 = .ok (.invokevirtual 93, 3) := by decide +kernel
theorem dX12_noteAt_53 : decode cX12_noteAt 53 = .ok (.iload_n 2, 1) := by decide +kernel
theorem dX12_noteAt_54 : decode cX12_noteAt 54 = .ok (.invokevirtual 109, 3) := by decide +kernel
theorem dX12_noteAt_57 : decode cX12_noteAt 57 = .ok (.i2c, 1) := by decide +kernel
theorem dX12_noteAt_58 : decode cX12_noteAt 58 = .ok (.ireturn, 1) := by decide +kernel
theorem dX12_versionCount_0 : decode cX12_versionCount 0 = .ok (.aload_n 0, 1) := by decide +kernel
theorem dX12_versionCount_1 : decode cX12_versionCount 1 = .ok (.iload_n 1, 1) := by decide +kernel
theorem dX12_versionCount_2 : decode cX12_versionCount 2 = .ok (.invokevirtual 130, 3) := by decide +kernel
theorem dX12_versionCount_5 : decode cX12_versionCount 5 = .ok (.ifCond .eq 7, 3) := by decide +kernel
theorem dX12_versionCount_8 : decode cX12_versionCount 8 = .ok (.iconst 0, 1) := by decide +kernel
theorem dX12_versionCount_9 : decode cX12_versionCount 9 = .ok (.goto 13, 3) := by decide +kernel
theorem dX12_versionCount_12 : decode cX12_versionCount 12 = .ok (.aload_n 0, 1) := by decide +kernel
theorem dX12_versionCount_13 : decode cX12_versionCount 13 = .ok (.aload_n 0, 1) := by decide +kernel
theorem dX12_versionCount_14 : decode cX12_versionCount 14 = .ok (.iload_n 1, 1) := by decide +kernel
theorem dX12_versionCount_15 : decode cX12_versionCount 15 = .ok (.invokevirtual 63, 3) := by decide +kernel
theorem dX12_versionCount_18 : decode cX12_versionCount 18 = .ok (.iconst 4, 1) := by decide +kernel
theorem dX12_versionCount_19 : decode cX12_versionCount 19 = .ok (.invokevirtual 59, 3) := by decide +kernel
theorem dX12_versionCount_22 : decode cX12_versionCount 22 = .ok (.ireturn, 1) := by decide +kernel
theorem dX12_isBlank_0 : decode cX12_isBlank 0 = .ok (.aload_n 0, 1) := by decide +kernel
theorem dX12_isBlank_1 : decode cX12_isBlank 1 = .ok (.aload_n 0, 1) := by decide +kernel
theorem dX12_isBlank_2 : decode cX12_isBlank 2 = .ok (.iload_n 1, 1) := by decide +kernel
theorem dX12_isBlank_3 : decode cX12_isBlank 3 = .ok (.invokevirtual 63, 3) := by decide +kernel
theorem dX12_isBlank_6 : decode cX12_isBlank 6 = .ok (.ifCond .lt 16, 3) := by decide +kernel
theorem dX12_isBlank_9 : decode cX12_isBlank 9 = .ok (.aload_n 0, 1) := by decide +kernel
theorem dX12_isBlank_10 : decode cX12_isBlank 10 = .ok (.aload_n 0, 1) := by decide +kernel
theorem dX12_isBlank_11 : decode cX12_isBlank 11 = .ok (.iload_n 1, 1) := by decide +kernel
theorem dX12_isBlank_12 : decode cX12_isBlank 12 = .ok (.invokevirtual 63, 3) := by decide +kernel
theorem dX12_isBlank_15 : decode cX12_isBlank 15 = .ok (.iload_n 2, 1) := by decide +kernel
theorem dX12_isBlank_16 : decode cX12_isBlank 16 = .ok (.invokevirtual 142, 3) := by decide +kernel
theorem dX12_isBlank_19 : decode cX12_isBlank 19 = .ok (.ifCond .ge 7, 3) := by decide +kernel
theorem dX12_isBlank_22 : decode cX12_isBlank 22 = .ok (.iconst 1, 1) := by decide +kernel
theorem dX12_isBlank_23 : decode cX12_isBlank 23 = .ok (.goto 4, 3) := by decide +kernel
theorem dX12_isBlank_26 : decode cX12_isBlank 26 = .ok (.iconst 0, 1) := by decide +kernel
theorem dX12_isBlank_27 : decode cX12_isBlank 27 = .ok (.invokevirtual 67, 3) := by decide +kernel
theorem dX12_isBlank_30 : decode cX12_isBlank 30 = .ok (.ireturn, 1) := by decide +kernel
theorem dX12_lengthOn_0 : decode cX12_lengthOn 0 = .ok (.aload_n 0, 1) := by decide +kernel
theorem dX12_lengthOn_1 : decode cX12_lengthOn 1 = .ok (.iload_n 1, 1) := by decide +kernel
theorem dX12_lengthOn_2 : decode cX12_lengthOn 2 = .ok (.iload_n 2, 1) := by decide +kernel
theorem dX12_lengthOn_3 : decode cX12_lengthOn 3 = .ok (.invokevirtual 145, 3) := by decide +kernel
theorem dX12_lengthOn_6 : decode cX12_lengthOn 6 = .ok (.ifCond .eq 7, 3) := by decide +kernel
theorem dX12_lengthOn_9 : decode cX12_lengthOn 9 = .ok (.iconst 0, 1) := by decide +kernel
theorem dX12_lengthOn_10 : decode cX12_lengthOn 10 = .ok (.goto 24, 3) := by decide +kernel
theorem dX12_lengthOn_13 : decode cX12_lengthOn 13 = .ok (.aload_n 0, 1) := by decide +kernel
theorem dX12_lengthOn_14 : decode cX12_lengthOn 14 = .ok (.aload_n 0, 1) := by decide +kernel
theorem dX12_lengthOn_15 : decode cX12_lengthOn 15 = .ok (.iload_n 1, 1) := by decide +kernel
theorem dX12_lengthOn_16 : decode cX12_lengthOn 16 = .ok (.invokevirtual 63, 3) := by decide +kernel
theorem dX12_lengthOn_19 : decode cX12_lengthOn 19 = .ok (.aload_n 0, 1) := by decide +kernel
theorem dX12_lengthOn_20 : decode cX12_lengthOn 20 = .ok (.aload_n 0, 1) := by decide +kernel
theorem dX12_lengthOn_21 : decode cX12_lengthOn 21 = .ok (.iload_n 1, 1) := by decide +kernel
theorem dX12_lengthOn_22 : decode cX12_lengthOn 22 = .ok (.invokevirtual 63, 3) := by decide +kernel
theorem dX12_lengthOn_25 : decode cX12_lengthOn 25 = .ok (.iload_n 2, 1) := by decide +kernel
theorem dX12_lengthOn_26 : decode cX12_lengthOn 26 = .ok (.invokevirtual 142, 3) := by decide +kernel
theorem dX12_lengthOn_29 : decode cX12_lengthOn 29 = .ok (.iconst 1, 1) := by decide +kernel
theorem dX12_lengthOn_30 : decode cX12_lengthOn 30 = .ok (.iadd, 1) := by decide +kernel
theorem dX12_lengthOn_31 : decode cX12_lengthOn 31 = .ok (.invokevirtual 59, 3) := by decide +kernel
theorem dX12_lengthOn_34 : decode cX12_lengthOn 34 = .ok (.ireturn, 1) := by decide +kernel
theorem dX12_noteOn_0 : decode cX12_noteOn 0 = .ok (.aload_n 0, 1) := by decide +kernel
theorem dX12_noteOn_1 : decode cX12_noteOn 1 = .ok (.iload_n 1, 1) := by decide +kernel
theorem dX12_noteOn_2 : decode cX12_noteOn 2 = .ok (.iload_n 2, 1) := by decide +kernel
theorem dX12_noteOn_3 : decode cX12_noteOn 3 = .ok (.invokevirtual 145, 3) := by decide +kernel
theorem dX12_noteOn_6 : decode cX12_noteOn 6 = .ok (.ifCond .eq 6, 3) := by decide +kernel
theorem dX12_noteOn_9 : decode cX12_noteOn 9 = .ok (.bipush 32, 2) := by decide +kernel
theorem dX12_noteOn_11 : decode cX12_noteOn 11 = .ok (.ireturn, 1) := by decide +kernel
theorem dX12_noteOn_12 : decode cX12_noteOn 12 = .ok (.aload_n 0, 1) := by decide +kernel
theorem dX12_noteOn_13 : decode cX12_noteOn 13 = .ok (.iload_n 1, 1) := by decide +kernel
theorem dX12_noteOn_14 : decode cX12_noteOn 14 = .ok (.invokevirtual 63, 3) := by decide +kernel
theorem dX12_noteOn_17 : decode cX12_noteOn 17 = .ok (.istore 4, 2) := by decide +kernel
theorem dX12_noteOn_19 : decode cX12_noteOn 19 = .ok (.aload_n 0, 1) := by decide +kernel
theorem dX12_noteOn_20 : decode cX12_noteOn 20 = .ok (.iload 4, 2) := by decide +kernel
theorem dX12_noteOn_22 : decode cX12_noteOn 22 = .ok (.iload_n 2, 1) := by decide +kernel
theorem dX12_noteOn_23 : decode cX12_noteOn 23 = .ok (.invokevirtual 142, 3) := by decide +kernel
theorem dX12_noteOn_26 : decode cX12_noteOn 26 = .ok (.istore 5, 2) := by decide +kernel
theorem dX12_noteOn_28 : decode cX12_noteOn 28 = .ok (.aload_n 0, 1) := by decide +kernel
theorem dX12_noteOn_29 : decode cX12_noteOn 29 = .ok (.iload_n 3, 1) := by decide +kernel
theorem dX12_noteOn_30 : decode cX12_noteOn 30 = .ok (.iconst 0, 1) := by decide +kernel
theorem dX12_noteOn_31 : decode cX12_noteOn 31 = .ok (.aload_n 0, 1) := by decide +kernel
theorem dX12_noteOn_32 : decode cX12_noteOn 32 = .ok (.iload 4, 2) := by decide +kernel
theorem dX12_noteOn_34 : decode cX12_noteOn 34 = .ok (.iload 5, 2) := by decide +kernel
theorem dX12_noteOn_36 : decode cX12_noteOn 36 = .ok (.iconst 1, 1) := by decide +kernel
theorem dX12_noteOn_37 : decode cX12_noteOn 37 = .ok (.iadd, 1) := by decide +kernel
theorem dX12_noteOn_38 : decode cX12_noteOn 38 = .ok (.invokevirtual 59, 3) := by decide +kernel
theorem dX12_noteOn_41 : decode cX12_noteOn 41 = .ok (.iconst 1, 1) := by decide +kernel
theorem dX12_noteOn_42 : decode cX12_noteOn 42 = .ok (.isub, 1) := by decide +kernel
theorem dX12_noteOn_43 : decode cX12_noteOn 43 = .ok (.invokestatic 71, 3) := by decide +kernel
theorem dX12_noteOn_46 : decode cX12_noteOn 46 = .ok (.ifCond .eq 7, 3) := by decide +kernel
theorem dX12_noteOn_49 : decode cX12_noteOn 49 = .ok (.iconst 0, 1) := by decide +kernel
theorem dX12_noteOn_50 : decode cX12_noteOn 50 = .ok (.goto 4, 3) := by decide +kernel
theorem dX12_noteOn_53 : decode cX12_noteOn 53 = .ok (.iconst 2, 1) := by decide +kernel
theorem dX12_noteOn_54 : decode cX12_noteOn 54 = .ok (.invokevirtual 67, 3) := by decide +kernel
theorem dX12_noteOn_57 : decode cX12_noteOn 57 = .ok (.ifCond .eq 8, 3) := by decide +kernel
theorem dX12_noteOn_60 : decode cX12_noteOn 60 = .ok (.bipush 32, 2) := by decide +kernel
theorem dX12_noteOn_62 : decode cX12_noteOn 62 = .ok (.goto 13, 3) := by decide +kernel
theorem dX12_noteOn_65 : decode cX12_noteOn 65 = .ok (.aload_n 0, 1) := by decide +kernel
theorem dX12_noteOn_66 : decode cX12_noteOn 66 = .ok (.iload 4, 2) := by decide +kernel
theorem dX12_noteOn_68 : decode cX12_noteOn 68 = .ok (.iload 5, 2) := by decide +kernel
theorem dX12_noteOn_70 : decode cX12_noteOn 70 = .ok (.iload_n 3, 1) := by decide +kernel
theorem dX12_noteOn_71 : decode cX12_noteOn 71 = .ok (.invokevirtual 109, 3) := by decide +kernel
theorem dX12_noteOn_74 : decode cX12_noteOn 74 = .ok (.i2c, 1) := by decide +kernel
theorem dX12_noteOn_75 : decode cX12_noteOn 75 = .ok (.ireturn, 1) := by decide +kernel
theorem dX12_apart_0 : decode cX12_apart 0 = .ok (.aload_n 0, 1) := by decide +kernel
theorem dX12_apart_1 : decode cX12_apart 1 = .ok (.iload_n 1, 1) := by decide +kernel
theorem dX12_apart_2 : decode cX12_apart 2 = .ok (.iload_n 2, 1) := by decide +kernel
theorem dX12_apart_3 : decode cX12_apart 3 = .ok (.invokevirtual 145, 3) := by decide +kernel
theorem dX12_apart_6 : decode cX12_apart 6 = .ok (.ifCond .ne 12, 3) := by decide +kernel
theorem dX12_apart_9 : decode cX12_apart 9 = .ok (.aload_n 0, 1) := by decide +kernel
theorem dX12_apart_10 : decode cX12_apart 10 = .ok (.iload_n 1, 1) := by decide +kernel
theorem dX12_apart_11 : decode cX12_apart 11 = .ok (.iload_n 3, 1) := by decide +kernel
theorem dX12_apart_12 : decode cX12_apart 12 = .ok (.invokevirtual 145, 3) := by decide +kernel
theorem dX12_apart_15 : decode cX12_apart 15 = .ok (.ifCond .eq 5, 3) := by decide +kernel
theorem dX12_apart_18 : decode cX12_apart 18 = .ok (.iconst 0, 1) := by decide +kernel
theorem dX12_apart_19 : decode cX12_apart 19 = .ok (.ireturn, 1) := by decide +kernel
theorem dX12_apart_20 : decode cX12_apart 20 = .ok (.aload_n 0, 1) := by decide +kernel
theorem dX12_apart_21 : decode cX12_apart 21 = .ok (.iload_n 1, 1) := by decide +kernel
theorem dX12_apart_22 : decode cX12_apart 22 = .ok (.invokevirtual 63, 3) := by decide +kernel
theorem dX12_apart_25 : decode cX12_apart 25 = .ok (.istore 4, 2) := by decide +kernel
theorem dX12_apart_27 : decode cX12_apart 27 = .ok (.aload_n 0, 1) := by decide +kernel
theorem dX12_apart_28 : decode cX12_apart 28 = .ok (.iload 4, 2) := by decide +kernel
theorem dX12_apart_30 : decode cX12_apart 30 = .ok (.iload_n 2, 1) := by decide +kernel
theorem dX12_apart_31 : decode cX12_apart 31 = .ok (.invokevirtual 142, 3) := by decide +kernel
theorem dX12_apart_34 : decode cX12_apart 34 = .ok (.istore 5, 2) := by decide +kernel
theorem dX12_apart_36 : decode cX12_apart 36 = .ok (.aload_n 0, 1) := by decide +kernel
theorem dX12_apart_37 : decode cX12_apart 37 = .ok (.iload 4, 2) := by decide +kernel
theorem dX12_apart_39 : decode cX12_apart 39 = .ok (.iload_n 3, 1) := by decide +kernel
theorem dX12_apart_40 : decode cX12_apart 40 = .ok (.invokevirtual 142, 3) := by decide +kernel
theorem dX12_apart_43 : decode cX12_apart 43 = .ok (.istore 6, 2) := by decide +kernel
theorem dX12_apart_45 : decode cX12_apart 45 = .ok (.iconst 0, 1) := by decide +kernel
theorem dX12_apart_46 : decode cX12_apart 46 = .ok (.istore 7, 2) := by decide +kernel
theorem dX12_apart_48 : decode cX12_apart 48 = .ok (.iload 7, 2) := by decide +kernel
theorem dX12_apart_50 : decode cX12_apart 50 = .ok (.bipush 13, 2) := by decide +kernel
theorem dX12_apart_52 : decode cX12_apart 52 = .ok (.if_icmp .ge 17, 3) := by decide +kernel
theorem dX12_apart_55 : decode cX12_apart 55 = .ok (.aload_n 0, 1) := by decide +kernel
theorem dX12_apart_56 : decode cX12_apart 56 = .ok (.getfield 39, 3) := by decide +kernel
theorem dX12_apart_59 : decode cX12_apart 59 = .ok (.iload 7, 2) := by decide +kernel
theorem dX12_apart_61 : decode cX12_apart 61 = .ok (.iconst 0, 1) := by decide +kernel
theorem dX12_apart_62 : decode cX12_apart 62 = .ok (.iastore, 1) := by decide +kernel
theorem dX12_apart_63 : decode cX12_apart 63 = .ok (.iinc 7 1, 3) := by decide +kernel
theorem dX12_apart_66 : decode cX12_apart 66 = .ok (.goto (-18), 3) := by decide +kernel
theorem dX12_apart_69 : decode cX12_apart 69 = .ok (.iconst 0, 1) := by decide +kernel
theorem dX12_apart_70 : decode cX12_apart 70 = .ok (.istore 7, 2) := by decide +kernel
theorem dX12_apart_72 : decode cX12_apart 72 = .ok (.iload 7, 2) := by decide +kernel
theorem dX12_apart_74 : decode cX12_apart 74 = .ok (.aload_n 0, 1) := by decide +kernel
theorem dX12_apart_75 : decode cX12_apart 75 = .ok (.iload 4, 2) := by decide +kernel
theorem dX12_apart_77 : decode cX12_apart 77 = .ok (.iload 5, 2) := by decide +kernel
theorem dX12_apart_79 : decode cX12_apart 79 = .ok (.iconst 1, 1) := by decide +kernel
theorem dX12_apart_80 : decode cX12_apart 80 = .ok (.iadd, 1) := by decide +kernel
theorem dX12_apart_81 : decode cX12_apart 81 = .ok (.invokevirtual 59, 3) := by decide +kernel
theorem dX12_apart_84 : decode cX12_apart 84 = .ok (.if_icmp .ge 102, 3) := by decide +kernel
theorem dX12_apart_87 : decode cX12_apart 87 = .ok (.iconst 0, 1) := by decide +kernel
theorem dX12_apart_88 : decode cX12_apart 88 = .ok (.istore 8, 2) := by decide +kernel
theorem dX12_apart_90 : decode cX12_apart 90 = .ok (.iconst 0, 1) := by decide +kernel
theorem dX12_apart_91 : decode cX12_apart 91 = .ok (.istore 9, 2) := by decide +kernel
theorem dX12_apart_93 : decode cX12_apart 93 = .ok (.iload 9, 2) := by decide +kernel
theorem dX12_apart_95 : decode cX12_apart 95 = .ok (.aload_n 0, 1) := by decide +kernel
theorem dX12_apart_96 : decode cX12_apart 96 = .ok (.iload 4, 2) := by decide +kernel
theorem dX12_apart_98 : decode cX12_apart 98 = .ok (.iload 6, 2) := by decide +kernel
theorem dX12_apart_100 : decode cX12_apart 100 = .ok (.iconst 1, 1) := by decide +kernel
theorem dX12_apart_101 : decode cX12_apart 101 = .ok (.iadd, 1) := by decide +kernel
theorem dX12_apart_102 : decode cX12_apart 102 = .ok (.invokevirtual 59, 3) := by decide +kernel
theorem dX12_apart_105 : decode cX12_apart 105 = .ok (.if_icmp .ge 75, 3) := by decide +kernel
theorem dX12_apart_108 : decode cX12_apart 108 = .ok (.aload_n 0, 1) := by decide +kernel
theorem dX12_apart_109 : decode cX12_apart 109 = .ok (.getfield 39, 3) := by decide +kernel
theorem dX12_apart_112 : decode cX12_apart 112 = .ok (.iload 9, 2) := by decide +kernel
theorem dX12_apart_114 : decode cX12_apart 114 = .ok (.iconst 1, 1) := by decide +kernel
theorem dX12_apart_115 : decode cX12_apart 115 = .ok (.iadd, 1) := by decide +kernel
theorem dX12_apart_116 : decode cX12_apart 116 = .ok (.iaload, 1) := by decide +kernel
theorem dX12_apart_117 : decode cX12_apart 117 = .ok (.istore 10, 2) := by decide +kernel
theorem dX12_apart_119 : decode cX12_apart 119 = .ok (.aload_n 0, 1) := by decide +kernel
theorem dX12_apart_120 : decode cX12_apart 120 = .ok (.getfield 39, 3) := by decide +kernel
theorem dX12_apart_123 : decode cX12_apart 123 = .ok (.iload 9, 2) := by decide +kernel
theorem dX12_apart_125 : decode cX12_apart 125 = .ok (.iconst 1, 1) := by decide +kernel
theorem dX12_apart_126 : decode cX12_apart 126 = .ok (.iadd, 1) := by decide +kernel
theorem dX12_apart_127 : decode cX12_apart 127 = .ok (.aload_n 0, 1) := by decide +kernel
theorem dX12_apart_128 : decode cX12_apart 128 = .ok (.iload 4, 2) := by decide +kernel
theorem dX12_apart_130 : decode cX12_apart 130 = .ok (.iload 5, 2) := by decide +kernel
theorem dX12_apart_132 : decode cX12_apart 132 = .ok (.iload 7, 2) := by decide +kernel
theorem dX12_apart_134 : decode cX12_apart 134 = .ok (.invokevirtual 109, 3) := by decide +kernel
theorem dX12_apart_137 : decode cX12_apart 137 = .ok (.aload_n 0, 1) := by decide +kernel
theorem dX12_apart_138 : decode cX12_apart 138 = .ok (.iload 4, 2) := by decide +kernel
theorem dX12_apart_140 : decode cX12_apart 140 = .ok (.iload 6, 2) := by decide +kernel
theorem dX12_apart_142 : decode cX12_apart 142 = .ok (.iload 9, 2) := by decide +kernel
theorem dX12_apart_144 : decode cX12_apart 144 = .ok (.invokevirtual 109, 3) := by decide +kernel
theorem dX12_apart_147 : decode cX12_apart 147 = .ok (.if_icmp .ne 10, 3) := by decide +kernel
theorem dX12_apart_150 : decode cX12_apart 150 = .ok (.iload 8, 2) := by decide +kernel
theorem dX12_apart_152 : decode cX12_apart 152 = .ok (.iconst 1, 1) := by decide +kernel
theorem dX12_apart_153 : decode cX12_apart 153 = .ok (.iadd, 1) := by decide +kernel
theorem dX12_apart_154 : decode cX12_apart 154 = .ok (.goto 15, 3) := by decide +kernel
theorem dX12_apart_157 : decode cX12_apart 157 = .ok (.iload 10, 2) := by decide +kernel
theorem dX12_apart_159 : decode cX12_apart 159 = .ok (.aload_n 0, 1) := by decide +kernel
theorem dX12_apart_160 : decode cX12_apart 160 = .ok (.getfield 39, 3) := by decide +kernel
theorem dX12_apart_163 : decode cX12_apart 163 = .ok (.iload 9, 2) := by decide +kernel
theorem dX12_apart_165 : decode cX12_apart 165 = .ok (.iaload, 1) := by decide +kernel
theorem dX12_apart_166 : decode cX12_apart 166 = .ok (.invokestatic 139, 3) := by decide +kernel
theorem dX12_apart_169 : decode cX12_apart 169 = .ok (.iastore, 1) := by decide +kernel
theorem dX12_apart_170 : decode cX12_apart 170 = .ok (.iload 10, 2) := by decide +kernel
theorem dX12_apart_172 : decode cX12_apart 172 = .ok (.istore 8, 2) := by decide +kernel
theorem dX12_apart_174 : decode cX12_apart 174 = .ok (.iinc 9 1, 3) := by decide +kernel
theorem dX12_apart_177 : decode cX12_apart 177 = .ok (.goto (-84), 3) := by decide +kernel
theorem dX12_apart_180 : decode cX12_apart 180 = .ok (.iinc 7 1, 3) := by decide +kernel
theorem dX12_apart_183 : decode cX12_apart 183 = .ok (.goto (-111), 3) := by decide +kernel
theorem dX12_apart_186 : decode cX12_apart 186 = .ok (.aload_n 0, 1) := by decide +kernel
theorem dX12_apart_187 : decode cX12_apart 187 = .ok (.iload 4, 2) := by decide +kernel
theorem dX12_apart_189 : decode cX12_apart 189 = .ok (.iload 5, 2) := by decide +kernel
theorem dX12_apart_191 : decode cX12_apart 191 = .ok (.iconst 1, 1) := by decide +kernel
theorem dX12_apart_192 : decode cX12_apart 192 = .ok (.iadd, 1) := by decide +kernel
theorem dX12_apart_193 : decode cX12_apart 193 = .ok (.invokevirtual 59, 3) := by decide +kernel
theorem dX12_apart_196 : decode cX12_apart 196 = .ok (.aload_n 0, 1) := by decide +kernel
theorem dX12_apart_197 : decode cX12_apart 197 = .ok (.iload 4, 2) := by decide +kernel
theorem dX12_apart_199 : decode cX12_apart 199 = .ok (.iload 6, 2) := by decide +kernel
theorem dX12_apart_201 : decode cX12_apart 201 = .ok (.iconst 1, 1) := by decide +kernel
theorem dX12_apart_202 : decode cX12_apart 202 = .ok (.iadd, 1) := by decide +kernel
theorem dX12_apart_203 : decode cX12_apart 203 = .ok (.invokevirtual 59, 3) := by decide +kernel
theorem dX12_apart_206 : decode cX12_apart 206 = .ok (.iadd, 1) := by decide +kernel
theorem dX12_apart_207 : decode cX12_apart 207 = .ok (.iconst 2, 1) := by decide +kernel
theorem dX12_apart_208 : decode cX12_apart 208 = .ok (.aload_n 0, 1) := by decide +kernel
theorem dX12_apart_209 : decode cX12_apart 209 = .ok (.getfield 39, 3) := by decide +kernel
theorem dX12_apart_212 : decode cX12_apart 212 = .ok (.aload_n 0, 1) := by decide +kernel
theorem dX12_apart_213 : decode cX12_apart 213 = .ok (.iload 4, 2) := by decide +kernel
theorem dX12_apart_215 : decode cX12_apart 215 = .ok (.iload 6, 2) := by decide +kernel
theorem dX12_apart_217 : decode cX12_apart 217 = .ok (.iconst 1, 1) := by decide +kernel
theorem dX12_apart_218 : decode cX12_apart 218 = .ok (.iadd, 1) := by decide +kernel
theorem dX12_apart_219 : decode cX12_apart 219 = .ok (.invokevirtual 59, 3) := by decide +kernel
theorem dX12_apart_222 : decode cX12_apart 222 = .ok (.iaload, 1) := by decide +kernel
theorem dX12_apart_223 : decode cX12_apart 223 = .ok (.imul, 1) := by decide +kernel
theorem dX12_apart_224 : decode cX12_apart 224 = .ok (.isub, 1) := by decide +kernel
theorem dX12_apart_225 : decode cX12_apart 225 = .ok (.ireturn, 1) := by decide +kernel
theorem dX12_difference_0 : decode cX12_difference 0 = .ok (.aload_n 0, 1) := by decide +kernel
theorem dX12_difference_1 : decode cX12_difference 1 = .ok (.iload_n 1, 1) := by decide +kernel
theorem dX12_difference_2 : decode cX12_difference 2 = .ok (.iload_n 2, 1) := by decide +kernel
theorem dX12_difference_3 : decode cX12_difference 3 = .ok (.iload_n 3, 1) := by decide +kernel
theorem dX12_difference_4 : decode cX12_difference 4 = .ok (.invokevirtual 148, 3) := by decide +kernel
theorem dX12_difference_7 : decode cX12_difference 7 = .ok (.ireturn, 1) := by decide +kernel
theorem dX12_differenceByEnds_0 : decode cX12_differenceByEnds 0 = .ok (.aload_n 0, 1) := by decide +kernel
theorem dX12_differenceByEnds_1 : decode cX12_differenceByEnds 1 = .ok (.iload_n 1, 1) := by decide +kernel
theorem dX12_differenceByEnds_2 : decode cX12_differenceByEnds 2 = .ok (.iload_n 2, 1) := by decide +kernel
theorem dX12_differenceByEnds_3 : decode cX12_differenceByEnds 3 = .ok (.iload_n 3, 1) := by decide +kernel
theorem dX12_differenceByEnds_4 : decode cX12_differenceByEnds 4 = .ok (.invokevirtual 148, 3) := by decide +kernel
theorem dX12_differenceByEnds_7 : decode cX12_differenceByEnds 7 = .ok (.ireturn, 1) := by decide +kernel
theorem dX12_areAlike_0 : decode cX12_areAlike 0 = .ok (.aload_n 0, 1) := by decide +kernel
theorem dX12_areAlike_1 : decode cX12_areAlike 1 = .ok (.iload_n 1, 1) := by decide +kernel
theorem dX12_areAlike_2 : decode cX12_areAlike 2 = .ok (.invokevirtual 100, 3) := by decide +kernel
theorem dX12_areAlike_5 : decode cX12_areAlike 5 = .ok (.aload_n 0, 1) := by decide +kernel
theorem dX12_areAlike_6 : decode cX12_areAlike 6 = .ok (.iload_n 2, 1) := by decide +kernel
theorem dX12_areAlike_7 : decode cX12_areAlike 7 = .ok (.invokevirtual 100, 3) := by decide +kernel
theorem dX12_areAlike_10 : decode cX12_areAlike 10 = .ok (.if_icmp .eq 5, 3) := by decide +kernel
theorem dX12_areAlike_13 : decode cX12_areAlike 13 = .ok (.iconst 0, 1) := by decide +kernel
theorem dX12_areAlike_14 : decode cX12_areAlike 14 = .ok (.ireturn, 1) := by decide +kernel
theorem dX12_areAlike_15 : decode cX12_areAlike 15 = .ok (.iconst 0, 1) := by decide +kernel
theorem dX12_areAlike_16 : decode cX12_areAlike 16 = .ok (.istore_n 3, 1) := by decide +kernel
theorem dX12_areAlike_17 : decode cX12_areAlike 17 = .ok (.iload_n 3, 1) := by decide +kernel
theorem dX12_areAlike_18 : decode cX12_areAlike 18 = .ok (.aload_n 0, 1) := by decide +kernel
theorem dX12_areAlike_19 : decode cX12_areAlike 19 = .ok (.iload_n 1, 1) := by decide +kernel
theorem dX12_areAlike_20 : decode cX12_areAlike 20 = .ok (.invokevirtual 100, 3) := by decide +kernel
theorem dX12_areAlike_23 : decode cX12_areAlike 23 = .ok (.if_icmp .ge 36, 3) := by decide +kernel
theorem dX12_areAlike_26 : decode cX12_areAlike 26 = .ok (.aload_n 0, 1) := by decide +kernel
theorem dX12_areAlike_27 : decode cX12_areAlike 27 = .ok (.iload_n 1, 1) := by decide +kernel
theorem dX12_areAlike_28 : decode cX12_areAlike 28 = .ok (.aload_n 0, 1) := by decide +kernel
theorem dX12_areAlike_29 : decode cX12_areAlike 29 = .ok (.iload_n 1, 1) := by decide +kernel
theorem dX12_areAlike_30 : decode cX12_areAlike 30 = .ok (.invokevirtual 93, 3) := by decide +kernel
theorem dX12_areAlike_33 : decode cX12_areAlike 33 = .ok (.iload_n 3, 1) := by decide +kernel
theorem dX12_areAlike_34 : decode cX12_areAlike 34 = .ok (.invokevirtual 109, 3) := by decide +kernel
theorem dX12_areAlike_37 : decode cX12_areAlike 37 = .ok (.aload_n 0, 1) := by decide +kernel
theorem dX12_areAlike_38 : decode cX12_areAlike 38 = .ok (.iload_n 2, 1) := by decide +kernel
theorem dX12_areAlike_39 : decode cX12_areAlike 39 = .ok (.aload_n 0, 1) := by decide +kernel
theorem dX12_areAlike_40 : decode cX12_areAlike 40 = .ok (.iload_n 2, 1) := by decide +kernel
theorem dX12_areAlike_41 : decode cX12_areAlike 41 = .ok (.invokevirtual 93, 3) := by decide +kernel
theorem dX12_areAlike_44 : decode cX12_areAlike 44 = .ok (.iload_n 3, 1) := by decide +kernel
theorem dX12_areAlike_45 : decode cX12_areAlike 45 = .ok (.invokevirtual 109, 3) := by decide +kernel
theorem dX12_areAlike_48 : decode cX12_areAlike 48 = .ok (.if_icmp .eq 5, 3) := by decide +kernel
theorem dX12_areAlike_51 : decode cX12_areAlike 51 = .ok (.iconst 0, 1) := by decide +kernel
theorem dX12_areAlike_52 : decode cX12_areAlike 52 = .ok (.ireturn, 1) := by decide +kernel
theorem dX12_areAlike_53 : decode cX12_areAlike 53 = .ok (.iinc 3 1, 3) := by decide +kernel
theorem dX12_areAlike_56 : decode cX12_areAlike 56 = .ok (.goto (-39), 3) := by decide +kernel
theorem dX12_areAlike_59 : decode cX12_areAlike 59 = .ok (.iconst 1, 1) := by decide +kernel
theorem dX12_areAlike_60 : decode cX12_areAlike 60 = .ok (.ireturn, 1) := by decide +kernel
theorem dX12_pairs_0 : decode cX12_pairs 0 = .ok (.aload_n 0, 1) := by decide +kernel
theorem dX12_pairs_1 : decode cX12_pairs 1 = .ok (.iconst 0, 1) := by decide +kernel
theorem dX12_pairs_2 : decode cX12_pairs 2 = .ok (.putfield 45, 3) := by decide +kernel
theorem dX12_pairs_5 : decode cX12_pairs 5 = .ok (.iconst 0, 1) := by decide +kernel
theorem dX12_pairs_6 : decode cX12_pairs 6 = .ok (.istore_n 1, 1) := by decide +kernel
theorem dX12_pairs_7 : decode cX12_pairs 7 = .ok (.iconst 0, 1) := by decide +kernel
theorem dX12_pairs_8 : decode cX12_pairs 8 = .ok (.istore_n 2, 1) := by decide +kernel
theorem dX12_pairs_9 : decode cX12_pairs 9 = .ok (.iload_n 2, 1) := by decide +kernel
theorem dX12_pairs_10 : decode cX12_pairs 10 = .ok (.aload_n 0, 1) := by decide +kernel
theorem dX12_pairs_11 : decode cX12_pairs 11 = .ok (.getfield 7, 3) := by decide +kernel
theorem dX12_pairs_14 : decode cX12_pairs 14 = .ok (.iconst 0, 1) := by decide +kernel
theorem dX12_pairs_15 : decode cX12_pairs 15 = .ok (.iaload, 1) := by decide +kernel
theorem dX12_pairs_16 : decode cX12_pairs 16 = .ok (.if_icmp .ge 39, 3) := by decide +kernel
theorem dX12_pairs_19 : decode cX12_pairs 19 = .ok (.iconst 0, 1) := by decide +kernel
theorem dX12_pairs_20 : decode cX12_pairs 20 = .ok (.istore_n 3, 1) := by decide +kernel
theorem dX12_pairs_21 : decode cX12_pairs 21 = .ok (.iload_n 3, 1) := by decide +kernel
theorem dX12_pairs_22 : decode cX12_pairs 22 = .ok (.iload_n 2, 1) := by decide +kernel
theorem dX12_pairs_23 : decode cX12_pairs 23 = .ok (.if_icmp .ge 26, 3) := by decide +kernel
theorem dX12_pairs_26 : decode cX12_pairs 26 = .ok (.iload_n 1, 1) := by decide +kernel
theorem dX12_pairs_27 : decode cX12_pairs 27 = .ok (.aload_n 0, 1) := by decide +kernel
theorem dX12_pairs_28 : decode cX12_pairs 28 = .ok (.iload_n 2, 1) := by decide +kernel
theorem dX12_pairs_29 : decode cX12_pairs 29 = .ok (.iload_n 3, 1) := by decide +kernel
theorem dX12_pairs_30 : decode cX12_pairs 30 = .ok (.invokevirtual 151, 3) := by decide +kernel
theorem dX12_pairs_33 : decode cX12_pairs 33 = .ok (.ifCond .eq 7, 3) := by decide +kernel
theorem dX12_pairs_36 : decode cX12_pairs 36 = .ok (.iconst 1, 1) := by decide +kernel
theorem dX12_pairs_37 : decode cX12_pairs 37 = .ok (.goto 4, 3) := by decide +kernel
theorem dX12_pairs_40 : decode cX12_pairs 40 = .ok (.iconst 0, 1) := by decide +kernel
theorem dX12_pairs_41 : decode cX12_pairs 41 = .ok (.iadd, 1) := by decide +kernel
theorem dX12_pairs_42 : decode cX12_pairs 42 = .ok (.istore_n 1, 1) := by decide +kernel
theorem dX12_pairs_43 : decode cX12_pairs 43 = .ok (.iinc 3 1, 3) := by decide +kernel
theorem dX12_pairs_46 : decode cX12_pairs 46 = .ok (.goto (-25), 3) := by decide +kernel
theorem dX12_pairs_49 : decode cX12_pairs 49 = .ok (.iinc 2 1, 3) := by decide +kernel
theorem dX12_pairs_52 : decode cX12_pairs 52 = .ok (.goto (-43), 3) := by decide +kernel
theorem dX12_pairs_55 : decode cX12_pairs 55 = .ok (.iload_n 1, 1) := by decide +kernel
theorem dX12_pairs_56 : decode cX12_pairs 56 = .ok (.ireturn, 1) := by decide +kernel
theorem dX12_duplicatePairs_0 : decode cX12_duplicatePairs 0 = .ok (.aload_n 0, 1) := by decide +kernel
theorem dX12_duplicatePairs_1 : decode cX12_duplicatePairs 1 = .ok (.invokevirtual 154, 3) := by decide +kernel
theorem dX12_duplicatePairs_4 : decode cX12_duplicatePairs 4 = .ok (.ireturn, 1) := by decide +kernel
theorem dX12_duplicatePairsByComparing_0 : decode cX12_duplicatePairsByComparing 0 = .ok (.aload_n 0, 1) := by decide +kernel
theorem dX12_duplicatePairsByComparing_1 : decode cX12_duplicatePairsByComparing 1 = .ok (.invokevirtual 154, 3) := by decide +kernel
theorem dX12_duplicatePairsByComparing_4 : decode cX12_duplicatePairsByComparing 4 = .ok (.ireturn, 1) := by decide +kernel
theorem dX12_citeCount_0 : decode cX12_citeCount 0 = .ok (.aload_n 0, 1) := by decide +kernel
theorem dX12_citeCount_1 : decode cX12_citeCount 1 = .ok (.iload_n 1, 1) := by decide +kernel
theorem dX12_citeCount_2 : decode cX12_citeCount 2 = .ok (.invokevirtual 130, 3) := by decide +kernel
theorem dX12_citeCount_5 : decode cX12_citeCount 5 = .ok (.ifCond .eq 7, 3) := by decide +kernel
theorem dX12_citeCount_8 : decode cX12_citeCount 8 = .ok (.iconst 0, 1) := by decide +kernel
theorem dX12_citeCount_9 : decode cX12_citeCount 9 = .ok (.goto 14, 3) := by decide +kernel
theorem dX12_citeCount_12 : decode cX12_citeCount 12 = .ok (.aload_n 0, 1) := by decide +kernel
theorem dX12_citeCount_13 : decode cX12_citeCount 13 = .ok (.aload_n 0, 1) := by decide +kernel
theorem dX12_citeCount_14 : decode cX12_citeCount 14 = .ok (.iload_n 1, 1) := by decide +kernel
theorem dX12_citeCount_15 : decode cX12_citeCount 15 = .ok (.invokevirtual 63, 3) := by decide +kernel
theorem dX12_citeCount_18 : decode cX12_citeCount 18 = .ok (.bipush 37, 2) := by decide +kernel
theorem dX12_citeCount_20 : decode cX12_citeCount 20 = .ok (.invokevirtual 59, 3) := by decide +kernel
theorem dX12_citeCount_23 : decode cX12_citeCount 23 = .ok (.ireturn, 1) := by decide +kernel
theorem dX12_citeAt_0 : decode cX12_citeAt 0 = .ok (.aload_n 0, 1) := by decide +kernel
theorem dX12_citeAt_1 : decode cX12_citeAt 1 = .ok (.iload_n 1, 1) := by decide +kernel
theorem dX12_citeAt_2 : decode cX12_citeAt 2 = .ok (.invokevirtual 63, 3) := by decide +kernel
theorem dX12_citeAt_5 : decode cX12_citeAt 5 = .ok (.istore_n 3, 1) := by decide +kernel
theorem dX12_citeAt_6 : decode cX12_citeAt 6 = .ok (.aload_n 0, 1) := by decide +kernel
theorem dX12_citeAt_7 : decode cX12_citeAt 7 = .ok (.iload_n 3, 1) := by decide +kernel
theorem dX12_citeAt_8 : decode cX12_citeAt 8 = .ok (.ifCond .ge 7, 3) := by decide +kernel
theorem dX12_citeAt_11 : decode cX12_citeAt 11 = .ok (.iconst 1, 1) := by decide +kernel
theorem dX12_citeAt_12 : decode cX12_citeAt 12 = .ok (.goto 25, 3) := by decide +kernel
theorem dX12_citeAt_15 : decode cX12_citeAt 15 = .ok (.iload_n 2, 1) := by decide +kernel
theorem dX12_citeAt_16 : decode cX12_citeAt 16 = .ok (.iconst 0, 1) := by decide +kernel
theorem dX12_citeAt_17 : decode cX12_citeAt 17 = .ok (.aload_n 0, 1) := by decide +kernel
theorem dX12_citeAt_18 : decode cX12_citeAt 18 = .ok (.iload_n 3, 1) := by decide +kernel
theorem dX12_citeAt_19 : decode cX12_citeAt 19 = .ok (.bipush 37, 2) := by decide +kernel
theorem dX12_citeAt_21 : decode cX12_citeAt 21 = .ok (.invokevirtual 59, 3) := by decide +kernel
theorem dX12_citeAt_24 : decode cX12_citeAt 24 = .ok (.iconst 1, 1) := by decide +kernel
theorem dX12_citeAt_25 : decode cX12_citeAt 25 = .ok (.isub, 1) := by decide +kernel
theorem dX12_citeAt_26 : decode cX12_citeAt 26 = .ok (.invokestatic 71, 3) := by decide +kernel
theorem dX12_citeAt_29 : decode cX12_citeAt 29 = .ok (.ifCond .eq 7, 3) := by decide +kernel
theorem dX12_citeAt_32 : decode cX12_citeAt 32 = .ok (.iconst 0, 1) := by decide +kernel
theorem dX12_citeAt_33 : decode cX12_citeAt 33 = .ok (.goto 4, 3) := by decide +kernel
theorem dX12_citeAt_36 : decode cX12_citeAt 36 = .ok (.iconst 2, 1) := by decide +kernel
theorem dX12_citeAt_37 : decode cX12_citeAt 37 = .ok (.invokevirtual 67, 3) := by decide +kernel
theorem dX12_citeAt_40 : decode cX12_citeAt 40 = .ok (.ifCond .eq 7, 3) := by decide +kernel
theorem dX12_citeAt_43 : decode cX12_citeAt 43 = .ok (.iconst 0, 1) := by decide +kernel
theorem dX12_citeAt_44 : decode cX12_citeAt 44 = .ok (.goto 12, 3) := by decide +kernel
theorem dX12_citeAt_47 : decode cX12_citeAt 47 = .ok (.aload_n 0, 1) := by decide +kernel
theorem dX12_citeAt_48 : decode cX12_citeAt 48 = .ok (.iload_n 3, 1) := by decide +kernel
theorem dX12_citeAt_49 : decode cX12_citeAt 49 = .ok (.bipush 38, 2) := by decide +kernel
theorem dX12_citeAt_51 : decode cX12_citeAt 51 = .ok (.iload_n 2, 1) := by decide +kernel
theorem dX12_citeAt_52 : decode cX12_citeAt 52 = .ok (.iadd, 1) := by decide +kernel
theorem dX12_citeAt_53 : decode cX12_citeAt 53 = .ok (.invokevirtual 59, 3) := by decide +kernel
theorem dX12_citeAt_56 : decode cX12_citeAt 56 = .ok (.ireturn, 1) := by decide +kernel
theorem dX12_brokenCites_0 : decode cX12_brokenCites 0 = .ok (.aload_n 0, 1) := by decide +kernel
theorem dX12_brokenCites_1 : decode cX12_brokenCites 1 = .ok (.iconst 0, 1) := by decide +kernel
theorem dX12_brokenCites_2 : decode cX12_brokenCites 2 = .ok (.putfield 45, 3) := by decide +kernel
theorem dX12_brokenCites_5 : decode cX12_brokenCites 5 = .ok (.iconst 0, 1) := by decide +kernel
theorem dX12_brokenCites_6 : decode cX12_brokenCites 6 = .ok (.istore_n 1, 1) := by decide +kernel
theorem dX12_brokenCites_7 : decode cX12_brokenCites 7 = .ok (.iconst 0, 1) := by decide +kernel
theorem dX12_brokenCites_8 : decode cX12_brokenCites 8 = .ok (.istore_n 2, 1) := by decide +kernel
theorem dX12_brokenCites_9 : decode cX12_brokenCites 9 = .ok (.iload_n 2, 1) := by decide +kernel
theorem dX12_brokenCites_10 : decode cX12_brokenCites 10 = .ok (.aload_n 0, 1) := by decide +kernel
theorem dX12_brokenCites_11 : decode cX12_brokenCites 11 = .ok (.getfield 7, 3) := by decide +kernel
theorem dX12_brokenCites_14 : decode cX12_brokenCites 14 = .ok (.iconst 0, 1) := by decide +kernel
theorem dX12_brokenCites_15 : decode cX12_brokenCites 15 = .ok (.iaload, 1) := by decide +kernel
theorem dX12_brokenCites_16 : decode cX12_brokenCites 16 = .ok (.if_icmp .ge 71, 3) := by decide +kernel
theorem dX12_brokenCites_19 : decode cX12_brokenCites 19 = .ok (.iconst 0, 1) := by decide +kernel
theorem dX12_brokenCites_20 : decode cX12_brokenCites 20 = .ok (.istore_n 3, 1) := by decide +kernel
theorem dX12_brokenCites_21 : decode cX12_brokenCites 21 = .ok (.iload_n 3, 1) := by decide +kernel
theorem dX12_brokenCites_22 : decode cX12_brokenCites 22 = .ok (.aload_n 0, 1) := by decide +kernel
theorem dX12_brokenCites_23 : decode cX12_brokenCites 23 = .ok (.iload_n 2, 1) := by decide +kernel
theorem dX12_brokenCites_24 : decode cX12_brokenCites 24 = .ok (.bipush 37, 2) := by decide +kernel
theorem dX12_brokenCites_26 : decode cX12_brokenCites 26 = .ok (.invokevirtual 59, 3) := by decide +kernel
theorem dX12_brokenCites_29 : decode cX12_brokenCites 29 = .ok (.if_icmp .ge 52, 3) := by decide +kernel
theorem dX12_brokenCites_32 : decode cX12_brokenCites 32 = .ok (.aload_n 0, 1) := by decide +kernel
theorem dX12_brokenCites_33 : decode cX12_brokenCites 33 = .ok (.aload_n 0, 1) := by decide +kernel
theorem dX12_brokenCites_34 : decode cX12_brokenCites 34 = .ok (.iload_n 2, 1) := by decide +kernel
theorem dX12_brokenCites_35 : decode cX12_brokenCites 35 = .ok (.bipush 38, 2) := by decide +kernel
theorem dX12_brokenCites_37 : decode cX12_brokenCites 37 = .ok (.iload_n 3, 1) := by decide +kernel
theorem dX12_brokenCites_38 : decode cX12_brokenCites 38 = .ok (.iadd, 1) := by decide +kernel
theorem dX12_brokenCites_39 : decode cX12_brokenCites 39 = .ok (.invokevirtual 59, 3) := by decide +kernel
theorem dX12_brokenCites_42 : decode cX12_brokenCites 42 = .ok (.invokevirtual 63, 3) := by decide +kernel
theorem dX12_brokenCites_45 : decode cX12_brokenCites 45 = .ok (.istore 4, 2) := by decide +kernel
theorem dX12_brokenCites_47 : decode cX12_brokenCites 47 = .ok (.iload_n 1, 1) := by decide +kernel
theorem dX12_brokenCites_48 : decode cX12_brokenCites 48 = .ok (.iload 4, 2) := by decide +kernel
theorem dX12_brokenCites_50 : decode cX12_brokenCites 50 = .ok (.ifCond .lt 18, 3) := by decide +kernel
theorem dX12_brokenCites_53 : decode cX12_brokenCites 53 = .ok (.aload_n 0, 1) := by decide +kernel
theorem dX12_brokenCites_54 : decode cX12_brokenCites 54 = .ok (.iload 4, 2) := by decide +kernel
theorem dX12_brokenCites_56 : decode cX12_brokenCites 56 = .ok (.aload_n 0, 1) := by decide +kernel
theorem dX12_brokenCites_57 : decode cX12_brokenCites 57 = .ok (.getfield 7, 3) := by decide +kernel
theorem dX12_brokenCites_60 : decode cX12_brokenCites 60 = .ok (.iconst 2, 1) := by decide +kernel
theorem dX12_brokenCites_61 : decode cX12_brokenCites 61 = .ok (.iaload, 1) := by decide +kernel
theorem dX12_brokenCites_62 : decode cX12_brokenCites 62 = .ok (.invokevirtual 96, 3) := by decide +kernel
theorem dX12_brokenCites_65 : decode cX12_brokenCites 65 = .ok (.ifCond .ne 7, 3) := by decide +kernel
theorem dX12_brokenCites_68 : decode cX12_brokenCites 68 = .ok (.iconst 1, 1) := by decide +kernel
theorem dX12_brokenCites_69 : decode cX12_brokenCites 69 = .ok (.goto 4, 3) := by decide +kernel
theorem dX12_brokenCites_72 : decode cX12_brokenCites 72 = .ok (.iconst 0, 1) := by decide +kernel
theorem dX12_brokenCites_73 : decode cX12_brokenCites 73 = .ok (.iadd, 1) := by decide +kernel
theorem dX12_brokenCites_74 : decode cX12_brokenCites 74 = .ok (.istore_n 1, 1) := by decide +kernel
theorem dX12_brokenCites_75 : decode cX12_brokenCites 75 = .ok (.iinc 3 1, 3) := by decide +kernel
theorem dX12_brokenCites_78 : decode cX12_brokenCites 78 = .ok (.goto (-57), 3) := by decide +kernel
theorem dX12_brokenCites_81 : decode cX12_brokenCites 81 = .ok (.iinc 2 1, 3) := by decide +kernel
theorem dX12_brokenCites_84 : decode cX12_brokenCites 84 = .ok (.goto (-75), 3) := by decide +kernel
theorem dX12_brokenCites_87 : decode cX12_brokenCites 87 = .ok (.iload_n 1, 1) := by decide +kernel
theorem dX12_brokenCites_88 : decode cX12_brokenCites 88 = .ok (.ireturn, 1) := by decide +kernel
theorem dX12_reached_0 : decode cX12_reached 0 = .ok (.iconst 0, 1) := by decide +kernel
theorem dX12_reached_1 : decode cX12_reached 1 = .ok (.istore_n 2, 1) := by decide +kernel
theorem dX12_reached_2 : decode cX12_reached 2 = .ok (.iconst (-1), 1) := by decide +kernel
theorem dX12_reached_3 : decode cX12_reached 3 = .ok (.istore_n 3, 1) := by decide +kernel
theorem dX12_reached_4 : decode cX12_reached 4 = .ok (.iload_n 2, 1) := by decide +kernel
theorem dX12_reached_5 : decode cX12_reached 5 = .ok (.iload_n 3, 1) := by decide +kernel
theorem dX12_reached_6 : decode cX12_reached 6 = .ok (.if_icmp .eq 53, 3) := by decide +kernel
theorem dX12_reached_9 : decode cX12_reached 9 = .ok (.iload_n 2, 1) := by decide +kernel
theorem dX12_reached_10 : decode cX12_reached 10 = .ok (.istore_n 3, 1) := by decide +kernel
theorem dX12_reached_11 : decode cX12_reached 11 = .ok (.iconst 0, 1) := by decide +kernel
theorem dX12_reached_12 : decode cX12_reached 12 = .ok (.istore 4, 2) := by decide +kernel
theorem dX12_reached_14 : decode cX12_reached 14 = .ok (.iload 4, 2) := by decide +kernel
theorem dX12_reached_16 : decode cX12_reached 16 = .ok (.aload_n 0, 1) := by decide +kernel
theorem dX12_reached_17 : decode cX12_reached 17 = .ok (.getfield 7, 3) := by decide +kernel
theorem dX12_reached_20 : decode cX12_reached 20 = .ok (.iconst 0, 1) := by decide +kernel
theorem dX12_reached_21 : decode cX12_reached 21 = .ok (.iaload, 1) := by decide +kernel
theorem dX12_reached_22 : decode cX12_reached 22 = .ok (.if_icmp .ge 34, 3) := by decide +kernel
theorem dX12_reached_25 : decode cX12_reached 25 = .ok (.iload 4, 2) := by decide +kernel
theorem dX12_reached_27 : decode cX12_reached 27 = .ok (.iload_n 1, 1) := by decide +kernel
theorem dX12_reached_28 : decode cX12_reached 28 = .ok (.if_icmp .eq 13, 3) := by decide +kernel
theorem dX12_reached_31 : decode cX12_reached 31 = .ok (.iload_n 3, 1) := by decide +kernel
theorem dX12_reached_32 : decode cX12_reached 32 = .ok (.iload 4, 2) := by decide +kernel
theorem dX12_reached_34 : decode cX12_reached 34 = .ok (.ishr, 1) := by decide +kernel
theorem dX12_reached_35 : decode cX12_reached 35 = .ok (.iconst 1, 1) := by decide +kernel
theorem dX12_reached_36 : decode cX12_reached 36 = .ok (.iand, 1) := by decide +kernel
theorem dX12_reached_37 : decode cX12_reached 37 = .ok (.iconst 1, 1) := by decide +kernel
theorem dX12_reached_38 : decode cX12_reached 38 = .ok (.if_icmp .ne 12, 3) := by decide +kernel
theorem dX12_reached_41 : decode cX12_reached 41 = .ok (.iload_n 2, 1) := by decide +kernel
theorem dX12_reached_42 : decode cX12_reached 42 = .ok (.aload_n 0, 1) := by decide +kernel
theorem dX12_reached_43 : decode cX12_reached 43 = .ok (.iload 4, 2) := by decide +kernel
theorem dX12_reached_45 : decode cX12_reached 45 = .ok (.invokevirtual 158, 3) := by decide +kernel
theorem dX12_reached_48 : decode cX12_reached 48 = .ok (.ior, 1) := by decide +kernel
theorem dX12_reached_49 : decode cX12_reached 49 = .ok (.istore_n 2, 1) := by decide +kernel
theorem dX12_reached_50 : decode cX12_reached 50 = .ok (.iinc 4 1, 3) := by decide +kernel
theorem dX12_reached_53 : decode cX12_reached 53 = .ok (.goto (-39), 3) := by decide +kernel
theorem dX12_reached_56 : decode cX12_reached 56 = .ok (.goto (-52), 3) := by decide +kernel
theorem dX12_reached_59 : decode cX12_reached 59 = .ok (.iload_n 2, 1) := by decide +kernel
theorem dX12_reached_60 : decode cX12_reached 60 = .ok (.ireturn, 1) := by decide +kernel
theorem dX12_straight_0 : decode cX12_straight 0 = .ok (.iconst 0, 1) := by decide +kernel
theorem dX12_straight_1 : decode cX12_straight 1 = .ok (.istore_n 2, 1) := by decide +kernel
theorem dX12_straight_2 : decode cX12_straight 2 = .ok (.iconst 0, 1) := by decide +kernel
theorem dX12_straight_3 : decode cX12_straight 3 = .ok (.istore_n 3, 1) := by decide +kernel
theorem dX12_straight_4 : decode cX12_straight 4 = .ok (.iload_n 3, 1) := by decide +kernel
theorem dX12_straight_5 : decode cX12_straight 5 = .ok (.aload_n 0, 1) := by decide +kernel
theorem dX12_straight_6 : decode cX12_straight 6 = .ok (.iload_n 1, 1) := by decide +kernel
theorem dX12_straight_7 : decode cX12_straight 7 = .ok (.bipush 37, 2) := by decide +kernel
theorem dX12_straight_9 : decode cX12_straight 9 = .ok (.invokevirtual 59, 3) := by decide +kernel
theorem dX12_straight_12 : decode cX12_straight 12 = .ok (.if_icmp .ge 43, 3) := by decide +kernel
theorem dX12_straight_15 : decode cX12_straight 15 = .ok (.aload_n 0, 1) := by decide +kernel
theorem dX12_straight_16 : decode cX12_straight 16 = .ok (.aload_n 0, 1) := by decide +kernel
theorem dX12_straight_17 : decode cX12_straight 17 = .ok (.iload_n 1, 1) := by decide +kernel
theorem dX12_straight_18 : decode cX12_straight 18 = .ok (.bipush 38, 2) := by decide +kernel
theorem dX12_straight_20 : decode cX12_straight 20 = .ok (.iload_n 3, 1) := by decide +kernel
theorem dX12_straight_21 : decode cX12_straight 21 = .ok (.iadd, 1) := by decide +kernel
theorem dX12_straight_22 : decode cX12_straight 22 = .ok (.invokevirtual 59, 3) := by decide +kernel
theorem dX12_straight_25 : decode cX12_straight 25 = .ok (.invokevirtual 63, 3) := by decide +kernel
theorem dX12_straight_28 : decode cX12_straight 28 = .ok (.ifCond .lt 21, 3) := by decide +kernel
theorem dX12_straight_31 : decode cX12_straight 31 = .ok (.iload_n 2, 1) := by decide +kernel
theorem dX12_straight_32 : decode cX12_straight 32 = .ok (.iconst 1, 1) := by decide +kernel
theorem dX12_straight_33 : decode cX12_straight 33 = .ok (.aload_n 0, 1) := by decide +kernel
theorem dX12_straight_34 : decode cX12_straight 34 = .ok (.aload_n 0, 1) := by decide +kernel
theorem dX12_straight_35 : decode cX12_straight 35 = .ok (.iload_n 1, 1) := by decide +kernel
theorem dX12_straight_36 : decode cX12_straight 36 = .ok (.bipush 38, 2) := by decide +kernel
theorem dX12_straight_38 : decode cX12_straight 38 = .ok (.iload_n 3, 1) := by decide +kernel
theorem dX12_straight_39 : decode cX12_straight 39 = .ok (.iadd, 1) := by decide +kernel
theorem dX12_straight_40 : decode cX12_straight 40 = .ok (.invokevirtual 59, 3) := by decide +kernel
theorem dX12_straight_43 : decode cX12_straight 43 = .ok (.invokevirtual 63, 3) := by decide +kernel
theorem dX12_straight_46 : decode cX12_straight 46 = .ok (.ishl, 1) := by decide +kernel
theorem dX12_straight_47 : decode cX12_straight 47 = .ok (.ior, 1) := by decide +kernel
theorem dX12_straight_48 : decode cX12_straight 48 = .ok (.istore_n 2, 1) := by decide +kernel
theorem dX12_straight_49 : decode cX12_straight 49 = .ok (.iinc 3 1, 3) := by decide +kernel
theorem dX12_straight_52 : decode cX12_straight 52 = .ok (.goto (-48), 3) := by decide +kernel
theorem dX12_straight_55 : decode cX12_straight 55 = .ok (.iload_n 2, 1) := by decide +kernel
theorem dX12_straight_56 : decode cX12_straight 56 = .ok (.ireturn, 1) := by decide +kernel
theorem dX12_isReached_0 : decode cX12_isReached 0 = .ok (.aload_n 0, 1) := by decide +kernel
theorem dX12_isReached_1 : decode cX12_isReached 1 = .ok (.aload_n 0, 1) := by decide +kernel
theorem dX12_isReached_2 : decode cX12_isReached 2 = .ok (.iload_n 1, 1) := by decide +kernel
theorem dX12_isReached_3 : decode cX12_isReached 3 = .ok (.invokevirtual 63, 3) := by decide +kernel
theorem dX12_isReached_6 : decode cX12_isReached 6 = .ok (.ifCond .lt 11, 3) := by decide +kernel
theorem dX12_isReached_9 : decode cX12_isReached 9 = .ok (.aload_n 0, 1) := by decide +kernel
theorem dX12_isReached_10 : decode cX12_isReached 10 = .ok (.iload_n 2, 1) := by decide +kernel
theorem dX12_isReached_11 : decode cX12_isReached 11 = .ok (.invokevirtual 63, 3) := by decide +kernel
theorem dX12_isReached_14 : decode cX12_isReached 14 = .ok (.ifCond .ge 7, 3) := by decide +kernel
theorem dX12_isReached_17 : decode cX12_isReached 17 = .ok (.iconst 1, 1) := by decide +kernel
theorem dX12_isReached_18 : decode cX12_isReached 18 = .ok (.goto 4, 3) := by decide +kernel
theorem dX12_isReached_21 : decode cX12_isReached 21 = .ok (.iconst 0, 1) := by decide +kernel
theorem dX12_isReached_22 : decode cX12_isReached 22 = .ok (.invokevirtual 67, 3) := by decide +kernel
theorem dX12_isReached_25 : decode cX12_isReached 25 = .ok (.ifCond .eq 5, 3) := by decide +kernel
theorem dX12_isReached_28 : decode cX12_isReached 28 = .ok (.iconst 0, 1) := by decide +kernel
theorem dX12_isReached_29 : decode cX12_isReached 29 = .ok (.ireturn, 1) := by decide +kernel
theorem dX12_isReached_30 : decode cX12_isReached 30 = .ok (.aload_n 0, 1) := by decide +kernel
theorem dX12_isReached_31 : decode cX12_isReached 31 = .ok (.aload_n 0, 1) := by decide +kernel
theorem dX12_isReached_32 : decode cX12_isReached 32 = .ok (.iload_n 1, 1) := by decide +kernel
theorem dX12_isReached_33 : decode cX12_isReached 33 = .ok (.invokevirtual 63, 3) := by decide +kernel
theorem dX12_isReached_36 : decode cX12_isReached 36 = .ok (.invokevirtual 161, 3) := by decide +kernel
theorem dX12_isReached_39 : decode cX12_isReached 39 = .ok (.aload_n 0, 1) := by decide +kernel
theorem dX12_isReached_40 : decode cX12_isReached 40 = .ok (.iload_n 2, 1) := by decide +kernel
theorem dX12_isReached_41 : decode cX12_isReached 41 = .ok (.invokevirtual 63, 3) := by decide +kernel
theorem dX12_isReached_44 : decode cX12_isReached 44 = .ok (.ishr, 1) := by decide +kernel
theorem dX12_isReached_45 : decode cX12_isReached 45 = .ok (.iconst 1, 1) := by decide +kernel
theorem dX12_isReached_46 : decode cX12_isReached 46 = .ok (.iand, 1) := by decide +kernel
theorem dX12_isReached_47 : decode cX12_isReached 47 = .ok (.iconst 1, 1) := by decide +kernel
theorem dX12_isReached_48 : decode cX12_isReached 48 = .ok (.if_icmp .ne 7, 3) := by decide +kernel
theorem dX12_isReached_51 : decode cX12_isReached 51 = .ok (.iconst 1, 1) := by decide +kernel
theorem dX12_isReached_52 : decode cX12_isReached 52 = .ok (.goto 4, 3) := by decide +kernel
theorem dX12_isReached_55 : decode cX12_isReached 55 = .ok (.iconst 0, 1) := by decide +kernel
theorem dX12_isReached_56 : decode cX12_isReached 56 = .ok (.ireturn, 1) := by decide +kernel
theorem dX12_citesIndirectly_0 : decode cX12_citesIndirectly 0 = .ok (.aload_n 0, 1) := by decide +kernel
theorem dX12_citesIndirectly_1 : decode cX12_citesIndirectly 1 = .ok (.iload_n 1, 1) := by decide +kernel
theorem dX12_citesIndirectly_2 : decode cX12_citesIndirectly 2 = .ok (.iload_n 2, 1) := by decide +kernel
theorem dX12_citesIndirectly_3 : decode cX12_citesIndirectly 3 = .ok (.invokevirtual 164, 3) := by decide +kernel
theorem dX12_citesIndirectly_6 : decode cX12_citesIndirectly 6 = .ok (.ireturn, 1) := by decide +kernel
theorem dX12_citesByClosure_0 : decode cX12_citesByClosure 0 = .ok (.aload_n 0, 1) := by decide +kernel
theorem dX12_citesByClosure_1 : decode cX12_citesByClosure 1 = .ok (.iload_n 1, 1) := by decide +kernel
theorem dX12_citesByClosure_2 : decode cX12_citesByClosure 2 = .ok (.iload_n 2, 1) := by decide +kernel
theorem dX12_citesByClosure_3 : decode cX12_citesByClosure 3 = .ok (.invokevirtual 164, 3) := by decide +kernel
theorem dX12_citesByClosure_6 : decode cX12_citesByClosure 6 = .ok (.ireturn, 1) := by decide +kernel
theorem dX12_citing_0 : decode cX12_citing 0 = .ok (.iconst 0, 1) := by decide +kernel
theorem dX12_citing_1 : decode cX12_citing 1 = .ok (.istore_n 2, 1) := by decide +kernel
theorem dX12_citing_2 : decode cX12_citing 2 = .ok (.iconst 0, 1) := by decide +kernel
theorem dX12_citing_3 : decode cX12_citing 3 = .ok (.istore_n 3, 1) := by decide +kernel
theorem dX12_citing_4 : decode cX12_citing 4 = .ok (.iload_n 3, 1) := by decide +kernel
theorem dX12_citing_5 : decode cX12_citing 5 = .ok (.aload_n 0, 1) := by decide +kernel
theorem dX12_citing_6 : decode cX12_citing 6 = .ok (.getfield 7, 3) := by decide +kernel
theorem dX12_citing_9 : decode cX12_citing 9 = .ok (.iconst 0, 1) := by decide +kernel
theorem dX12_citing_10 : decode cX12_citing 10 = .ok (.iaload, 1) := by decide +kernel
theorem dX12_citing_11 : decode cX12_citing 11 = .ok (.if_icmp .ge 31, 3) := by decide +kernel
theorem dX12_citing_14 : decode cX12_citing 14 = .ok (.iload_n 2, 1) := by decide +kernel
theorem dX12_citing_15 : decode cX12_citing 15 = .ok (.aload_n 0, 1) := by decide +kernel
theorem dX12_citing_16 : decode cX12_citing 16 = .ok (.iload_n 3, 1) := by decide +kernel
theorem dX12_citing_17 : decode cX12_citing 17 = .ok (.aload_n 0, 1) := by decide +kernel
theorem dX12_citing_18 : decode cX12_citing 18 = .ok (.iload_n 1, 1) := by decide +kernel
theorem dX12_citing_19 : decode cX12_citing 19 = .ok (.iconst 0, 1) := by decide +kernel
theorem dX12_citing_20 : decode cX12_citing 20 = .ok (.invokevirtual 59, 3) := by decide +kernel
theorem dX12_citing_23 : decode cX12_citing 23 = .ok (.invokevirtual 116, 3) := by decide +kernel
theorem dX12_citing_26 : decode cX12_citing 26 = .ok (.ifCond .lt 7, 3) := by decide +kernel
theorem dX12_citing_29 : decode cX12_citing 29 = .ok (.iconst 1, 1) := by decide +kernel
theorem dX12_citing_30 : decode cX12_citing 30 = .ok (.goto 4, 3) := by decide +kernel
theorem dX12_citing_33 : decode cX12_citing 33 = .ok (.iconst 0, 1) := by decide +kernel
theorem dX12_citing_34 : decode cX12_citing 34 = .ok (.iadd, 1) := by decide +kernel
theorem dX12_citing_35 : decode cX12_citing 35 = .ok (.istore_n 2, 1) := by decide +kernel
theorem dX12_citing_36 : decode cX12_citing 36 = .ok (.iinc 3 1, 3) := by decide +kernel
theorem dX12_citing_39 : decode cX12_citing 39 = .ok (.goto (-35), 3) := by decide +kernel
theorem dX12_citing_42 : decode cX12_citing 42 = .ok (.iload_n 2, 1) := by decide +kernel
theorem dX12_citing_43 : decode cX12_citing 43 = .ok (.ireturn, 1) := by decide +kernel
theorem dX12_clauseByCites_0 : decode cX12_clauseByCites 0 = .ok (.iconst 0, 1) := by decide +kernel
theorem dX12_clauseByCites_1 : decode cX12_clauseByCites 1 = .ok (.istore_n 2, 1) := by decide +kernel
theorem dX12_clauseByCites_2 : decode cX12_clauseByCites 2 = .ok (.iload_n 2, 1) := by decide +kernel
theorem dX12_clauseByCites_3 : decode cX12_clauseByCites 3 = .ok (.aload_n 0, 1) := by decide +kernel
theorem dX12_clauseByCites_4 : decode cX12_clauseByCites 4 = .ok (.getfield 7, 3) := by decide +kernel
theorem dX12_clauseByCites_7 : decode cX12_clauseByCites 7 = .ok (.iconst 0, 1) := by decide +kernel
theorem dX12_clauseByCites_8 : decode cX12_clauseByCites 8 = .ok (.iaload, 1) := by decide +kernel
theorem dX12_clauseByCites_9 : decode cX12_clauseByCites 9 = .ok (.if_icmp .ge 103, 3) := by decide +kernel
theorem dX12_clauseByCites_12 : decode cX12_clauseByCites 12 = .ok (.iconst 0, 1) := by decide +kernel
theorem dX12_clauseByCites_13 : decode cX12_clauseByCites 13 = .ok (.istore_n 3, 1) := by decide +kernel
theorem dX12_clauseByCites_14 : decode cX12_clauseByCites 14 = .ok (.iconst 0, 1) := by decide +kernel
theorem dX12_clauseByCites_15 : decode cX12_clauseByCites 15 = .ok (.istore 4, 2) := by decide +kernel
theorem dX12_clauseByCites_17 : decode cX12_clauseByCites 17 = .ok (.iload 4, 2) := by decide +kernel
theorem dX12_clauseByCites_19 : decode cX12_clauseByCites 19 = .ok (.aload_n 0, 1) := by decide +kernel
theorem dX12_clauseByCites_20 : decode cX12_clauseByCites 20 = .ok (.getfield 7, 3) := by decide +kernel
theorem dX12_clauseByCites_23 : decode cX12_clauseByCites 23 = .ok (.iconst 0, 1) := by decide +kernel
theorem dX12_clauseByCites_24 : decode cX12_clauseByCites 24 = .ok (.iaload, 1) := by decide +kernel
theorem dX12_clauseByCites_25 : decode cX12_clauseByCites 25 = .ok (.if_icmp .ge 61, 3) := by decide +kernel
theorem dX12_clauseByCites_28 : decode cX12_clauseByCites 28 = .ok (.iload_n 3, 1) := by decide +kernel
theorem dX12_clauseByCites_29 : decode cX12_clauseByCites 29 = .ok (.aload_n 0, 1) := by decide +kernel
theorem dX12_clauseByCites_30 : decode cX12_clauseByCites 30 = .ok (.iload 4, 2) := by decide +kernel
theorem dX12_clauseByCites_32 : decode cX12_clauseByCites 32 = .ok (.invokevirtual 167, 3) := by decide +kernel
theorem dX12_clauseByCites_35 : decode cX12_clauseByCites 35 = .ok (.aload_n 0, 1) := by decide +kernel
theorem dX12_clauseByCites_36 : decode cX12_clauseByCites 36 = .ok (.iload_n 2, 1) := by decide +kernel
theorem dX12_clauseByCites_37 : decode cX12_clauseByCites 37 = .ok (.invokevirtual 167, 3) := by decide +kernel
theorem dX12_clauseByCites_40 : decode cX12_clauseByCites 40 = .ok (.if_icmp .gt 33, 3) := by decide +kernel
theorem dX12_clauseByCites_43 : decode cX12_clauseByCites 43 = .ok (.aload_n 0, 1) := by decide +kernel
theorem dX12_clauseByCites_44 : decode cX12_clauseByCites 44 = .ok (.iload 4, 2) := by decide +kernel
theorem dX12_clauseByCites_46 : decode cX12_clauseByCites 46 = .ok (.invokevirtual 167, 3) := by decide +kernel
theorem dX12_clauseByCites_49 : decode cX12_clauseByCites 49 = .ok (.aload_n 0, 1) := by decide +kernel
theorem dX12_clauseByCites_50 : decode cX12_clauseByCites 50 = .ok (.iload_n 2, 1) := by decide +kernel
theorem dX12_clauseByCites_51 : decode cX12_clauseByCites 51 = .ok (.invokevirtual 167, 3) := by decide +kernel
theorem dX12_clauseByCites_54 : decode cX12_clauseByCites 54 = .ok (.if_icmp .ne 23, 3) := by decide +kernel
theorem dX12_clauseByCites_57 : decode cX12_clauseByCites 57 = .ok (.aload_n 0, 1) := by decide +kernel
theorem dX12_clauseByCites_58 : decode cX12_clauseByCites 58 = .ok (.iload 4, 2) := by decide +kernel
theorem dX12_clauseByCites_60 : decode cX12_clauseByCites 60 = .ok (.iconst 1, 1) := by decide +kernel
theorem dX12_clauseByCites_61 : decode cX12_clauseByCites 61 = .ok (.invokevirtual 59, 3) := by decide +kernel
theorem dX12_clauseByCites_64 : decode cX12_clauseByCites 64 = .ok (.aload_n 0, 1) := by decide +kernel
theorem dX12_clauseByCites_65 : decode cX12_clauseByCites 65 = .ok (.iload_n 2, 1) := by decide +kernel
theorem dX12_clauseByCites_66 : decode cX12_clauseByCites 66 = .ok (.iconst 1, 1) := by decide +kernel
theorem dX12_clauseByCites_67 : decode cX12_clauseByCites 67 = .ok (.invokevirtual 59, 3) := by decide +kernel
theorem dX12_clauseByCites_70 : decode cX12_clauseByCites 70 = .ok (.if_icmp .ge 7, 3) := by decide +kernel
theorem dX12_clauseByCites_73 : decode cX12_clauseByCites 73 = .ok (.iconst 1, 1) := by decide +kernel
theorem dX12_clauseByCites_74 : decode cX12_clauseByCites 74 = .ok (.goto 4, 3) := by decide +kernel
theorem dX12_clauseByCites_77 : decode cX12_clauseByCites 77 = .ok (.iconst 0, 1) := by decide +kernel
theorem dX12_clauseByCites_78 : decode cX12_clauseByCites 78 = .ok (.iadd, 1) := by decide +kernel
theorem dX12_clauseByCites_79 : decode cX12_clauseByCites 79 = .ok (.istore_n 3, 1) := by decide +kernel
theorem dX12_clauseByCites_80 : decode cX12_clauseByCites 80 = .ok (.iinc 4 1, 3) := by decide +kernel
theorem dX12_clauseByCites_83 : decode cX12_clauseByCites 83 = .ok (.goto (-66), 3) := by decide +kernel
theorem dX12_clauseByCites_86 : decode cX12_clauseByCites 86 = .ok (.iload_n 3, 1) := by decide +kernel
theorem dX12_clauseByCites_87 : decode cX12_clauseByCites 87 = .ok (.iload_n 1, 1) := by decide +kernel
theorem dX12_clauseByCites_88 : decode cX12_clauseByCites 88 = .ok (.if_icmp .eq 6, 3) := by decide +kernel
theorem dX12_clauseByCites_91 : decode cX12_clauseByCites 91 = .ok (.goto 15, 3) := by decide +kernel
theorem dX12_clauseByCites_94 : decode cX12_clauseByCites 94 = .ok (.aload_n 0, 1) := by decide +kernel
theorem dX12_clauseByCites_95 : decode cX12_clauseByCites 95 = .ok (.iconst 0, 1) := by decide +kernel
theorem dX12_clauseByCites_96 : decode cX12_clauseByCites 96 = .ok (.putfield 45, 3) := by decide +kernel
theorem dX12_clauseByCites_99 : decode cX12_clauseByCites 99 = .ok (.aload_n 0, 1) := by decide +kernel
theorem dX12_clauseByCites_100 : decode cX12_clauseByCites 100 = .ok (.iload_n 2, 1) := by decide +kernel
theorem dX12_clauseByCites_101 : decode cX12_clauseByCites 101 = .ok (.iconst 0, 1) := by decide +kernel
theorem dX12_clauseByCites_102 : decode cX12_clauseByCites 102 = .ok (.invokevirtual 59, 3) := by decide +kernel
theorem dX12_clauseByCites_105 : decode cX12_clauseByCites 105 = .ok (.ireturn, 1) := by decide +kernel
theorem dX12_clauseByCites_106 : decode cX12_clauseByCites 106 = .ok (.iinc 2 1, 3) := by decide +kernel
theorem dX12_clauseByCites_109 : decode cX12_clauseByCites 109 = .ok (.goto (-107), 3) := by decide +kernel
theorem dX12_clauseByCites_112 : decode cX12_clauseByCites 112 = .ok (.aload_n 0, 1) := by decide +kernel
theorem dX12_clauseByCites_113 : decode cX12_clauseByCites 113 = .ok (.iconst 1, 1) := by decide +kernel
theorem dX12_clauseByCites_114 : decode cX12_clauseByCites 114 = .ok (.putfield 45, 3) := by decide +kernel
theorem dX12_clauseByCites_117 : decode cX12_clauseByCites 117 = .ok (.iconst 0, 1) := by decide +kernel
theorem dX12_clauseByCites_118 : decode cX12_clauseByCites 118 = .ok (.ireturn, 1) := by decide +kernel
theorem dX12_addedTotal_0 : decode cX12_addedTotal 0 = .ok (.aload_n 0, 1) := by decide +kernel
theorem dX12_addedTotal_1 : decode cX12_addedTotal 1 = .ok (.iconst 0, 1) := by decide +kernel
theorem dX12_addedTotal_2 : decode cX12_addedTotal 2 = .ok (.putfield 45, 3) := by decide +kernel
theorem dX12_addedTotal_5 : decode cX12_addedTotal 5 = .ok (.aload_n 0, 1) := by decide +kernel
theorem dX12_addedTotal_6 : decode cX12_addedTotal 6 = .ok (.getfield 7, 3) := by decide +kernel
theorem dX12_addedTotal_9 : decode cX12_addedTotal 9 = .ok (.iconst 1, 1) := by decide +kernel
theorem dX12_addedTotal_10 : decode cX12_addedTotal 10 = .ok (.iaload, 1) := by decide +kernel
theorem dX12_addedTotal_11 : decode cX12_addedTotal 11 = .ok (.ireturn, 1) := by decide +kernel
theorem dX12_amendmentTotal_0 : decode cX12_amendmentTotal 0 = .ok (.aload_n 0, 1) := by decide +kernel
theorem dX12_amendmentTotal_1 : decode cX12_amendmentTotal 1 = .ok (.iconst 0, 1) := by decide +kernel
theorem dX12_amendmentTotal_2 : decode cX12_amendmentTotal 2 = .ok (.putfield 45, 3) := by decide +kernel
theorem dX12_amendmentTotal_5 : decode cX12_amendmentTotal 5 = .ok (.aload_n 0, 1) := by decide +kernel
theorem dX12_amendmentTotal_6 : decode cX12_amendmentTotal 6 = .ok (.getfield 7, 3) := by decide +kernel
theorem dX12_amendmentTotal_9 : decode cX12_amendmentTotal 9 = .ok (.iconst 3, 1) := by decide +kernel
theorem dX12_amendmentTotal_10 : decode cX12_amendmentTotal 10 = .ok (.iaload, 1) := by decide +kernel
theorem dX12_amendmentTotal_11 : decode cX12_amendmentTotal 11 = .ok (.ireturn, 1) := by decide +kernel
theorem dX12_repealedTotal_0 : decode cX12_repealedTotal 0 = .ok (.aload_n 0, 1) := by decide +kernel
theorem dX12_repealedTotal_1 : decode cX12_repealedTotal 1 = .ok (.iconst 0, 1) := by decide +kernel
theorem dX12_repealedTotal_2 : decode cX12_repealedTotal 2 = .ok (.putfield 45, 3) := by decide +kernel
theorem dX12_repealedTotal_5 : decode cX12_repealedTotal 5 = .ok (.aload_n 0, 1) := by decide +kernel
theorem dX12_repealedTotal_6 : decode cX12_repealedTotal 6 = .ok (.getfield 7, 3) := by decide +kernel
theorem dX12_repealedTotal_9 : decode cX12_repealedTotal 9 = .ok (.iconst 4, 1) := by decide +kernel
theorem dX12_repealedTotal_10 : decode cX12_repealedTotal 10 = .ok (.iaload, 1) := by decide +kernel
theorem dX12_repealedTotal_11 : decode cX12_repealedTotal 11 = .ok (.ireturn, 1) := by decide +kernel
theorem dX12_consolidatedTotal_0 : decode cX12_consolidatedTotal 0 = .ok (.aload_n 0, 1) := by decide +kernel
theorem dX12_consolidatedTotal_1 : decode cX12_consolidatedTotal 1 = .ok (.iconst 0, 1) := by decide +kernel
theorem dX12_consolidatedTotal_2 : decode cX12_consolidatedTotal 2 = .ok (.putfield 45, 3) := by decide +kernel
theorem dX12_consolidatedTotal_5 : decode cX12_consolidatedTotal 5 = .ok (.aload_n 0, 1) := by decide +kernel
theorem dX12_consolidatedTotal_6 : decode cX12_consolidatedTotal 6 = .ok (.getfield 7, 3) := by decide +kernel
theorem dX12_consolidatedTotal_9 : decode cX12_consolidatedTotal 9 = .ok (.iconst 5, 1) := by decide +kernel
theorem dX12_consolidatedTotal_10 : decode cX12_consolidatedTotal 10 = .ok (.iaload, 1) := by decide +kernel
theorem dX12_consolidatedTotal_11 : decode cX12_consolidatedTotal 11 = .ok (.ireturn, 1) := by decide +kernel
theorem dX12_editionCount_0 : decode cX12_editionCount 0 = .ok (.aload_n 0, 1) := by decide +kernel
theorem dX12_editionCount_1 : decode cX12_editionCount 1 = .ok (.iconst 0, 1) := by decide +kernel
theorem dX12_editionCount_2 : decode cX12_editionCount 2 = .ok (.putfield 45, 3) := by decide +kernel
theorem dX12_editionCount_5 : decode cX12_editionCount 5 = .ok (.aload_n 0, 1) := by decide +kernel
theorem dX12_editionCount_6 : decode cX12_editionCount 6 = .ok (.getfield 7, 3) := by decide +kernel
theorem dX12_editionCount_9 : decode cX12_editionCount 9 = .ok (.bipush 6, 2) := by decide +kernel
theorem dX12_editionCount_11 : decode cX12_editionCount 11 = .ok (.iaload, 1) := by decide +kernel
theorem dX12_editionCount_12 : decode cX12_editionCount 12 = .ok (.ireturn, 1) := by decide +kernel
theorem dX12_editionDay_0 : decode cX12_editionDay 0 = .ok (.aload_n 0, 1) := by decide +kernel
theorem dX12_editionDay_1 : decode cX12_editionDay 1 = .ok (.iload_n 1, 1) := by decide +kernel
theorem dX12_editionDay_2 : decode cX12_editionDay 2 = .ok (.iconst 1, 1) := by decide +kernel
theorem dX12_editionDay_3 : decode cX12_editionDay 3 = .ok (.aload_n 0, 1) := by decide +kernel
theorem dX12_editionDay_4 : decode cX12_editionDay 4 = .ok (.getfield 7, 3) := by decide +kernel
theorem dX12_editionDay_7 : decode cX12_editionDay 7 = .ok (.bipush 6, 2) := by decide +kernel
theorem dX12_editionDay_9 : decode cX12_editionDay 9 = .ok (.iaload, 1) := by decide +kernel
theorem dX12_editionDay_10 : decode cX12_editionDay 10 = .ok (.invokestatic 71, 3) := by decide +kernel
theorem dX12_editionDay_13 : decode cX12_editionDay 13 = .ok (.ifCond .eq 21, 3) := by decide +kernel
theorem dX12_editionDay_16 : decode cX12_editionDay 16 = .ok (.iload_n 1, 1) := by decide +kernel
theorem dX12_editionDay_17 : decode cX12_editionDay 17 = .ok (.aload_n 0, 1) := by decide +kernel
theorem dX12_editionDay_18 : decode cX12_editionDay 18 = .ok (.getfield 7, 3) := by decide +kernel
theorem dX12_editionDay_21 : decode cX12_editionDay 21 = .ok (.bipush 6, 2) := by decide +kernel
theorem dX12_editionDay_23 : decode cX12_editionDay 23 = .ok (.iaload, 1) := by decide +kernel
theorem dX12_editionDay_24 : decode cX12_editionDay 24 = .ok (.bipush 6, 2) := by decide +kernel
theorem dX12_editionDay_26 : decode cX12_editionDay 26 = .ok (.isub, 1) := by decide +kernel
theorem dX12_editionDay_27 : decode cX12_editionDay 27 = .ok (.if_icmp .le 7, 3) := by decide +kernel
theorem dX12_editionDay_30 : decode cX12_editionDay 30 = .ok (.iconst 0, 1) := by decide +kernel
theorem dX12_editionDay_31 : decode cX12_editionDay 31 = .ok (.goto 4, 3) := by decide +kernel
theorem dX12_editionDay_34 : decode cX12_editionDay 34 = .ok (.iconst 1, 1) := by decide +kernel
theorem dX12_editionDay_35 : decode cX12_editionDay 35 = .ok (.invokevirtual 67, 3) := by decide +kernel
theorem dX12_editionDay_38 : decode cX12_editionDay 38 = .ok (.ifCond .eq 7, 3) := by decide +kernel
theorem dX12_editionDay_41 : decode cX12_editionDay 41 = .ok (.iconst 0, 1) := by decide +kernel
theorem dX12_editionDay_42 : decode cX12_editionDay 42 = .ok (.goto 17, 3) := by decide +kernel
theorem dX12_editionDay_45 : decode cX12_editionDay 45 = .ok (.aload_n 0, 1) := by decide +kernel
theorem dX12_editionDay_46 : decode cX12_editionDay 46 = .ok (.getfield 7, 3) := by decide +kernel
theorem dX12_editionDay_49 : decode cX12_editionDay 49 = .ok (.bipush 7, 2) := by decide +kernel
theorem dX12_editionDay_51 : decode cX12_editionDay 51 = .ok (.iload_n 1, 1) := by decide +kernel
theorem dX12_editionDay_52 : decode cX12_editionDay 52 = .ok (.iconst 1, 1) := by decide +kernel
theorem dX12_editionDay_53 : decode cX12_editionDay 53 = .ok (.isub, 1) := by decide +kernel
theorem dX12_editionDay_54 : decode cX12_editionDay 54 = .ok (.bipush 6, 2) := by decide +kernel
theorem dX12_editionDay_56 : decode cX12_editionDay 56 = .ok (.irem, 1) := by decide +kernel
theorem dX12_editionDay_57 : decode cX12_editionDay 57 = .ok (.iadd, 1) := by decide +kernel
theorem dX12_editionDay_58 : decode cX12_editionDay 58 = .ok (.iaload, 1) := by decide +kernel
theorem dX12_editionDay_59 : decode cX12_editionDay 59 = .ok (.ireturn, 1) := by decide +kernel
theorem dX12_meanLength_0 : decode cX12_meanLength 0 = .ok (.aload_n 0, 1) := by decide +kernel
theorem dX12_meanLength_1 : decode cX12_meanLength 1 = .ok (.aload_n 0, 1) := by decide +kernel
theorem dX12_meanLength_2 : decode cX12_meanLength 2 = .ok (.getfield 7, 3) := by decide +kernel
theorem dX12_meanLength_5 : decode cX12_meanLength 5 = .ok (.iconst 0, 1) := by decide +kernel
theorem dX12_meanLength_6 : decode cX12_meanLength 6 = .ok (.iaload, 1) := by decide +kernel
theorem dX12_meanLength_7 : decode cX12_meanLength 7 = .ok (.ifCond .ne 7, 3) := by decide +kernel
theorem dX12_meanLength_10 : decode cX12_meanLength 10 = .ok (.iconst 1, 1) := by decide +kernel
theorem dX12_meanLength_11 : decode cX12_meanLength 11 = .ok (.goto 4, 3) := by decide +kernel
theorem dX12_meanLength_14 : decode cX12_meanLength 14 = .ok (.iconst 0, 1) := by decide +kernel
theorem dX12_meanLength_15 : decode cX12_meanLength 15 = .ok (.invokevirtual 67, 3) := by decide +kernel
theorem dX12_meanLength_18 : decode cX12_meanLength 18 = .ok (.ifCond .eq 5, 3) := by decide +kernel
theorem dX12_meanLength_21 : decode cX12_meanLength 21 = .ok (.dconst 0, 1) := by decide +kernel
theorem dX12_meanLength_22 : decode cX12_meanLength 22 = .ok (.dreturn, 1) := by decide +kernel
theorem dX12_meanLength_23 : decode cX12_meanLength 23 = .ok (.iconst 0, 1) := by decide +kernel
theorem dX12_meanLength_24 : decode cX12_meanLength 24 = .ok (.istore_n 1, 1) := by decide +kernel
theorem dX12_meanLength_25 : decode cX12_meanLength 25 = .ok (.iconst 0, 1) := by decide +kernel
theorem dX12_meanLength_26 : decode cX12_meanLength 26 = .ok (.istore_n 2, 1) := by decide +kernel
theorem dX12_meanLength_27 : decode cX12_meanLength 27 = .ok (.iload_n 2, 1) := by decide +kernel
theorem dX12_meanLength_28 : decode cX12_meanLength 28 = .ok (.aload_n 0, 1) := by decide +kernel
theorem dX12_meanLength_29 : decode cX12_meanLength 29 = .ok (.getfield 7, 3) := by decide +kernel
theorem dX12_meanLength_32 : decode cX12_meanLength 32 = .ok (.iconst 0, 1) := by decide +kernel
theorem dX12_meanLength_33 : decode cX12_meanLength 33 = .ok (.iaload, 1) := by decide +kernel
theorem dX12_meanLength_34 : decode cX12_meanLength 34 = .ok (.if_icmp .ge 17, 3) := by decide +kernel
theorem dX12_meanLength_37 : decode cX12_meanLength 37 = .ok (.iload_n 1, 1) := by decide +kernel
theorem dX12_meanLength_38 : decode cX12_meanLength 38 = .ok (.aload_n 0, 1) := by decide +kernel
theorem dX12_meanLength_39 : decode cX12_meanLength 39 = .ok (.iload_n 2, 1) := by decide +kernel
theorem dX12_meanLength_40 : decode cX12_meanLength 40 = .ok (.invokevirtual 100, 3) := by decide +kernel
theorem dX12_meanLength_43 : decode cX12_meanLength 43 = .ok (.iadd, 1) := by decide +kernel
theorem dX12_meanLength_44 : decode cX12_meanLength 44 = .ok (.istore_n 1, 1) := by decide +kernel
theorem dX12_meanLength_45 : decode cX12_meanLength 45 = .ok (.iinc 2 1, 3) := by decide +kernel
theorem dX12_meanLength_48 : decode cX12_meanLength 48 = .ok (.goto (-21), 3) := by decide +kernel
theorem dX12_meanLength_51 : decode cX12_meanLength 51 = .ok (.iload_n 1, 1) := by decide +kernel
theorem dX12_meanLength_52 : decode cX12_meanLength 52 = .ok (.i2d, 1) := by decide +kernel
theorem dX12_meanLength_53 : decode cX12_meanLength 53 = .ok (.aload_n 0, 1) := by decide +kernel
theorem dX12_meanLength_54 : decode cX12_meanLength 54 = .ok (.getfield 7, 3) := by decide +kernel
theorem dX12_meanLength_57 : decode cX12_meanLength 57 = .ok (.iconst 0, 1) := by decide +kernel
theorem dX12_meanLength_58 : decode cX12_meanLength 58 = .ok (.iaload, 1) := by decide +kernel
theorem dX12_meanLength_59 : decode cX12_meanLength 59 = .ok (.i2d, 1) := by decide +kernel
theorem dX12_meanLength_60 : decode cX12_meanLength 60 = .ok (.ddiv, 1) := by decide +kernel
theorem dX12_meanLength_61 : decode cX12_meanLength 61 = .ok (.dreturn, 1) := by decide +kernel
theorem dX12_inForceShare_0 : decode cX12_inForceShare 0 = .ok (.aload_n 0, 1) := by decide +kernel
theorem dX12_inForceShare_1 : decode cX12_inForceShare 1 = .ok (.aload_n 0, 1) := by decide +kernel
theorem dX12_inForceShare_2 : decode cX12_inForceShare 2 = .ok (.getfield 7, 3) := by decide +kernel
theorem dX12_inForceShare_5 : decode cX12_inForceShare 5 = .ok (.iconst 0, 1) := by decide +kernel
theorem dX12_inForceShare_6 : decode cX12_inForceShare 6 = .ok (.iaload, 1) := by decide +kernel
theorem dX12_inForceShare_7 : decode cX12_inForceShare 7 = .ok (.ifCond .ne 7, 3) := by decide +kernel
theorem dX12_inForceShare_10 : decode cX12_inForceShare 10 = .ok (.iconst 1, 1) := by decide +kernel
theorem dX12_inForceShare_11 : decode cX12_inForceShare 11 = .ok (.goto 4, 3) := by decide +kernel
theorem dX12_inForceShare_14 : decode cX12_inForceShare 14 = .ok (.iconst 0, 1) := by decide +kernel
theorem dX12_inForceShare_15 : decode cX12_inForceShare 15 = .ok (.invokevirtual 67, 3) := by decide +kernel
theorem dX12_inForceShare_18 : decode cX12_inForceShare 18 = .ok (.ifCond .eq 7, 3) := by decide +kernel
theorem dX12_inForceShare_21 : decode cX12_inForceShare 21 = .ok (.fconst 0, 1) := by decide +kernel
theorem dX12_inForceShare_22 : decode cX12_inForceShare 22 = .ok (.goto 22, 3) := by decide +kernel
theorem dX12_inForceShare_25 : decode cX12_inForceShare 25 = .ok (.aload_n 0, 1) := by decide +kernel
theorem dX12_inForceShare_26 : decode cX12_inForceShare 26 = .ok (.aload_n 0, 1) := by decide +kernel
theorem dX12_inForceShare_27 : decode cX12_inForceShare 27 = .ok (.getfield 7, 3) := by decide +kernel
theorem dX12_inForceShare_30 : decode cX12_inForceShare 30 = .ok (.iconst 2, 1) := by decide +kernel
theorem dX12_inForceShare_31 : decode cX12_inForceShare 31 = .ok (.iaload, 1) := by decide +kernel
theorem dX12_inForceShare_32 : decode cX12_inForceShare 32 = .ok (.invokevirtual 136, 3) := by decide +kernel
theorem dX12_inForceShare_35 : decode cX12_inForceShare 35 = .ok (.i2f, 1) := by decide +kernel
theorem dX12_inForceShare_36 : decode cX12_inForceShare 36 = .ok (.aload_n 0, 1) := by decide +kernel
theorem dX12_inForceShare_37 : decode cX12_inForceShare 37 = .ok (.getfield 7, 3) := by decide +kernel
theorem dX12_inForceShare_40 : decode cX12_inForceShare 40 = .ok (.iconst 0, 1) := by decide +kernel
theorem dX12_inForceShare_41 : decode cX12_inForceShare 41 = .ok (.iaload, 1) := by decide +kernel
theorem dX12_inForceShare_42 : decode cX12_inForceShare 42 = .ok (.i2f, 1) := by decide +kernel
theorem dX12_inForceShare_43 : decode cX12_inForceShare 43 = .ok (.fdiv, 1) := by decide +kernel
theorem dX12_inForceShare_44 : decode cX12_inForceShare 44 = .ok (.freturn, 1) := by decide +kernel
theorem dX12_isConsistent_0 : decode cX12_isConsistent 0 = .ok (.aload_n 0, 1) := by decide +kernel
theorem dX12_isConsistent_1 : decode cX12_isConsistent 1 = .ok (.iconst 0, 1) := by decide +kernel
theorem dX12_isConsistent_2 : decode cX12_isConsistent 2 = .ok (.putfield 45, 3) := by decide +kernel
theorem dX12_isConsistent_5 : decode cX12_isConsistent 5 = .ok (.aload_n 0, 1) := by decide +kernel
theorem dX12_isConsistent_6 : decode cX12_isConsistent 6 = .ok (.getfield 7, 3) := by decide +kernel
theorem dX12_isConsistent_9 : decode cX12_isConsistent 9 = .ok (.iconst 0, 1) := by decide +kernel
theorem dX12_isConsistent_10 : decode cX12_isConsistent 10 = .ok (.iaload, 1) := by decide +kernel
theorem dX12_isConsistent_11 : decode cX12_isConsistent 11 = .ok (.aload_n 0, 1) := by decide +kernel
theorem dX12_isConsistent_12 : decode cX12_isConsistent 12 = .ok (.getfield 7, 3) := by decide +kernel
theorem dX12_isConsistent_15 : decode cX12_isConsistent 15 = .ok (.iconst 1, 1) := by decide +kernel
theorem dX12_isConsistent_16 : decode cX12_isConsistent 16 = .ok (.iaload, 1) := by decide +kernel
theorem dX12_isConsistent_17 : decode cX12_isConsistent 17 = .ok (.aload_n 0, 1) := by decide +kernel
theorem dX12_isConsistent_18 : decode cX12_isConsistent 18 = .ok (.getfield 7, 3) := by decide +kernel
theorem dX12_isConsistent_21 : decode cX12_isConsistent 21 = .ok (.iconst 4, 1) := by decide +kernel
theorem dX12_isConsistent_22 : decode cX12_isConsistent 22 = .ok (.iaload, 1) := by decide +kernel
theorem dX12_isConsistent_23 : decode cX12_isConsistent 23 = .ok (.isub, 1) := by decide +kernel
theorem dX12_isConsistent_24 : decode cX12_isConsistent 24 = .ok (.aload_n 0, 1) := by decide +kernel
theorem dX12_isConsistent_25 : decode cX12_isConsistent 25 = .ok (.getfield 7, 3) := by decide +kernel
theorem dX12_isConsistent_28 : decode cX12_isConsistent 28 = .ok (.iconst 5, 1) := by decide +kernel
theorem dX12_isConsistent_29 : decode cX12_isConsistent 29 = .ok (.iaload, 1) := by decide +kernel
theorem dX12_isConsistent_30 : decode cX12_isConsistent 30 = .ok (.isub, 1) := by decide +kernel
theorem dX12_isConsistent_31 : decode cX12_isConsistent 31 = .ok (.if_icmp .ne 7, 3) := by decide +kernel
theorem dX12_isConsistent_34 : decode cX12_isConsistent 34 = .ok (.iconst 1, 1) := by decide +kernel
theorem dX12_isConsistent_35 : decode cX12_isConsistent 35 = .ok (.goto 4, 3) := by decide +kernel
theorem dX12_isConsistent_38 : decode cX12_isConsistent 38 = .ok (.iconst 0, 1) := by decide +kernel
theorem dX12_isConsistent_39 : decode cX12_isConsistent 39 = .ok (.ireturn, 1) := by decide +kernel
theorem dX12_writes_0 : decode cX12_writes 0 = .ok (.aload_n 0, 1) := by decide +kernel
theorem dX12_writes_1 : decode cX12_writes 1 = .ok (.getfield 32, 3) := by decide +kernel
theorem dX12_writes_4 : decode cX12_writes 4 = .ok (.aload_n 0, 1) := by decide +kernel
theorem dX12_writes_5 : decode cX12_writes 5 = .ok (.getfield 170, 3) := by decide +kernel
theorem dX12_writes_8 : decode cX12_writes 8 = .ok (.iload_n 1, 1) := by decide +kernel
theorem dX12_writes_9 : decode cX12_writes 9 = .ok (.i2c, 1) := by decide +kernel
theorem dX12_writes_10 : decode cX12_writes 10 = .ok (.castore, 1) := by decide +kernel
theorem dX12_writes_11 : decode cX12_writes 11 = .ok (.aload_n 0, 1) := by decide +kernel
theorem dX12_writes_12 : decode cX12_writes 12 = .ok (.dup, 1) := by decide +kernel
theorem dX12_writes_13 : decode cX12_writes 13 = .ok (.getfield 170, 3) := by decide +kernel
theorem dX12_writes_16 : decode cX12_writes 16 = .ok (.iconst 1, 1) := by decide +kernel
theorem dX12_writes_17 : decode cX12_writes 17 = .ok (.iadd, 1) := by decide +kernel
theorem dX12_writes_18 : decode cX12_writes 18 = .ok (.putfield 170, 3) := by decide +kernel
theorem dX12_writes_21 : decode cX12_writes 21 = .ok (.return_, 1) := by decide +kernel
theorem dX12_writesNumber_0 : decode cX12_writesNumber 0 = .ok (.iload_n 1, 1) := by decide +kernel
theorem dX12_writesNumber_1 : decode cX12_writesNumber 1 = .ok (.bipush 9, 2) := by decide +kernel
theorem dX12_writesNumber_3 : decode cX12_writesNumber 3 = .ok (.if_icmp .le 11, 3) := by decide +kernel
theorem dX12_writesNumber_6 : decode cX12_writesNumber 6 = .ok (.aload_n 0, 1) := by decide +kernel
theorem dX12_writesNumber_7 : decode cX12_writesNumber 7 = .ok (.iload_n 1, 1) := by decide +kernel
theorem dX12_writesNumber_8 : decode cX12_writesNumber 8 = .ok (.bipush 10, 2) := by decide +kernel
theorem dX12_writesNumber_10 : decode cX12_writesNumber 10 = .ok (.idiv, 1) := by decide +kernel
theorem dX12_writesNumber_11 : decode cX12_writesNumber 11 = .ok (.invokevirtual 173, 3) := by decide +kernel
theorem dX12_writesNumber_14 : decode cX12_writesNumber 14 = .ok (.aload_n 0, 1) := by decide +kernel
theorem dX12_writesNumber_15 : decode cX12_writesNumber 15 = .ok (.bipush 48, 2) := by decide +kernel
theorem dX12_writesNumber_17 : decode cX12_writesNumber 17 = .ok (.iload_n 1, 1) := by decide +kernel
theorem dX12_writesNumber_18 : decode cX12_writesNumber 18 = .ok (.bipush 10, 2) := by decide +kernel
theorem dX12_writesNumber_20 : decode cX12_writesNumber 20 = .ok (.irem, 1) := by decide +kernel
theorem dX12_writesNumber_21 : decode cX12_writesNumber 21 = .ok (.iadd, 1) := by decide +kernel
theorem dX12_writesNumber_22 : decode cX12_writesNumber 22 = .ok (.invokevirtual 176, 3) := by decide +kernel
theorem dX12_writesNumber_25 : decode cX12_writesNumber 25 = .ok (.return_, 1) := by decide +kernel
theorem dX12_renderClause_0 : decode cX12_renderClause 0 = .ok (.aload_n 0, 1) := by decide +kernel
theorem dX12_renderClause_1 : decode cX12_renderClause 1 = .ok (.iload_n 1, 1) := by decide +kernel
theorem dX12_renderClause_2 : decode cX12_renderClause 2 = .ok (.invokevirtual 130, 3) := by decide +kernel
theorem dX12_renderClause_5 : decode cX12_renderClause 5 = .ok (.ifCond .eq 5, 3) := by decide +kernel
theorem dX12_renderClause_8 : decode cX12_renderClause 8 = .ok (.iconst 0, 1) := by decide +kernel
theorem dX12_renderClause_9 : decode cX12_renderClause 9 = .ok (.ireturn, 1) := by decide +kernel
theorem dX12_renderClause_10 : decode cX12_renderClause 10 = .ok (.aload_n 0, 1) := by decide +kernel
theorem dX12_renderClause_11 : decode cX12_renderClause 11 = .ok (.iload_n 1, 1) := by decide +kernel
theorem dX12_renderClause_12 : decode cX12_renderClause 12 = .ok (.invokevirtual 63, 3) := by decide +kernel
theorem dX12_renderClause_15 : decode cX12_renderClause 15 = .ok (.istore_n 2, 1) := by decide +kernel
theorem dX12_renderClause_16 : decode cX12_renderClause 16 = .ok (.aload_n 0, 1) := by decide +kernel
theorem dX12_renderClause_17 : decode cX12_renderClause 17 = .ok (.iconst 0, 1) := by decide +kernel
theorem dX12_renderClause_18 : decode cX12_renderClause 18 = .ok (.putfield 170, 3) := by decide +kernel
theorem dX12_renderClause_21 : decode cX12_renderClause 21 = .ok (.aload_n 0, 1) := by decide +kernel
theorem dX12_renderClause_22 : decode cX12_renderClause 22 = .ok (.aload_n 0, 1) := by decide +kernel
theorem dX12_renderClause_23 : decode cX12_renderClause 23 = .ok (.iload_n 2, 1) := by decide +kernel
theorem dX12_renderClause_24 : decode cX12_renderClause 24 = .ok (.iconst 1, 1) := by decide +kernel
theorem dX12_renderClause_25 : decode cX12_renderClause 25 = .ok (.invokevirtual 59, 3) := by decide +kernel
theorem dX12_renderClause_28 : decode cX12_renderClause 28 = .ok (.invokevirtual 173, 3) := by decide +kernel
theorem dX12_renderClause_31 : decode cX12_renderClause 31 = .ok (.aload_n 0, 1) := by decide +kernel
theorem dX12_renderClause_32 : decode cX12_renderClause 32 = .ok (.bipush 58, 2) := by decide +kernel
theorem dX12_renderClause_34 : decode cX12_renderClause 34 = .ok (.invokevirtual 176, 3) := by decide +kernel
theorem dX12_renderClause_37 : decode cX12_renderClause 37 = .ok (.iconst 0, 1) := by decide +kernel
theorem dX12_renderClause_38 : decode cX12_renderClause 38 = .ok (.istore_n 3, 1) := by decide +kernel
theorem dX12_renderClause_39 : decode cX12_renderClause 39 = .ok (.iload_n 3, 1) := by decide +kernel
theorem dX12_renderClause_40 : decode cX12_renderClause 40 = .ok (.aload_n 0, 1) := by decide +kernel
theorem dX12_renderClause_41 : decode cX12_renderClause 41 = .ok (.iload_n 2, 1) := by decide +kernel
theorem dX12_renderClause_42 : decode cX12_renderClause 42 = .ok (.invokevirtual 100, 3) := by decide +kernel
theorem dX12_renderClause_45 : decode cX12_renderClause 45 = .ok (.if_icmp .ge 24, 3) := by decide +kernel
theorem dX12_renderClause_48 : decode cX12_renderClause 48 = .ok (.aload_n 0, 1) := by decide +kernel
theorem dX12_renderClause_49 : decode cX12_renderClause 49 = .ok (.aload_n 0, 1) := by decide +kernel
theorem dX12_renderClause_50 : decode cX12_renderClause 50 = .ok (.iload_n 2, 1) := by decide +kernel
theorem dX12_renderClause_51 : decode cX12_renderClause 51 = .ok (.aload_n 0, 1) := by decide +kernel
theorem dX12_renderClause_52 : decode cX12_renderClause 52 = .ok (.iload_n 2, 1) := by decide +kernel
theorem dX12_renderClause_53 : decode cX12_renderClause 53 = .ok (.invokevirtual 93, 3) := by decide +kernel
theorem dX12_renderClause_56 : decode cX12_renderClause 56 = .ok (.iload_n 3, 1) := by decide +kernel
theorem dX12_renderClause_57 : decode cX12_renderClause 57 = .ok (.invokevirtual 109, 3) := by decide +kernel
theorem dX12_renderClause_60 : decode cX12_renderClause 60 = .ok (.invokevirtual 176, 3) := by decide +kernel
theorem dX12_renderClause_63 : decode cX12_renderClause 63 = .ok (.iinc 3 1, 3) := by decide +kernel
theorem dX12_renderClause_66 : decode cX12_renderClause 66 = .ok (.goto (-27), 3) := by decide +kernel
theorem dX12_renderClause_69 : decode cX12_renderClause 69 = .ok (.aload_n 0, 1) := by decide +kernel
theorem dX12_renderClause_70 : decode cX12_renderClause 70 = .ok (.iload_n 2, 1) := by decide +kernel
theorem dX12_renderClause_71 : decode cX12_renderClause 71 = .ok (.iconst 3, 1) := by decide +kernel
theorem dX12_renderClause_72 : decode cX12_renderClause 72 = .ok (.invokevirtual 59, 3) := by decide +kernel
theorem dX12_renderClause_75 : decode cX12_renderClause 75 = .ok (.ifCond .lt 19, 3) := by decide +kernel
theorem dX12_renderClause_78 : decode cX12_renderClause 78 = .ok (.aload_n 0, 1) := by decide +kernel
theorem dX12_renderClause_79 : decode cX12_renderClause 79 = .ok (.bipush 126, 2) := by decide +kernel
theorem dX12_renderClause_81 : decode cX12_renderClause 81 = .ok (.invokevirtual 176, 3) := by decide +kernel
theorem dX12_renderClause_84 : decode cX12_renderClause 84 = .ok (.aload_n 0, 1) := by decide +kernel
theorem dX12_renderClause_85 : decode cX12_renderClause 85 = .ok (.aload_n 0, 1) := by decide +kernel
theorem dX12_renderClause_86 : decode cX12_renderClause 86 = .ok (.iload_n 2, 1) := by decide +kernel
theorem dX12_renderClause_87 : decode cX12_renderClause 87 = .ok (.iconst 3, 1) := by decide +kernel
theorem dX12_renderClause_88 : decode cX12_renderClause 88 = .ok (.invokevirtual 59, 3) := by decide +kernel
theorem dX12_renderClause_91 : decode cX12_renderClause 91 = .ok (.invokevirtual 173, 3) := by decide +kernel
theorem dX12_renderClause_94 : decode cX12_renderClause 94 = .ok (.aload_n 0, 1) := by decide +kernel
theorem dX12_renderClause_95 : decode cX12_renderClause 95 = .ok (.iload_n 2, 1) := by decide +kernel
theorem dX12_renderClause_96 : decode cX12_renderClause 96 = .ok (.aload_n 0, 1) := by decide +kernel
theorem dX12_renderClause_97 : decode cX12_renderClause 97 = .ok (.getfield 7, 3) := by decide +kernel
theorem dX12_renderClause_100 : decode cX12_renderClause 100 = .ok (.iconst 2, 1) := by decide +kernel
theorem dX12_renderClause_101 : decode cX12_renderClause 101 = .ok (.iaload, 1) := by decide +kernel
theorem dX12_renderClause_102 : decode cX12_renderClause 102 = .ok (.invokevirtual 96, 3) := by decide +kernel
theorem dX12_renderClause_105 : decode cX12_renderClause 105 = .ok (.ifCond .ne 9, 3) := by decide +kernel
theorem dX12_renderClause_108 : decode cX12_renderClause 108 = .ok (.aload_n 0, 1) := by decide +kernel
theorem dX12_renderClause_109 : decode cX12_renderClause 109 = .ok (.bipush 33, 2) := by decide +kernel
theorem dX12_renderClause_111 : decode cX12_renderClause 111 = .ok (.invokevirtual 176, 3) := by decide +kernel
theorem dX12_renderClause_114 : decode cX12_renderClause 114 = .ok (.aload_n 0, 1) := by decide +kernel
theorem dX12_renderClause_115 : decode cX12_renderClause 115 = .ok (.getfield 170, 3) := by decide +kernel
theorem dX12_renderClause_118 : decode cX12_renderClause 118 = .ok (.ireturn, 1) := by decide +kernel
theorem dX12_outputAt_0 : decode cX12_outputAt 0 = .ok (.aload_n 0, 1) := by decide +kernel
theorem dX12_outputAt_1 : decode cX12_outputAt 1 = .ok (.iload_n 1, 1) := by decide +kernel
theorem dX12_outputAt_2 : decode cX12_outputAt 2 = .ok (.iconst 0, 1) := by decide +kernel
theorem dX12_outputAt_3 : decode cX12_outputAt 3 = .ok (.aload_n 0, 1) := by decide +kernel
theorem dX12_outputAt_4 : decode cX12_outputAt 4 = .ok (.getfield 170, 3) := by decide +kernel
theorem dX12_outputAt_7 : decode cX12_outputAt 7 = .ok (.iconst 1, 1) := by decide +kernel
theorem dX12_outputAt_8 : decode cX12_outputAt 8 = .ok (.isub, 1) := by decide +kernel
theorem dX12_outputAt_9 : decode cX12_outputAt 9 = .ok (.invokestatic 71, 3) := by decide +kernel
theorem dX12_outputAt_12 : decode cX12_outputAt 12 = .ok (.ifCond .eq 7, 3) := by decide +kernel
theorem dX12_outputAt_15 : decode cX12_outputAt 15 = .ok (.iconst 0, 1) := by decide +kernel
theorem dX12_outputAt_16 : decode cX12_outputAt 16 = .ok (.goto 4, 3) := by decide +kernel
theorem dX12_outputAt_19 : decode cX12_outputAt 19 = .ok (.iconst 1, 1) := by decide +kernel
theorem dX12_outputAt_20 : decode cX12_outputAt 20 = .ok (.invokevirtual 67, 3) := by decide +kernel
theorem dX12_outputAt_23 : decode cX12_outputAt 23 = .ok (.ifCond .eq 8, 3) := by decide +kernel
theorem dX12_outputAt_26 : decode cX12_outputAt 26 = .ok (.bipush 32, 2) := by decide +kernel
theorem dX12_outputAt_28 : decode cX12_outputAt 28 = .ok (.goto 9, 3) := by decide +kernel
theorem dX12_outputAt_31 : decode cX12_outputAt 31 = .ok (.aload_n 0, 1) := by decide +kernel
theorem dX12_outputAt_32 : decode cX12_outputAt 32 = .ok (.getfield 32, 3) := by decide +kernel
theorem dX12_outputAt_35 : decode cX12_outputAt 35 = .ok (.iload_n 1, 1) := by decide +kernel
theorem dX12_outputAt_36 : decode cX12_outputAt 36 = .ok (.caload, 1) := by decide +kernel
theorem dX12_outputAt_37 : decode cX12_outputAt 37 = .ok (.ireturn, 1) := by decide +kernel
theorem dX12_type_0 : decode cX12_type 0 = .ok (.aload_n 0, 1) := by decide +kernel
theorem dX12_type_1 : decode cX12_type 1 = .ok (.iload_n 1, 1) := by decide +kernel
theorem dX12_type_2 : decode cX12_type 2 = .ok (.bipush 32, 2) := by decide +kernel
theorem dX12_type_4 : decode cX12_type 4 = .ok (.bipush 126, 2) := by decide +kernel
theorem dX12_type_6 : decode cX12_type 6 = .ok (.invokestatic 71, 3) := by decide +kernel
theorem dX12_type_9 : decode cX12_type 9 = .ok (.ifCond .ne 7, 3) := by decide +kernel
theorem dX12_type_12 : decode cX12_type 12 = .ok (.iconst 1, 1) := by decide +kernel
theorem dX12_type_13 : decode cX12_type 13 = .ok (.goto 17, 3) := by decide +kernel
theorem dX12_type_16 : decode cX12_type 16 = .ok (.aload_n 0, 1) := by decide +kernel
theorem dX12_type_17 : decode cX12_type 17 = .ok (.getfield 179, 3) := by decide +kernel
theorem dX12_type_20 : decode cX12_type 20 = .ok (.bipush 60, 2) := by decide +kernel
theorem dX12_type_22 : decode cX12_type 22 = .ok (.if_icmp .ne 7, 3) := by decide +kernel
theorem dX12_type_25 : decode cX12_type 25 = .ok (.iconst 2, 1) := by decide +kernel
theorem dX12_type_26 : decode cX12_type 26 = .ok (.goto 4, 3) := by decide +kernel
theorem dX12_type_29 : decode cX12_type 29 = .ok (.iconst 0, 1) := by decide +kernel
theorem dX12_type_30 : decode cX12_type 30 = .ok (.invokevirtual 67, 3) := by decide +kernel
theorem dX12_type_33 : decode cX12_type 33 = .ok (.ifCond .eq 5, 3) := by decide +kernel
theorem dX12_type_36 : decode cX12_type 36 = .ok (.iconst 0, 1) := by decide +kernel
theorem dX12_type_37 : decode cX12_type 37 = .ok (.ireturn, 1) := by decide +kernel
theorem dX12_type_38 : decode cX12_type 38 = .ok (.aload_n 0, 1) := by decide +kernel
theorem dX12_type_39 : decode cX12_type 39 = .ok (.getfield 22, 3) := by decide +kernel
theorem dX12_type_42 : decode cX12_type 42 = .ok (.aload_n 0, 1) := by decide +kernel
theorem dX12_type_43 : decode cX12_type 43 = .ok (.getfield 179, 3) := by decide +kernel
theorem dX12_type_46 : decode cX12_type 46 = .ok (.iload_n 1, 1) := by decide +kernel
theorem dX12_type_47 : decode cX12_type 47 = .ok (.iastore, 1) := by decide +kernel
theorem dX12_type_48 : decode cX12_type 48 = .ok (.aload_n 0, 1) := by decide +kernel
theorem dX12_type_49 : decode cX12_type 49 = .ok (.dup, 1) := by decide +kernel
theorem dX12_type_50 : decode cX12_type 50 = .ok (.getfield 179, 3) := by decide +kernel
theorem dX12_type_53 : decode cX12_type 53 = .ok (.iconst 1, 1) := by decide +kernel
theorem dX12_type_54 : decode cX12_type 54 = .ok (.iadd, 1) := by decide +kernel
theorem dX12_type_55 : decode cX12_type 55 = .ok (.putfield 179, 3) := by decide +kernel
theorem dX12_type_58 : decode cX12_type 58 = .ok (.aload_n 0, 1) := by decide +kernel
theorem dX12_type_59 : decode cX12_type 59 = .ok (.getfield 179, 3) := by decide +kernel
theorem dX12_type_62 : decode cX12_type 62 = .ok (.ireturn, 1) := by decide +kernel
theorem dX12_here_0 : decode cX12_here 0 = .ok (.aload_n 0, 1) := by decide +kernel
theorem dX12_here_1 : decode cX12_here 1 = .ok (.getfield 182, 3) := by decide +kernel
theorem dX12_here_4 : decode cX12_here 4 = .ok (.aload_n 0, 1) := by decide +kernel
theorem dX12_here_5 : decode cX12_here 5 = .ok (.getfield 179, 3) := by decide +kernel
theorem dX12_here_8 : decode cX12_here 8 = .ok (.if_icmp .ge 15, 3) := by decide +kernel
theorem dX12_here_11 : decode cX12_here 11 = .ok (.aload_n 0, 1) := by decide +kernel
theorem dX12_here_12 : decode cX12_here 12 = .ok (.getfield 22, 3) := by decide +kernel
theorem dX12_here_15 : decode cX12_here 15 = .ok (.aload_n 0, 1) := by decide +kernel
theorem dX12_here_16 : decode cX12_here 16 = .ok (.getfield 182, 3) := by decide +kernel
theorem dX12_here_19 : decode cX12_here 19 = .ok (.iaload, 1) := by decide +kernel
theorem dX12_here_20 : decode cX12_here 20 = .ok (.goto 4, 3) := by decide +kernel
theorem dX12_here_23 : decode cX12_here 23 = .ok (.iconst (-1), 1) := by decide +kernel
theorem dX12_here_24 : decode cX12_here 24 = .ok (.ireturn, 1) := by decide +kernel
theorem dX12_skips_0 : decode cX12_skips 0 = .ok (.aload_n 0, 1) := by decide +kernel
theorem dX12_skips_1 : decode cX12_skips 1 = .ok (.invokevirtual 185, 3) := by decide +kernel
theorem dX12_skips_4 : decode cX12_skips 4 = .ok (.iload_n 1, 1) := by decide +kernel
theorem dX12_skips_5 : decode cX12_skips 5 = .ok (.if_icmp .eq 5, 3) := by decide +kernel
theorem dX12_skips_8 : decode cX12_skips 8 = .ok (.iconst 0, 1) := by decide +kernel
theorem dX12_skips_9 : decode cX12_skips 9 = .ok (.ireturn, 1) := by decide +kernel
theorem dX12_skips_10 : decode cX12_skips 10 = .ok (.aload_n 0, 1) := by decide +kernel
theorem dX12_skips_11 : decode cX12_skips 11 = .ok (.dup, 1) := by decide +kernel
theorem dX12_skips_12 : decode cX12_skips 12 = .ok (.getfield 182, 3) := by decide +kernel
theorem dX12_skips_15 : decode cX12_skips 15 = .ok (.iconst 1, 1) := by decide +kernel
theorem dX12_skips_16 : decode cX12_skips 16 = .ok (.iadd, 1) := by decide +kernel
theorem dX12_skips_17 : decode cX12_skips 17 = .ok (.putfield 182, 3) := by decide +kernel
theorem dX12_skips_20 : decode cX12_skips 20 = .ok (.iconst 1, 1) := by decide +kernel
theorem dX12_skips_21 : decode cX12_skips 21 = .ok (.ireturn, 1) := by decide +kernel
theorem dX12_isWord_0 : decode cX12_isWord 0 = .ok (.aload_n 0, 1) := by decide +kernel
theorem dX12_isWord_1 : decode cX12_isWord 1 = .ok (.getfield 42, 3) := by decide +kernel
theorem dX12_isWord_4 : decode cX12_isWord 4 = .ok (.iconst 4, 1) := by decide +kernel
theorem dX12_isWord_5 : decode cX12_isWord 5 = .ok (.aload_n 0, 1) := by decide +kernel
theorem dX12_isWord_6 : decode cX12_isWord 6 = .ok (.getfield 188, 3) := by decide +kernel
theorem dX12_isWord_9 : decode cX12_isWord 9 = .ok (.imul, 1) := by decide +kernel
theorem dX12_isWord_10 : decode cX12_isWord 10 = .ok (.iload_n 1, 1) := by decide +kernel
theorem dX12_isWord_11 : decode cX12_isWord 11 = .ok (.iastore, 1) := by decide +kernel
theorem dX12_isWord_12 : decode cX12_isWord 12 = .ok (.iconst 0, 1) := by decide +kernel
theorem dX12_isWord_13 : decode cX12_isWord 13 = .ok (.istore_n 3, 1) := by decide +kernel
theorem dX12_isWord_14 : decode cX12_isWord 14 = .ok (.iload_n 3, 1) := by decide +kernel
theorem dX12_isWord_15 : decode cX12_isWord 15 = .ok (.aload_n 2, 1) := by decide +kernel
theorem dX12_isWord_16 : decode cX12_isWord 16 = .ok (.invokevirtual 191, 3) := by decide +kernel
theorem dX12_isWord_19 : decode cX12_isWord 19 = .ok (.if_icmp .ge 23, 3) := by decide +kernel
theorem dX12_isWord_22 : decode cX12_isWord 22 = .ok (.aload_n 0, 1) := by decide +kernel
theorem dX12_isWord_23 : decode cX12_isWord 23 = .ok (.aload_n 2, 1) := by decide +kernel
theorem dX12_isWord_24 : decode cX12_isWord 24 = .ok (.iload_n 3, 1) := by decide +kernel
theorem dX12_isWord_25 : decode cX12_isWord 25 = .ok (.invokevirtual 196, 3) := by decide +kernel
theorem dX12_isWord_28 : decode cX12_isWord 28 = .ok (.invokevirtual 200, 3) := by decide +kernel
theorem dX12_isWord_31 : decode cX12_isWord 31 = .ok (.ifCond .ne 5, 3) := by decide +kernel
theorem dX12_isWord_34 : decode cX12_isWord 34 = .ok (.iconst 0, 1) := by decide +kernel
theorem dX12_isWord_35 : decode cX12_isWord 35 = .ok (.ireturn, 1) := by decide +kernel
theorem dX12_isWord_36 : decode cX12_isWord 36 = .ok (.iinc 3 1, 3) := by decide +kernel
theorem dX12_isWord_39 : decode cX12_isWord 39 = .ok (.goto (-25), 3) := by decide +kernel
theorem dX12_isWord_42 : decode cX12_isWord 42 = .ok (.iconst 1, 1) := by decide +kernel
theorem dX12_isWord_43 : decode cX12_isWord 43 = .ok (.ireturn, 1) := by decide +kernel
theorem dX12_figures_0 : decode cX12_figures 0 = .ok (.aload_n 0, 1) := by decide +kernel
theorem dX12_figures_1 : decode cX12_figures 1 = .ok (.bipush 32, 2) := by decide +kernel
theorem dX12_figures_3 : decode cX12_figures 3 = .ok (.invokevirtual 200, 3) := by decide +kernel
theorem dX12_figures_6 : decode cX12_figures 6 = .ok (.ifCond .eq 17, 3) := by decide +kernel
theorem dX12_figures_9 : decode cX12_figures 9 = .ok (.aload_n 0, 1) := by decide +kernel
theorem dX12_figures_10 : decode cX12_figures 10 = .ok (.invokevirtual 185, 3) := by decide +kernel
theorem dX12_figures_13 : decode cX12_figures 13 = .ok (.bipush 48, 2) := by decide +kernel
theorem dX12_figures_15 : decode cX12_figures 15 = .ok (.bipush 57, 2) := by decide +kernel
theorem dX12_figures_17 : decode cX12_figures 17 = .ok (.invokestatic 71, 3) := by decide +kernel
theorem dX12_figures_20 : decode cX12_figures 20 = .ok (.ifCond .ne 5, 3) := by decide +kernel
theorem dX12_figures_23 : decode cX12_figures 23 = .ok (.iconst 0, 1) := by decide +kernel
theorem dX12_figures_24 : decode cX12_figures 24 = .ok (.ireturn, 1) := by decide +kernel
theorem dX12_figures_25 : decode cX12_figures 25 = .ok (.aload_n 0, 1) := by decide +kernel
theorem dX12_figures_26 : decode cX12_figures 26 = .ok (.getfield 42, 3) := by decide +kernel
theorem dX12_figures_29 : decode cX12_figures 29 = .ok (.iload_n 1, 1) := by decide +kernel
theorem dX12_figures_30 : decode cX12_figures 30 = .ok (.iconst 0, 1) := by decide +kernel
theorem dX12_figures_31 : decode cX12_figures 31 = .ok (.iastore, 1) := by decide +kernel
theorem dX12_figures_32 : decode cX12_figures 32 = .ok (.iconst 0, 1) := by decide +kernel
theorem dX12_figures_33 : decode cX12_figures 33 = .ok (.istore_n 2, 1) := by decide +kernel
theorem dX12_figures_34 : decode cX12_figures 34 = .ok (.iload_n 2, 1) := by decide +kernel
theorem dX12_figures_35 : decode cX12_figures 35 = .ok (.iconst 3, 1) := by decide +kernel
theorem dX12_figures_36 : decode cX12_figures 36 = .ok (.if_icmp .ge 56, 3) := by decide +kernel
theorem dX12_figures_39 : decode cX12_figures 39 = .ok (.aload_n 0, 1) := by decide +kernel
theorem dX12_figures_40 : decode cX12_figures 40 = .ok (.invokevirtual 185, 3) := by decide +kernel
theorem dX12_figures_43 : decode cX12_figures 43 = .ok (.bipush 48, 2) := by decide +kernel
theorem dX12_figures_45 : decode cX12_figures 45 = .ok (.bipush 57, 2) := by decide +kernel
theorem dX12_figures_47 : decode cX12_figures 47 = .ok (.invokestatic 71, 3) := by decide +kernel
theorem dX12_figures_50 : decode cX12_figures 50 = .ok (.ifCond .eq 42, 3) := by decide +kernel
theorem dX12_figures_53 : decode cX12_figures 53 = .ok (.aload_n 0, 1) := by decide +kernel
theorem dX12_figures_54 : decode cX12_figures 54 = .ok (.getfield 42, 3) := by decide +kernel
theorem dX12_figures_57 : decode cX12_figures 57 = .ok (.iload_n 1, 1) := by decide +kernel
theorem dX12_figures_58 : decode cX12_figures 58 = .ok (.bipush 10, 2) := by decide +kernel
theorem dX12_figures_60 : decode cX12_figures 60 = .ok (.aload_n 0, 1) := by decide +kernel
theorem dX12_figures_61 : decode cX12_figures 61 = .ok (.getfield 42, 3) := by decide +kernel
theorem dX12_figures_64 : decode cX12_figures 64 = .ok (.iload_n 1, 1) := by decide +kernel
theorem dX12_figures_65 : decode cX12_figures 65 = .ok (.iaload, 1) := by decide +kernel
theorem dX12_figures_66 : decode cX12_figures 66 = .ok (.imul, 1) := by decide +kernel
theorem dX12_figures_67 : decode cX12_figures 67 = .ok (.aload_n 0, 1) := by decide +kernel
theorem dX12_figures_68 : decode cX12_figures 68 = .ok (.invokevirtual 185, 3) := by decide +kernel
theorem dX12_figures_71 : decode cX12_figures 71 = .ok (.iadd, 1) := by decide +kernel
theorem dX12_figures_72 : decode cX12_figures 72 = .ok (.bipush 48, 2) := by decide +kernel
theorem dX12_figures_74 : decode cX12_figures 74 = .ok (.isub, 1) := by decide +kernel
theorem dX12_figures_75 : decode cX12_figures 75 = .ok (.iastore, 1) := by decide +kernel
theorem dX12_figures_76 : decode cX12_figures 76 = .ok (.aload_n 0, 1) := by decide +kernel
theorem dX12_figures_77 : decode cX12_figures 77 = .ok (.dup, 1) := by decide +kernel
theorem dX12_figures_78 : decode cX12_figures 78 = .ok (.getfield 182, 3) := by decide +kernel
theorem dX12_figures_81 : decode cX12_figures 81 = .ok (.iconst 1, 1) := by decide +kernel
theorem dX12_figures_82 : decode cX12_figures 82 = .ok (.iadd, 1) := by decide +kernel
theorem dX12_figures_83 : decode cX12_figures 83 = .ok (.putfield 182, 3) := by decide +kernel
theorem dX12_figures_86 : decode cX12_figures 86 = .ok (.iinc 2 1, 3) := by decide +kernel
theorem dX12_figures_89 : decode cX12_figures 89 = .ok (.goto (-55), 3) := by decide +kernel
theorem dX12_figures_92 : decode cX12_figures 92 = .ok (.iconst 1, 1) := by decide +kernel
theorem dX12_figures_93 : decode cX12_figures 93 = .ok (.ireturn, 1) := by decide +kernel
theorem dX12_noteHere_0 : decode cX12_noteHere 0 = .ok (.aload_n 0, 1) := by decide +kernel
theorem dX12_noteHere_1 : decode cX12_noteHere 1 = .ok (.invokevirtual 185, 3) := by decide +kernel
theorem dX12_noteHere_4 : decode cX12_noteHere 4 = .ok (.invokestatic 79, 3) := by decide +kernel
theorem dX12_noteHere_7 : decode cX12_noteHere 7 = .ok (.ifCond .ne 5, 3) := by decide +kernel
theorem dX12_noteHere_10 : decode cX12_noteHere 10 = .ok (.iconst 0, 1) := by decide +kernel
theorem dX12_noteHere_11 : decode cX12_noteHere 11 = .ok (.ireturn, 1) := by decide +kernel
theorem dX12_noteHere_12 : decode cX12_noteHere 12 = .ok (.aload_n 0, 1) := by decide +kernel
theorem dX12_noteHere_13 : decode cX12_noteHere 13 = .ok (.getfield 42, 3) := by decide +kernel
theorem dX12_noteHere_16 : decode cX12_noteHere 16 = .ok (.iload_n 1, 1) := by decide +kernel
theorem dX12_noteHere_17 : decode cX12_noteHere 17 = .ok (.aload_n 0, 1) := by decide +kernel
theorem dX12_noteHere_18 : decode cX12_noteHere 18 = .ok (.invokevirtual 185, 3) := by decide +kernel
theorem dX12_noteHere_21 : decode cX12_noteHere 21 = .ok (.iastore, 1) := by decide +kernel
theorem dX12_noteHere_22 : decode cX12_noteHere 22 = .ok (.aload_n 0, 1) := by decide +kernel
theorem dX12_noteHere_23 : decode cX12_noteHere 23 = .ok (.dup, 1) := by decide +kernel
theorem dX12_noteHere_24 : decode cX12_noteHere 24 = .ok (.getfield 182, 3) := by decide +kernel
theorem dX12_noteHere_27 : decode cX12_noteHere 27 = .ok (.iconst 1, 1) := by decide +kernel
theorem dX12_noteHere_28 : decode cX12_noteHere 28 = .ok (.iadd, 1) := by decide +kernel
theorem dX12_noteHere_29 : decode cX12_noteHere 29 = .ok (.putfield 182, 3) := by decide +kernel
theorem dX12_noteHere_32 : decode cX12_noteHere 32 = .ok (.iconst 1, 1) := by decide +kernel
theorem dX12_noteHere_33 : decode cX12_noteHere 33 = .ok (.ireturn, 1) := by decide +kernel
theorem dX12_bothHere_0 : decode cX12_bothHere 0 = .ok (.aload_n 0, 1) := by decide +kernel
theorem dX12_bothHere_1 : decode cX12_bothHere 1 = .ok (.iload_n 1, 1) := by decide +kernel
theorem dX12_bothHere_2 : decode cX12_bothHere 2 = .ok (.invokevirtual 203, 3) := by decide +kernel
theorem dX12_bothHere_5 : decode cX12_bothHere 5 = .ok (.ifCond .eq 17, 3) := by decide +kernel
theorem dX12_bothHere_8 : decode cX12_bothHere 8 = .ok (.aload_n 0, 1) := by decide +kernel
theorem dX12_bothHere_9 : decode cX12_bothHere 9 = .ok (.iload_n 1, 1) := by decide +kernel
theorem dX12_bothHere_10 : decode cX12_bothHere 10 = .ok (.iconst 1, 1) := by decide +kernel
theorem dX12_bothHere_11 : decode cX12_bothHere 11 = .ok (.iadd, 1) := by decide +kernel
theorem dX12_bothHere_12 : decode cX12_bothHere 12 = .ok (.invokevirtual 203, 3) := by decide +kernel
theorem dX12_bothHere_15 : decode cX12_bothHere 15 = .ok (.ifCond .eq 7, 3) := by decide +kernel
theorem dX12_bothHere_18 : decode cX12_bothHere 18 = .ok (.iconst 1, 1) := by decide +kernel
theorem dX12_bothHere_19 : decode cX12_bothHere 19 = .ok (.goto 4, 3) := by decide +kernel
theorem dX12_bothHere_22 : decode cX12_bothHere 22 = .ok (.iconst 0, 1) := by decide +kernel
theorem dX12_bothHere_23 : decode cX12_bothHere 23 = .ok (.ireturn, 1) := by decide +kernel
theorem dX12_commandHere_0 : decode cX12_commandHere 0 = .ok (.iconst 4, 1) := by decide +kernel
theorem dX12_commandHere_1 : decode cX12_commandHere 1 = .ok (.aload_n 0, 1) := by decide +kernel
theorem dX12_commandHere_2 : decode cX12_commandHere 2 = .ok (.getfield 188, 3) := by decide +kernel
theorem dX12_commandHere_5 : decode cX12_commandHere 5 = .ok (.imul, 1) := by decide +kernel
theorem dX12_commandHere_6 : decode cX12_commandHere 6 = .ok (.iconst 1, 1) := by decide +kernel
theorem dX12_commandHere_7 : decode cX12_commandHere 7 = .ok (.iadd, 1) := by decide +kernel
theorem dX12_commandHere_8 : decode cX12_commandHere 8 = .ok (.istore_n 1, 1) := by decide +kernel
theorem dX12_commandHere_9 : decode cX12_commandHere 9 = .ok (.aload_n 0, 1) := by decide +kernel
theorem dX12_commandHere_10 : decode cX12_commandHere 10 = .ok (.bipush 97, 2) := by decide +kernel
theorem dX12_commandHere_12 : decode cX12_commandHere 12 = .ok (.invokevirtual 200, 3) := by decide +kernel
theorem dX12_commandHere_15 : decode cX12_commandHere 15 = .ok (.ifCond .eq 46, 3) := by decide +kernel
theorem dX12_commandHere_18 : decode cX12_commandHere 18 = .ok (.aload_n 0, 1) := by decide +kernel
theorem dX12_commandHere_19 : decode cX12_commandHere 19 = .ok (.iconst 0, 1) := by decide +kernel
theorem dX12_commandHere_20 : decode cX12_commandHere 20 = .ok (.ldc 206, 2) := by decide +kernel
theorem dX12_commandHere_22 : decode cX12_commandHere 22 = .ok (.invokevirtual 208, 3) := by decide +kernel
theorem dX12_commandHere_25 : decode cX12_commandHere 25 = .ok (.ifCond .eq 34, 3) := by decide +kernel
theorem dX12_commandHere_28 : decode cX12_commandHere 28 = .ok (.aload_n 0, 1) := by decide +kernel
theorem dX12_commandHere_29 : decode cX12_commandHere 29 = .ok (.iload_n 1, 1) := by decide +kernel
theorem dX12_commandHere_30 : decode cX12_commandHere 30 = .ok (.invokevirtual 203, 3) := by decide +kernel
theorem dX12_commandHere_33 : decode cX12_commandHere 33 = .ok (.ifCond .eq 26, 3) := by decide +kernel
theorem dX12_commandHere_36 : decode cX12_commandHere 36 = .ok (.aload_n 0, 1) := by decide +kernel
theorem dX12_commandHere_37 : decode cX12_commandHere 37 = .ok (.bipush 32, 2) := by decide +kernel
theorem dX12_commandHere_39 : decode cX12_commandHere 39 = .ok (.invokevirtual 200, 3) := by decide +kernel
theorem dX12_commandHere_42 : decode cX12_commandHere 42 = .ok (.ifCond .eq 17, 3) := by decide +kernel
theorem dX12_commandHere_45 : decode cX12_commandHere 45 = .ok (.aload_n 0, 1) := by decide +kernel
theorem dX12_commandHere_46 : decode cX12_commandHere 46 = .ok (.iload_n 1, 1) := by decide +kernel
theorem dX12_commandHere_47 : decode cX12_commandHere 47 = .ok (.iconst 2, 1) := by decide +kernel
theorem dX12_commandHere_48 : decode cX12_commandHere 48 = .ok (.iadd, 1) := by decide +kernel
theorem dX12_commandHere_49 : decode cX12_commandHere 49 = .ok (.invokevirtual 212, 3) := by decide +kernel
theorem dX12_commandHere_52 : decode cX12_commandHere 52 = .ok (.ifCond .eq 7, 3) := by decide +kernel
theorem dX12_commandHere_55 : decode cX12_commandHere 55 = .ok (.iconst 1, 1) := by decide +kernel
theorem dX12_commandHere_56 : decode cX12_commandHere 56 = .ok (.goto 4, 3) := by decide +kernel
theorem dX12_commandHere_59 : decode cX12_commandHere 59 = .ok (.iconst 0, 1) := by decide +kernel
theorem dX12_commandHere_60 : decode cX12_commandHere 60 = .ok (.ireturn, 1) := by decide +kernel
theorem dX12_commandHere_61 : decode cX12_commandHere 61 = .ok (.aload_n 0, 1) := by decide +kernel
theorem dX12_commandHere_62 : decode cX12_commandHere 62 = .ok (.bipush 112, 2) := by decide +kernel
theorem dX12_commandHere_64 : decode cX12_commandHere 64 = .ok (.invokevirtual 200, 3) := by decide +kernel
theorem dX12_commandHere_67 : decode cX12_commandHere 67 = .ok (.ifCond .eq 37, 3) := by decide +kernel
theorem dX12_commandHere_70 : decode cX12_commandHere 70 = .ok (.aload_n 0, 1) := by decide +kernel
theorem dX12_commandHere_71 : decode cX12_commandHere 71 = .ok (.iconst 1, 1) := by decide +kernel
theorem dX12_commandHere_72 : decode cX12_commandHere 72 = .ok (.ldc 215, 2) := by decide +kernel
theorem dX12_commandHere_74 : decode cX12_commandHere 74 = .ok (.invokevirtual 208, 3) := by decide +kernel
theorem dX12_commandHere_77 : decode cX12_commandHere 77 = .ok (.ifCond .eq 25, 3) := by decide +kernel
theorem dX12_commandHere_80 : decode cX12_commandHere 80 = .ok (.aload_n 0, 1) := by decide +kernel
theorem dX12_commandHere_81 : decode cX12_commandHere 81 = .ok (.iload_n 1, 1) := by decide +kernel
theorem dX12_commandHere_82 : decode cX12_commandHere 82 = .ok (.invokevirtual 217, 3) := by decide +kernel
theorem dX12_commandHere_85 : decode cX12_commandHere 85 = .ok (.ifCond .eq 17, 3) := by decide +kernel
theorem dX12_commandHere_88 : decode cX12_commandHere 88 = .ok (.aload_n 0, 1) := by decide +kernel
theorem dX12_commandHere_89 : decode cX12_commandHere 89 = .ok (.iload_n 1, 1) := by decide +kernel
theorem dX12_commandHere_90 : decode cX12_commandHere 90 = .ok (.iconst 2, 1) := by decide +kernel
theorem dX12_commandHere_91 : decode cX12_commandHere 91 = .ok (.iadd, 1) := by decide +kernel
theorem dX12_commandHere_92 : decode cX12_commandHere 92 = .ok (.invokevirtual 212, 3) := by decide +kernel
theorem dX12_commandHere_95 : decode cX12_commandHere 95 = .ok (.ifCond .eq 7, 3) := by decide +kernel
theorem dX12_commandHere_98 : decode cX12_commandHere 98 = .ok (.iconst 1, 1) := by decide +kernel
theorem dX12_commandHere_99 : decode cX12_commandHere 99 = .ok (.goto 4, 3) := by decide +kernel
theorem dX12_commandHere_102 : decode cX12_commandHere 102 = .ok (.iconst 0, 1) := by decide +kernel
theorem dX12_commandHere_103 : decode cX12_commandHere 103 = .ok (.ireturn, 1) := by decide +kernel
theorem dX12_commandHere_104 : decode cX12_commandHere 104 = .ok (.aload_n 0, 1) := by decide +kernel
theorem dX12_commandHere_105 : decode cX12_commandHere 105 = .ok (.bipush 115, 2) := by decide +kernel
theorem dX12_commandHere_107 : decode cX12_commandHere 107 = .ok (.invokevirtual 200, 3) := by decide +kernel
theorem dX12_commandHere_110 : decode cX12_commandHere 110 = .ok (.ifCond .eq 72, 3) := by decide +kernel
theorem dX12_commandHere_113 : decode cX12_commandHere 113 = .ok (.aload_n 0, 1) := by decide +kernel
theorem dX12_commandHere_114 : decode cX12_commandHere 114 = .ok (.bipush 117, 2) := by decide +kernel
theorem dX12_commandHere_116 : decode cX12_commandHere 116 = .ok (.invokevirtual 200, 3) := by decide +kernel
theorem dX12_commandHere_119 : decode cX12_commandHere 119 = .ok (.ifCond .eq 29, 3) := by decide +kernel
theorem dX12_commandHere_122 : decode cX12_commandHere 122 = .ok (.aload_n 0, 1) := by decide +kernel
theorem dX12_commandHere_123 : decode cX12_commandHere 123 = .ok (.iconst 4, 1) := by decide +kernel
theorem dX12_commandHere_124 : decode cX12_commandHere 124 = .ok (.ldc 220, 2) := by decide +kernel
theorem dX12_commandHere_126 : decode cX12_commandHere 126 = .ok (.invokevirtual 208, 3) := by decide +kernel
theorem dX12_commandHere_129 : decode cX12_commandHere 129 = .ok (.ifCond .eq 15, 3) := by decide +kernel
theorem dX12_commandHere_132 : decode cX12_commandHere 132 = .ok (.aload_n 0, 1) := by decide +kernel
theorem dX12_commandHere_133 : decode cX12_commandHere 133 = .ok (.iload_n 1, 1) := by decide +kernel
theorem dX12_commandHere_134 : decode cX12_commandHere 134 = .ok (.invokevirtual 217, 3) := by decide +kernel
theorem dX12_commandHere_137 : decode cX12_commandHere 137 = .ok (.ifCond .eq 7, 3) := by decide +kernel
theorem dX12_commandHere_140 : decode cX12_commandHere 140 = .ok (.iconst 1, 1) := by decide +kernel
theorem dX12_commandHere_141 : decode cX12_commandHere 141 = .ok (.goto 40, 3) := by decide +kernel
theorem dX12_commandHere_144 : decode cX12_commandHere 144 = .ok (.iconst 0, 1) := by decide +kernel
theorem dX12_commandHere_145 : decode cX12_commandHere 145 = .ok (.goto 36, 3) := by decide +kernel
theorem dX12_commandHere_148 : decode cX12_commandHere 148 = .ok (.aload_n 0, 1) := by decide +kernel
theorem dX12_commandHere_149 : decode cX12_commandHere 149 = .ok (.iconst 2, 1) := by decide +kernel
theorem dX12_commandHere_150 : decode cX12_commandHere 150 = .ok (.ldc 222, 2) := by decide +kernel
theorem dX12_commandHere_152 : decode cX12_commandHere 152 = .ok (.invokevirtual 208, 3) := by decide +kernel
theorem dX12_commandHere_155 : decode cX12_commandHere 155 = .ok (.ifCond .eq 25, 3) := by decide +kernel
theorem dX12_commandHere_158 : decode cX12_commandHere 158 = .ok (.aload_n 0, 1) := by decide +kernel
theorem dX12_commandHere_159 : decode cX12_commandHere 159 = .ok (.iload_n 1, 1) := by decide +kernel
theorem dX12_commandHere_160 : decode cX12_commandHere 160 = .ok (.invokevirtual 217, 3) := by decide +kernel
theorem dX12_commandHere_163 : decode cX12_commandHere 163 = .ok (.ifCond .eq 17, 3) := by decide +kernel
theorem dX12_commandHere_166 : decode cX12_commandHere 166 = .ok (.aload_n 0, 1) := by decide +kernel
theorem dX12_commandHere_167 : decode cX12_commandHere 167 = .ok (.iload_n 1, 1) := by decide +kernel
theorem dX12_commandHere_168 : decode cX12_commandHere 168 = .ok (.iconst 2, 1) := by decide +kernel
theorem dX12_commandHere_169 : decode cX12_commandHere 169 = .ok (.iadd, 1) := by decide +kernel
theorem dX12_commandHere_170 : decode cX12_commandHere 170 = .ok (.invokevirtual 212, 3) := by decide +kernel
theorem dX12_commandHere_173 : decode cX12_commandHere 173 = .ok (.ifCond .eq 7, 3) := by decide +kernel
theorem dX12_commandHere_176 : decode cX12_commandHere 176 = .ok (.iconst 1, 1) := by decide +kernel
theorem dX12_commandHere_177 : decode cX12_commandHere 177 = .ok (.goto 4, 3) := by decide +kernel
theorem dX12_commandHere_180 : decode cX12_commandHere 180 = .ok (.iconst 0, 1) := by decide +kernel
theorem dX12_commandHere_181 : decode cX12_commandHere 181 = .ok (.ireturn, 1) := by decide +kernel
theorem dX12_commandHere_182 : decode cX12_commandHere 182 = .ok (.aload_n 0, 1) := by decide +kernel
theorem dX12_commandHere_183 : decode cX12_commandHere 183 = .ok (.bipush 99, 2) := by decide +kernel
theorem dX12_commandHere_185 : decode cX12_commandHere 185 = .ok (.invokevirtual 200, 3) := by decide +kernel
theorem dX12_commandHere_188 : decode cX12_commandHere 188 = .ok (.ifCond .eq 62, 3) := by decide +kernel
theorem dX12_commandHere_191 : decode cX12_commandHere 191 = .ok (.aload_n 0, 1) := by decide +kernel
theorem dX12_commandHere_192 : decode cX12_commandHere 192 = .ok (.bipush 117, 2) := by decide +kernel
theorem dX12_commandHere_194 : decode cX12_commandHere 194 = .ok (.invokevirtual 200, 3) := by decide +kernel
theorem dX12_commandHere_197 : decode cX12_commandHere 197 = .ok (.ifCond .eq 29, 3) := by decide +kernel
theorem dX12_commandHere_200 : decode cX12_commandHere 200 = .ok (.aload_n 0, 1) := by decide +kernel
theorem dX12_commandHere_201 : decode cX12_commandHere 201 = .ok (.iconst 3, 1) := by decide +kernel
theorem dX12_commandHere_202 : decode cX12_commandHere 202 = .ok (.ldc 224, 2) := by decide +kernel
theorem dX12_commandHere_204 : decode cX12_commandHere 204 = .ok (.invokevirtual 208, 3) := by decide +kernel
theorem dX12_commandHere_207 : decode cX12_commandHere 207 = .ok (.ifCond .eq 15, 3) := by decide +kernel
theorem dX12_commandHere_210 : decode cX12_commandHere 210 = .ok (.aload_n 0, 1) := by decide +kernel
theorem dX12_commandHere_211 : decode cX12_commandHere 211 = .ok (.iload_n 1, 1) := by decide +kernel
theorem dX12_commandHere_212 : decode cX12_commandHere 212 = .ok (.invokevirtual 217, 3) := by decide +kernel
theorem dX12_commandHere_215 : decode cX12_commandHere 215 = .ok (.ifCond .eq 7, 3) := by decide +kernel
theorem dX12_commandHere_218 : decode cX12_commandHere 218 = .ok (.iconst 1, 1) := by decide +kernel
theorem dX12_commandHere_219 : decode cX12_commandHere 219 = .ok (.goto 30, 3) := by decide +kernel
theorem dX12_commandHere_222 : decode cX12_commandHere 222 = .ok (.iconst 0, 1) := by decide +kernel
theorem dX12_commandHere_223 : decode cX12_commandHere 223 = .ok (.goto 26, 3) := by decide +kernel
theorem dX12_commandHere_226 : decode cX12_commandHere 226 = .ok (.aload_n 0, 1) := by decide +kernel
theorem dX12_commandHere_227 : decode cX12_commandHere 227 = .ok (.iconst 5, 1) := by decide +kernel
theorem dX12_commandHere_228 : decode cX12_commandHere 228 = .ok (.ldc 226, 2) := by decide +kernel
theorem dX12_commandHere_230 : decode cX12_commandHere 230 = .ok (.invokevirtual 208, 3) := by decide +kernel
theorem dX12_commandHere_233 : decode cX12_commandHere 233 = .ok (.ifCond .eq 15, 3) := by decide +kernel
theorem dX12_commandHere_236 : decode cX12_commandHere 236 = .ok (.aload_n 0, 1) := by decide +kernel
theorem dX12_commandHere_237 : decode cX12_commandHere 237 = .ok (.iload_n 1, 1) := by decide +kernel
theorem dX12_commandHere_238 : decode cX12_commandHere 238 = .ok (.invokevirtual 217, 3) := by decide +kernel
theorem dX12_commandHere_241 : decode cX12_commandHere 241 = .ok (.ifCond .eq 7, 3) := by decide +kernel
theorem dX12_commandHere_244 : decode cX12_commandHere 244 = .ok (.iconst 1, 1) := by decide +kernel
theorem dX12_commandHere_245 : decode cX12_commandHere 245 = .ok (.goto 4, 3) := by decide +kernel
theorem dX12_commandHere_248 : decode cX12_commandHere 248 = .ok (.iconst 0, 1) := by decide +kernel
theorem dX12_commandHere_249 : decode cX12_commandHere 249 = .ok (.ireturn, 1) := by decide +kernel
theorem dX12_commandHere_250 : decode cX12_commandHere 250 = .ok (.aload_n 0, 1) := by decide +kernel
theorem dX12_commandHere_251 : decode cX12_commandHere 251 = .ok (.bipush 117, 2) := by decide +kernel
theorem dX12_commandHere_253 : decode cX12_commandHere 253 = .ok (.invokevirtual 200, 3) := by decide +kernel
theorem dX12_commandHere_256 : decode cX12_commandHere 256 = .ok (.ifCond .eq 28, 3) := by decide +kernel
theorem dX12_commandHere_259 : decode cX12_commandHere 259 = .ok (.aload_n 0, 1) := by decide +kernel
theorem dX12_commandHere_260 : decode cX12_commandHere 260 = .ok (.bipush 6, 2) := by decide +kernel
theorem dX12_commandHere_262 : decode cX12_commandHere 262 = .ok (.ldc 228, 2) := by decide +kernel
theorem dX12_commandHere_264 : decode cX12_commandHere 264 = .ok (.invokevirtual 208, 3) := by decide +kernel
theorem dX12_commandHere_267 : decode cX12_commandHere 267 = .ok (.ifCond .eq 15, 3) := by decide +kernel
theorem dX12_commandHere_270 : decode cX12_commandHere 270 = .ok (.aload_n 0, 1) := by decide +kernel
theorem dX12_commandHere_271 : decode cX12_commandHere 271 = .ok (.iload_n 1, 1) := by decide +kernel
theorem dX12_commandHere_272 : decode cX12_commandHere 272 = .ok (.invokevirtual 217, 3) := by decide +kernel
theorem dX12_commandHere_275 : decode cX12_commandHere 275 = .ok (.ifCond .eq 7, 3) := by decide +kernel
theorem dX12_commandHere_278 : decode cX12_commandHere 278 = .ok (.iconst 1, 1) := by decide +kernel
theorem dX12_commandHere_279 : decode cX12_commandHere 279 = .ok (.goto 4, 3) := by decide +kernel
theorem dX12_commandHere_282 : decode cX12_commandHere 282 = .ok (.iconst 0, 1) := by decide +kernel
theorem dX12_commandHere_283 : decode cX12_commandHere 283 = .ok (.ireturn, 1) := by decide +kernel
theorem dX12_commandHere_284 : decode cX12_commandHere 284 = .ok (.aload_n 0, 1) := by decide +kernel
theorem dX12_commandHere_285 : decode cX12_commandHere 285 = .ok (.bipush 114, 2) := by decide +kernel
theorem dX12_commandHere_287 : decode cX12_commandHere 287 = .ok (.invokevirtual 200, 3) := by decide +kernel
theorem dX12_commandHere_290 : decode cX12_commandHere 290 = .ok (.ifCond .eq 28, 3) := by decide +kernel
theorem dX12_commandHere_293 : decode cX12_commandHere 293 = .ok (.aload_n 0, 1) := by decide +kernel
theorem dX12_commandHere_294 : decode cX12_commandHere 294 = .ok (.bipush 7, 2) := by decide +kernel
theorem dX12_commandHere_296 : decode cX12_commandHere 296 = .ok (.ldc 230, 2) := by decide +kernel
theorem dX12_commandHere_298 : decode cX12_commandHere 298 = .ok (.invokevirtual 208, 3) := by decide +kernel
theorem dX12_commandHere_301 : decode cX12_commandHere 301 = .ok (.ifCond .eq 15, 3) := by decide +kernel
theorem dX12_commandHere_304 : decode cX12_commandHere 304 = .ok (.aload_n 0, 1) := by decide +kernel
theorem dX12_commandHere_305 : decode cX12_commandHere 305 = .ok (.iload_n 1, 1) := by decide +kernel
theorem dX12_commandHere_306 : decode cX12_commandHere 306 = .ok (.invokevirtual 203, 3) := by decide +kernel
theorem dX12_commandHere_309 : decode cX12_commandHere 309 = .ok (.ifCond .eq 7, 3) := by decide +kernel
theorem dX12_commandHere_312 : decode cX12_commandHere 312 = .ok (.iconst 1, 1) := by decide +kernel
theorem dX12_commandHere_313 : decode cX12_commandHere 313 = .ok (.goto 4, 3) := by decide +kernel
theorem dX12_commandHere_316 : decode cX12_commandHere 316 = .ok (.iconst 0, 1) := by decide +kernel
theorem dX12_commandHere_317 : decode cX12_commandHere 317 = .ok (.ireturn, 1) := by decide +kernel
theorem dX12_commandHere_318 : decode cX12_commandHere 318 = .ok (.aload_n 0, 1) := by decide +kernel
theorem dX12_commandHere_319 : decode cX12_commandHere 319 = .ok (.bipush 101, 2) := by decide +kernel
theorem dX12_commandHere_321 : decode cX12_commandHere 321 = .ok (.invokevirtual 200, 3) := by decide +kernel
theorem dX12_commandHere_324 : decode cX12_commandHere 324 = .ok (.ifCond .eq 12, 3) := by decide +kernel
theorem dX12_commandHere_327 : decode cX12_commandHere 327 = .ok (.aload_n 0, 1) := by decide +kernel
theorem dX12_commandHere_328 : decode cX12_commandHere 328 = .ok (.bipush 8, 2) := by decide +kernel
theorem dX12_commandHere_330 : decode cX12_commandHere 330 = .ok (.ldc 232, 2) := by decide +kernel
theorem dX12_commandHere_332 : decode cX12_commandHere 332 = .ok (.invokevirtual 208, 3) := by decide +kernel
theorem dX12_commandHere_335 : decode cX12_commandHere 335 = .ok (.ireturn, 1) := by decide +kernel
theorem dX12_commandHere_336 : decode cX12_commandHere 336 = .ok (.aload_n 0, 1) := by decide +kernel
theorem dX12_commandHere_337 : decode cX12_commandHere 337 = .ok (.bipush 119, 2) := by decide +kernel
theorem dX12_commandHere_339 : decode cX12_commandHere 339 = .ok (.invokevirtual 200, 3) := by decide +kernel
theorem dX12_commandHere_342 : decode cX12_commandHere 342 = .ok (.ifCond .eq 26, 3) := by decide +kernel
theorem dX12_commandHere_345 : decode cX12_commandHere 345 = .ok (.aload_n 0, 1) := by decide +kernel
theorem dX12_commandHere_346 : decode cX12_commandHere 346 = .ok (.bipush 9, 2) := by decide +kernel
theorem dX12_commandHere_348 : decode cX12_commandHere 348 = .ok (.ldc 234, 2) := by decide +kernel
theorem dX12_commandHere_350 : decode cX12_commandHere 350 = .ok (.invokevirtual 208, 3) := by decide +kernel
theorem dX12_commandHere_353 : decode cX12_commandHere 353 = .ok (.ifCond .eq 15, 3) := by decide +kernel
theorem dX12_commandHere_356 : decode cX12_commandHere 356 = .ok (.aload_n 0, 1) := by decide +kernel
theorem dX12_commandHere_357 : decode cX12_commandHere 357 = .ok (.iload_n 1, 1) := by decide +kernel
theorem dX12_commandHere_358 : decode cX12_commandHere 358 = .ok (.invokevirtual 203, 3) := by decide +kernel
theorem dX12_commandHere_361 : decode cX12_commandHere 361 = .ok (.ifCond .eq 7, 3) := by decide +kernel
theorem dX12_commandHere_364 : decode cX12_commandHere 364 = .ok (.iconst 1, 1) := by decide +kernel
theorem dX12_commandHere_365 : decode cX12_commandHere 365 = .ok (.goto 4, 3) := by decide +kernel
theorem dX12_commandHere_368 : decode cX12_commandHere 368 = .ok (.iconst 0, 1) := by decide +kernel
theorem dX12_commandHere_369 : decode cX12_commandHere 369 = .ok (.ireturn, 1) := by decide +kernel
theorem dX12_isScript_0 : decode cX12_isScript 0 = .ok (.aload_n 0, 1) := by decide +kernel
theorem dX12_isScript_1 : decode cX12_isScript 1 = .ok (.iconst 0, 1) := by decide +kernel
theorem dX12_isScript_2 : decode cX12_isScript 2 = .ok (.putfield 182, 3) := by decide +kernel
theorem dX12_isScript_5 : decode cX12_isScript 5 = .ok (.aload_n 0, 1) := by decide +kernel
theorem dX12_isScript_6 : decode cX12_isScript 6 = .ok (.iconst 0, 1) := by decide +kernel
theorem dX12_isScript_7 : decode cX12_isScript 7 = .ok (.putfield 188, 3) := by decide +kernel
theorem dX12_isScript_10 : decode cX12_isScript 10 = .ok (.aload_n 0, 1) := by decide +kernel
theorem dX12_isScript_11 : decode cX12_isScript 11 = .ok (.invokevirtual 236, 3) := by decide +kernel
theorem dX12_isScript_14 : decode cX12_isScript 14 = .ok (.ifCond .ne 5, 3) := by decide +kernel
theorem dX12_isScript_17 : decode cX12_isScript 17 = .ok (.iconst 0, 1) := by decide +kernel
theorem dX12_isScript_18 : decode cX12_isScript 18 = .ok (.ireturn, 1) := by decide +kernel
theorem dX12_isScript_19 : decode cX12_isScript 19 = .ok (.aload_n 0, 1) := by decide +kernel
theorem dX12_isScript_20 : decode cX12_isScript 20 = .ok (.dup, 1) := by decide +kernel
theorem dX12_isScript_21 : decode cX12_isScript 21 = .ok (.getfield 188, 3) := by decide +kernel
theorem dX12_isScript_24 : decode cX12_isScript 24 = .ok (.iconst 1, 1) := by decide +kernel
theorem dX12_isScript_25 : decode cX12_isScript 25 = .ok (.iadd, 1) := by decide +kernel
theorem dX12_isScript_26 : decode cX12_isScript 26 = .ok (.putfield 188, 3) := by decide +kernel
theorem dX12_isScript_29 : decode cX12_isScript 29 = .ok (.aload_n 0, 1) := by decide +kernel
theorem dX12_isScript_30 : decode cX12_isScript 30 = .ok (.bipush 59, 2) := by decide +kernel
theorem dX12_isScript_32 : decode cX12_isScript 32 = .ok (.invokevirtual 200, 3) := by decide +kernel
theorem dX12_isScript_35 : decode cX12_isScript 35 = .ok (.ifCond .ne (-25), 3) := by decide +kernel
theorem dX12_isScript_38 : decode cX12_isScript 38 = .ok (.aload_n 0, 1) := by decide +kernel
theorem dX12_isScript_39 : decode cX12_isScript 39 = .ok (.getfield 182, 3) := by decide +kernel
theorem dX12_isScript_42 : decode cX12_isScript 42 = .ok (.aload_n 0, 1) := by decide +kernel
theorem dX12_isScript_43 : decode cX12_isScript 43 = .ok (.getfield 179, 3) := by decide +kernel
theorem dX12_isScript_46 : decode cX12_isScript 46 = .ok (.if_icmp .ne 7, 3) := by decide +kernel
theorem dX12_isScript_49 : decode cX12_isScript 49 = .ok (.iconst 1, 1) := by decide +kernel
theorem dX12_isScript_50 : decode cX12_isScript 50 = .ok (.goto 4, 3) := by decide +kernel
theorem dX12_isScript_53 : decode cX12_isScript 53 = .ok (.iconst 0, 1) := by decide +kernel
theorem dX12_isScript_54 : decode cX12_isScript 54 = .ok (.ireturn, 1) := by decide +kernel
theorem dX12_carries_0 : decode cX12_carries 0 = .ok (.aload_n 0, 1) := by decide +kernel
theorem dX12_carries_1 : decode cX12_carries 1 = .ok (.getfield 42, 3) := by decide +kernel
theorem dX12_carries_4 : decode cX12_carries 4 = .ok (.iload_n 1, 1) := by decide +kernel
theorem dX12_carries_5 : decode cX12_carries 5 = .ok (.iconst 1, 1) := by decide +kernel
theorem dX12_carries_6 : decode cX12_carries 6 = .ok (.iadd, 1) := by decide +kernel
theorem dX12_carries_7 : decode cX12_carries 7 = .ok (.iaload, 1) := by decide +kernel
theorem dX12_carries_8 : decode cX12_carries 8 = .ok (.istore_n 2, 1) := by decide +kernel
theorem dX12_carries_9 : decode cX12_carries 9 = .ok (.aload_n 0, 1) := by decide +kernel
theorem dX12_carries_10 : decode cX12_carries 10 = .ok (.getfield 42, 3) := by decide +kernel
theorem dX12_carries_13 : decode cX12_carries 13 = .ok (.iload_n 1, 1) := by decide +kernel
theorem dX12_carries_14 : decode cX12_carries 14 = .ok (.iconst 2, 1) := by decide +kernel
theorem dX12_carries_15 : decode cX12_carries 15 = .ok (.iadd, 1) := by decide +kernel
theorem dX12_carries_16 : decode cX12_carries 16 = .ok (.iaload, 1) := by decide +kernel
theorem dX12_carries_17 : decode cX12_carries 17 = .ok (.istore_n 3, 1) := by decide +kernel
theorem dX12_carries_18 : decode cX12_carries 18 = .ok (.aload_n 0, 1) := by decide +kernel
theorem dX12_carries_19 : decode cX12_carries 19 = .ok (.getfield 42, 3) := by decide +kernel
theorem dX12_carries_22 : decode cX12_carries 22 = .ok (.iload_n 1, 1) := by decide +kernel
theorem dX12_carries_23 : decode cX12_carries 23 = .ok (.iconst 3, 1) := by decide +kernel
theorem dX12_carries_24 : decode cX12_carries 24 = .ok (.iadd, 1) := by decide +kernel
theorem dX12_carries_25 : decode cX12_carries 25 = .ok (.iaload, 1) := by decide +kernel
theorem dX12_carries_26 : decode cX12_carries 26 = .ok (.i2c, 1) := by decide +kernel
theorem dX12_carries_27 : decode cX12_carries 27 = .ok (.istore 4, 2) := by decide +kernel
theorem dX12_carries_29 : decode cX12_carries 29 = .ok (.aload_n 0, 1) := by decide +kernel
theorem dX12_carries_30 : decode cX12_carries 30 = .ok (.getfield 42, 3) := by decide +kernel
theorem dX12_carries_33 : decode cX12_carries 33 = .ok (.iload_n 1, 1) := by decide +kernel
theorem dX12_carries_34 : decode cX12_carries 34 = .ok (.iaload, 1) := by decide +kernel
theorem dX12_carries_35 : decode cX12_carries 35 = .ok (.tableswitch 114 0 8 #[49, 57, 66, 75, 82, 89, 96, 103, 109], 49) := by decide +kernel
theorem dX12_carries_84 : decode cX12_carries 84 = .ok (.aload_n 0, 1) := by decide +kernel
theorem dX12_carries_85 : decode cX12_carries 85 = .ok (.iload_n 2, 1) := by decide +kernel
theorem dX12_carries_86 : decode cX12_carries 86 = .ok (.iload 4, 2) := by decide +kernel
theorem dX12_carries_88 : decode cX12_carries 88 = .ok (.invokevirtual 240, 3) := by decide +kernel
theorem dX12_carries_91 : decode cX12_carries 91 = .ok (.ireturn, 1) := by decide +kernel
theorem dX12_carries_92 : decode cX12_carries 92 = .ok (.aload_n 0, 1) := by decide +kernel
theorem dX12_carries_93 : decode cX12_carries 93 = .ok (.iload_n 2, 1) := by decide +kernel
theorem dX12_carries_94 : decode cX12_carries 94 = .ok (.iload_n 3, 1) := by decide +kernel
theorem dX12_carries_95 : decode cX12_carries 95 = .ok (.iload 4, 2) := by decide +kernel
theorem dX12_carries_97 : decode cX12_carries 97 = .ok (.invokevirtual 244, 3) := by decide +kernel
theorem dX12_carries_100 : decode cX12_carries 100 = .ok (.ireturn, 1) := by decide +kernel
theorem dX12_carries_101 : decode cX12_carries 101 = .ok (.aload_n 0, 1) := by decide +kernel
theorem dX12_carries_102 : decode cX12_carries 102 = .ok (.iload_n 2, 1) := by decide +kernel
theorem dX12_carries_103 : decode cX12_carries 103 = .ok (.iload_n 3, 1) := by decide +kernel
theorem dX12_carries_104 : decode cX12_carries 104 = .ok (.iload 4, 2) := by decide +kernel
theorem dX12_carries_106 : decode cX12_carries 106 = .ok (.invokevirtual 248, 3) := by decide +kernel
theorem dX12_carries_109 : decode cX12_carries 109 = .ok (.ireturn, 1) := by decide +kernel
theorem dX12_carries_110 : decode cX12_carries 110 = .ok (.aload_n 0, 1) := by decide +kernel
theorem dX12_carries_111 : decode cX12_carries 111 = .ok (.iload_n 2, 1) := by decide +kernel
theorem dX12_carries_112 : decode cX12_carries 112 = .ok (.iload_n 3, 1) := by decide +kernel
theorem dX12_carries_113 : decode cX12_carries 113 = .ok (.invokevirtual 251, 3) := by decide +kernel
theorem dX12_carries_116 : decode cX12_carries 116 = .ok (.ireturn, 1) := by decide +kernel
theorem dX12_carries_117 : decode cX12_carries 117 = .ok (.aload_n 0, 1) := by decide +kernel
theorem dX12_carries_118 : decode cX12_carries 118 = .ok (.iload_n 2, 1) := by decide +kernel
theorem dX12_carries_119 : decode cX12_carries 119 = .ok (.iload_n 3, 1) := by decide +kernel
theorem dX12_carries_120 : decode cX12_carries 120 = .ok (.invokevirtual 254, 3) := by decide +kernel
theorem dX12_carries_123 : decode cX12_carries 123 = .ok (.ireturn, 1) := by decide +kernel
theorem dX12_carries_124 : decode cX12_carries 124 = .ok (.aload_n 0, 1) := by decide +kernel
theorem dX12_carries_125 : decode cX12_carries 125 = .ok (.iload_n 2, 1) := by decide +kernel
theorem dX12_carries_126 : decode cX12_carries 126 = .ok (.iload_n 3, 1) := by decide +kernel
theorem dX12_carries_127 : decode cX12_carries 127 = .ok (.invokevirtual 257, 3) := by decide +kernel
theorem dX12_carries_130 : decode cX12_carries 130 = .ok (.ireturn, 1) := by decide +kernel
theorem dX12_carries_131 : decode cX12_carries 131 = .ok (.aload_n 0, 1) := by decide +kernel
theorem dX12_carries_132 : decode cX12_carries 132 = .ok (.iload_n 2, 1) := by decide +kernel
theorem dX12_carries_133 : decode cX12_carries 133 = .ok (.iload_n 3, 1) := by decide +kernel
theorem dX12_carries_134 : decode cX12_carries 134 = .ok (.invokevirtual 260, 3) := by decide +kernel
theorem dX12_carries_137 : decode cX12_carries 137 = .ok (.ireturn, 1) := by decide +kernel
theorem dX12_carries_138 : decode cX12_carries 138 = .ok (.aload_n 0, 1) := by decide +kernel
theorem dX12_carries_139 : decode cX12_carries 139 = .ok (.iload_n 2, 1) := by decide +kernel
theorem dX12_carries_140 : decode cX12_carries 140 = .ok (.invokevirtual 263, 3) := by decide +kernel
theorem dX12_carries_143 : decode cX12_carries 143 = .ok (.ireturn, 1) := by decide +kernel
theorem dX12_carries_144 : decode cX12_carries 144 = .ok (.aload_n 0, 1) := by decide +kernel
theorem dX12_carries_145 : decode cX12_carries 145 = .ok (.invokevirtual 266, 3) := by decide +kernel
theorem dX12_carries_148 : decode cX12_carries 148 = .ok (.ireturn, 1) := by decide +kernel
theorem dX12_carries_149 : decode cX12_carries 149 = .ok (.aload_n 0, 1) := by decide +kernel
theorem dX12_carries_150 : decode cX12_carries 150 = .ok (.iload_n 2, 1) := by decide +kernel
theorem dX12_carries_151 : decode cX12_carries 151 = .ok (.invokevirtual 269, 3) := by decide +kernel
theorem dX12_carries_154 : decode cX12_carries 154 = .ok (.ireturn, 1) := by decide +kernel
theorem dX12_runScript_0 : decode cX12_runScript 0 = .ok (.aload_n 0, 1) := by decide +kernel
theorem dX12_runScript_1 : decode cX12_runScript 1 = .ok (.invokevirtual 272, 3) := by decide +kernel
theorem dX12_runScript_4 : decode cX12_runScript 4 = .ok (.istore_n 1, 1) := by decide +kernel
theorem dX12_runScript_5 : decode cX12_runScript 5 = .ok (.iload_n 1, 1) := by decide +kernel
theorem dX12_runScript_6 : decode cX12_runScript 6 = .ok (.ifCond .ne 11, 3) := by decide +kernel
theorem dX12_runScript_9 : decode cX12_runScript 9 = .ok (.aload_n 0, 1) := by decide +kernel
theorem dX12_runScript_10 : decode cX12_runScript 10 = .ok (.aload_n 0, 1) := by decide +kernel
theorem dX12_runScript_11 : decode cX12_runScript 11 = .ok (.getfield 182, 3) := by decide +kernel
theorem dX12_runScript_14 : decode cX12_runScript 14 = .ok (.putfield 25, 3) := by decide +kernel
theorem dX12_runScript_17 : decode cX12_runScript 17 = .ok (.aload_n 0, 1) := by decide +kernel
theorem dX12_runScript_18 : decode cX12_runScript 18 = .ok (.iconst 0, 1) := by decide +kernel
theorem dX12_runScript_19 : decode cX12_runScript 19 = .ok (.putfield 179, 3) := by decide +kernel
theorem dX12_runScript_22 : decode cX12_runScript 22 = .ok (.aload_n 0, 1) := by decide +kernel
theorem dX12_runScript_23 : decode cX12_runScript 23 = .ok (.iload_n 1, 1) := by decide +kernel
theorem dX12_runScript_24 : decode cX12_runScript 24 = .ok (.ifCond .eq 7, 3) := by decide +kernel
theorem dX12_runScript_27 : decode cX12_runScript 27 = .ok (.iconst 0, 1) := by decide +kernel
theorem dX12_runScript_28 : decode cX12_runScript 28 = .ok (.goto 4, 3) := by decide +kernel
theorem dX12_runScript_31 : decode cX12_runScript 31 = .ok (.iconst 1, 1) := by decide +kernel
theorem dX12_runScript_32 : decode cX12_runScript 32 = .ok (.invokevirtual 67, 3) := by decide +kernel
theorem dX12_runScript_35 : decode cX12_runScript 35 = .ok (.ifCond .eq 5, 3) := by decide +kernel
theorem dX12_runScript_38 : decode cX12_runScript 38 = .ok (.iconst 0, 1) := by decide +kernel
theorem dX12_runScript_39 : decode cX12_runScript 39 = .ok (.ireturn, 1) := by decide +kernel
theorem dX12_runScript_40 : decode cX12_runScript 40 = .ok (.aload_n 0, 1) := by decide +kernel
theorem dX12_runScript_41 : decode cX12_runScript 41 = .ok (.getfield 7, 3) := by decide +kernel
theorem dX12_runScript_44 : decode cX12_runScript 44 = .ok (.iconst 0, 1) := by decide +kernel
theorem dX12_runScript_45 : decode cX12_runScript 45 = .ok (.aload_n 0, 1) := by decide +kernel
theorem dX12_runScript_46 : decode cX12_runScript 46 = .ok (.getfield 19, 3) := by decide +kernel
theorem dX12_runScript_49 : decode cX12_runScript 49 = .ok (.iconst 0, 1) := by decide +kernel
theorem dX12_runScript_50 : decode cX12_runScript 50 = .ok (.invokestatic 55, 3) := by decide +kernel
theorem dX12_runScript_53 : decode cX12_runScript 53 = .ok (.aload_n 0, 1) := by decide +kernel
theorem dX12_runScript_54 : decode cX12_runScript 54 = .ok (.iconst 1, 1) := by decide +kernel
theorem dX12_runScript_55 : decode cX12_runScript 55 = .ok (.putfield 48, 3) := by decide +kernel
theorem dX12_runScript_58 : decode cX12_runScript 58 = .ok (.iconst 0, 1) := by decide +kernel
theorem dX12_runScript_59 : decode cX12_runScript 59 = .ok (.istore_n 2, 1) := by decide +kernel
theorem dX12_runScript_60 : decode cX12_runScript 60 = .ok (.iconst 0, 1) := by decide +kernel
theorem dX12_runScript_61 : decode cX12_runScript 61 = .ok (.istore_n 3, 1) := by decide +kernel
theorem dX12_runScript_62 : decode cX12_runScript 62 = .ok (.iload_n 2, 1) := by decide +kernel
theorem dX12_runScript_63 : decode cX12_runScript 63 = .ok (.aload_n 0, 1) := by decide +kernel
theorem dX12_runScript_64 : decode cX12_runScript 64 = .ok (.getfield 188, 3) := by decide +kernel
theorem dX12_runScript_67 : decode cX12_runScript 67 = .ok (.if_icmp .ge 31, 3) := by decide +kernel
theorem dX12_runScript_70 : decode cX12_runScript 70 = .ok (.aload_n 0, 1) := by decide +kernel
theorem dX12_runScript_71 : decode cX12_runScript 71 = .ok (.getfield 45, 3) := by decide +kernel
theorem dX12_runScript_74 : decode cX12_runScript 74 = .ok (.ifCond .ne 24, 3) := by decide +kernel
theorem dX12_runScript_77 : decode cX12_runScript 77 = .ok (.aload_n 0, 1) := by decide +kernel
theorem dX12_runScript_78 : decode cX12_runScript 78 = .ok (.iconst 4, 1) := by decide +kernel
theorem dX12_runScript_79 : decode cX12_runScript 79 = .ok (.iload_n 2, 1) := by decide +kernel
theorem dX12_runScript_80 : decode cX12_runScript 80 = .ok (.imul, 1) := by decide +kernel
theorem dX12_runScript_81 : decode cX12_runScript 81 = .ok (.invokevirtual 275, 3) := by decide +kernel
theorem dX12_runScript_84 : decode cX12_runScript 84 = .ok (.istore_n 3, 1) := by decide +kernel
theorem dX12_runScript_85 : decode cX12_runScript 85 = .ok (.aload_n 0, 1) := by decide +kernel
theorem dX12_runScript_86 : decode cX12_runScript 86 = .ok (.getfield 45, 3) := by decide +kernel
theorem dX12_runScript_89 : decode cX12_runScript 89 = .ok (.ifCond .ne (-27), 3) := by decide +kernel
theorem dX12_runScript_92 : decode cX12_runScript 92 = .ok (.iinc 2 1, 3) := by decide +kernel
theorem dX12_runScript_95 : decode cX12_runScript 95 = .ok (.goto (-33), 3) := by decide +kernel
theorem dX12_runScript_98 : decode cX12_runScript 98 = .ok (.aload_n 0, 1) := by decide +kernel
theorem dX12_runScript_99 : decode cX12_runScript 99 = .ok (.iconst 0, 1) := by decide +kernel
theorem dX12_runScript_100 : decode cX12_runScript 100 = .ok (.putfield 48, 3) := by decide +kernel
theorem dX12_runScript_103 : decode cX12_runScript 103 = .ok (.aload_n 0, 1) := by decide +kernel
theorem dX12_runScript_104 : decode cX12_runScript 104 = .ok (.getfield 45, 3) := by decide +kernel
theorem dX12_runScript_107 : decode cX12_runScript 107 = .ok (.ifCond .le 36, 3) := by decide +kernel
theorem dX12_runScript_110 : decode cX12_runScript 110 = .ok (.aload_n 0, 1) := by decide +kernel
theorem dX12_runScript_111 : decode cX12_runScript 111 = .ok (.getfield 19, 3) := by decide +kernel
theorem dX12_runScript_114 : decode cX12_runScript 114 = .ok (.iconst 0, 1) := by decide +kernel
theorem dX12_runScript_115 : decode cX12_runScript 115 = .ok (.aload_n 0, 1) := by decide +kernel
theorem dX12_runScript_116 : decode cX12_runScript 116 = .ok (.getfield 7, 3) := by decide +kernel
theorem dX12_runScript_119 : decode cX12_runScript 119 = .ok (.iconst 0, 1) := by decide +kernel
theorem dX12_runScript_120 : decode cX12_runScript 120 = .ok (.invokestatic 55, 3) := by decide +kernel
theorem dX12_runScript_123 : decode cX12_runScript 123 = .ok (.aload_n 0, 1) := by decide +kernel
theorem dX12_runScript_124 : decode cX12_runScript 124 = .ok (.iload_n 2, 1) := by decide +kernel
theorem dX12_runScript_125 : decode cX12_runScript 125 = .ok (.putfield 29, 3) := by decide +kernel
theorem dX12_runScript_128 : decode cX12_runScript 128 = .ok (.aload_n 0, 1) := by decide +kernel
theorem dX12_runScript_129 : decode cX12_runScript 129 = .ok (.iconst 2, 1) := by decide +kernel
theorem dX12_runScript_130 : decode cX12_runScript 130 = .ok (.putfield 45, 3) := by decide +kernel
theorem dX12_runScript_133 : decode cX12_runScript 133 = .ok (.iload_n 3, 1) := by decide +kernel
theorem dX12_runScript_134 : decode cX12_runScript 134 = .ok (.ifCond .le 7, 3) := by decide +kernel
theorem dX12_runScript_137 : decode cX12_runScript 137 = .ok (.iconst 0, 1) := by decide +kernel
theorem dX12_runScript_138 : decode cX12_runScript 138 = .ok (.goto 4, 3) := by decide +kernel
theorem dX12_runScript_141 : decode cX12_runScript 141 = .ok (.iload_n 3, 1) := by decide +kernel
theorem dX12_runScript_142 : decode cX12_runScript 142 = .ok (.ireturn, 1) := by decide +kernel
theorem dX12_runScript_143 : decode cX12_runScript 143 = .ok (.aload_n 0, 1) := by decide +kernel
theorem dX12_runScript_144 : decode cX12_runScript 144 = .ok (.aload_n 0, 1) := by decide +kernel
theorem dX12_runScript_145 : decode cX12_runScript 145 = .ok (.getfield 19, 3) := by decide +kernel
theorem dX12_runScript_148 : decode cX12_runScript 148 = .ok (.invokevirtual 85, 3) := by decide +kernel
theorem dX12_runScript_151 : decode cX12_runScript 151 = .ok (.aload_n 0, 1) := by decide +kernel
theorem dX12_runScript_152 : decode cX12_runScript 152 = .ok (.getfield 188, 3) := by decide +kernel
theorem dX12_runScript_155 : decode cX12_runScript 155 = .ok (.ireturn, 1) := by decide +kernel
theorem dX12_errorPosition_0 : decode cX12_errorPosition 0 = .ok (.aload_n 0, 1) := by decide +kernel
theorem dX12_errorPosition_1 : decode cX12_errorPosition 1 = .ok (.aload_n 0, 1) := by decide +kernel
theorem dX12_errorPosition_2 : decode cX12_errorPosition 2 = .ok (.getfield 25, 3) := by decide +kernel
theorem dX12_errorPosition_5 : decode cX12_errorPosition 5 = .ok (.ifCond .ge 7, 3) := by decide +kernel
theorem dX12_errorPosition_8 : decode cX12_errorPosition 8 = .ok (.iconst 1, 1) := by decide +kernel
theorem dX12_errorPosition_9 : decode cX12_errorPosition 9 = .ok (.goto 4, 3) := by decide +kernel
theorem dX12_errorPosition_12 : decode cX12_errorPosition 12 = .ok (.iconst 0, 1) := by decide +kernel
theorem dX12_errorPosition_13 : decode cX12_errorPosition 13 = .ok (.invokevirtual 67, 3) := by decide +kernel
theorem dX12_errorPosition_16 : decode cX12_errorPosition 16 = .ok (.ifCond .eq 7, 3) := by decide +kernel
theorem dX12_errorPosition_19 : decode cX12_errorPosition 19 = .ok (.iconst 0, 1) := by decide +kernel
theorem dX12_errorPosition_20 : decode cX12_errorPosition 20 = .ok (.goto 7, 3) := by decide +kernel
theorem dX12_errorPosition_23 : decode cX12_errorPosition 23 = .ok (.aload_n 0, 1) := by decide +kernel
theorem dX12_errorPosition_24 : decode cX12_errorPosition 24 = .ok (.getfield 25, 3) := by decide +kernel
theorem dX12_errorPosition_27 : decode cX12_errorPosition 27 = .ok (.ireturn, 1) := by decide +kernel
theorem dX12_failedCommand_0 : decode cX12_failedCommand 0 = .ok (.aload_n 0, 1) := by decide +kernel
theorem dX12_failedCommand_1 : decode cX12_failedCommand 1 = .ok (.aload_n 0, 1) := by decide +kernel
theorem dX12_failedCommand_2 : decode cX12_failedCommand 2 = .ok (.getfield 29, 3) := by decide +kernel
theorem dX12_failedCommand_5 : decode cX12_failedCommand 5 = .ok (.ifCond .ge 7, 3) := by decide +kernel
theorem dX12_failedCommand_8 : decode cX12_failedCommand 8 = .ok (.iconst 1, 1) := by decide +kernel
theorem dX12_failedCommand_9 : decode cX12_failedCommand 9 = .ok (.goto 4, 3) := by decide +kernel
theorem dX12_failedCommand_12 : decode cX12_failedCommand 12 = .ok (.iconst 0, 1) := by decide +kernel
theorem dX12_failedCommand_13 : decode cX12_failedCommand 13 = .ok (.invokevirtual 67, 3) := by decide +kernel
theorem dX12_failedCommand_16 : decode cX12_failedCommand 16 = .ok (.ifCond .eq 7, 3) := by decide +kernel
theorem dX12_failedCommand_19 : decode cX12_failedCommand 19 = .ok (.iconst 0, 1) := by decide +kernel
theorem dX12_failedCommand_20 : decode cX12_failedCommand 20 = .ok (.goto 7, 3) := by decide +kernel
theorem dX12_failedCommand_23 : decode cX12_failedCommand 23 = .ok (.aload_n 0, 1) := by decide +kernel
theorem dX12_failedCommand_24 : decode cX12_failedCommand 24 = .ok (.getfield 29, 3) := by decide +kernel
theorem dX12_failedCommand_27 : decode cX12_failedCommand 27 = .ok (.ireturn, 1) := by decide +kernel
theorem dX12_undo_0 : decode cX12_undo 0 = .ok (.aload_n 0, 1) := by decide +kernel
theorem dX12_undo_1 : decode cX12_undo 1 = .ok (.aload_n 0, 1) := by decide +kernel
theorem dX12_undo_2 : decode cX12_undo 2 = .ok (.getfield 52, 3) := by decide +kernel
theorem dX12_undo_5 : decode cX12_undo 5 = .ok (.ifCond .ne 7, 3) := by decide +kernel
theorem dX12_undo_8 : decode cX12_undo 8 = .ok (.iconst 1, 1) := by decide +kernel
theorem dX12_undo_9 : decode cX12_undo 9 = .ok (.goto 4, 3) := by decide +kernel
theorem dX12_undo_12 : decode cX12_undo 12 = .ok (.iconst 0, 1) := by decide +kernel
theorem dX12_undo_13 : decode cX12_undo 13 = .ok (.invokevirtual 67, 3) := by decide +kernel
theorem dX12_undo_16 : decode cX12_undo 16 = .ok (.ifCond .eq 5, 3) := by decide +kernel
theorem dX12_undo_19 : decode cX12_undo 19 = .ok (.iconst 0, 1) := by decide +kernel
theorem dX12_undo_20 : decode cX12_undo 20 = .ok (.ireturn, 1) := by decide +kernel
theorem dX12_undo_21 : decode cX12_undo 21 = .ok (.aload_n 0, 1) := by decide +kernel
theorem dX12_undo_22 : decode cX12_undo 22 = .ok (.dup, 1) := by decide +kernel
theorem dX12_undo_23 : decode cX12_undo 23 = .ok (.getfield 52, 3) := by decide +kernel
theorem dX12_undo_26 : decode cX12_undo 26 = .ok (.iconst 1, 1) := by decide +kernel
theorem dX12_undo_27 : decode cX12_undo 27 = .ok (.isub, 1) := by decide +kernel
theorem dX12_undo_28 : decode cX12_undo 28 = .ok (.putfield 52, 3) := by decide +kernel
theorem dX12_undo_31 : decode cX12_undo 31 = .ok (.aload_n 0, 1) := by decide +kernel
theorem dX12_undo_32 : decode cX12_undo 32 = .ok (.getfield 13, 3) := by decide +kernel
theorem dX12_undo_35 : decode cX12_undo 35 = .ok (.sipush 685, 3) := by decide +kernel
theorem dX12_undo_38 : decode cX12_undo 38 = .ok (.aload_n 0, 1) := by decide +kernel
theorem dX12_undo_39 : decode cX12_undo 39 = .ok (.getfield 52, 3) := by decide +kernel
theorem dX12_undo_42 : decode cX12_undo 42 = .ok (.imul, 1) := by decide +kernel
theorem dX12_undo_43 : decode cX12_undo 43 = .ok (.aload_n 0, 1) := by decide +kernel
theorem dX12_undo_44 : decode cX12_undo 44 = .ok (.getfield 7, 3) := by decide +kernel
theorem dX12_undo_47 : decode cX12_undo 47 = .ok (.iconst 0, 1) := by decide +kernel
theorem dX12_undo_48 : decode cX12_undo 48 = .ok (.invokestatic 55, 3) := by decide +kernel
theorem dX12_undo_51 : decode cX12_undo 51 = .ok (.aload_n 0, 1) := by decide +kernel
theorem dX12_undo_52 : decode cX12_undo 52 = .ok (.getfield 52, 3) := by decide +kernel
theorem dX12_undo_55 : decode cX12_undo 55 = .ok (.ireturn, 1) := by decide +kernel
theorem dX12_save_0 : decode cX12_save 0 = .ok (.aload_n 0, 1) := by decide +kernel
theorem dX12_save_1 : decode cX12_save 1 = .ok (.iconst 0, 1) := by decide +kernel
theorem dX12_save_2 : decode cX12_save 2 = .ok (.putfield 45, 3) := by decide +kernel
theorem dX12_save_5 : decode cX12_save 5 = .ok (.aload_n 0, 1) := by decide +kernel
theorem dX12_save_6 : decode cX12_save 6 = .ok (.iconst 1, 1) := by decide +kernel
theorem dX12_save_7 : decode cX12_save 7 = .ok (.putfield 278, 3) := by decide +kernel
theorem dX12_save_10 : decode cX12_save 10 = .ok (.aload_n 0, 1) := by decide +kernel
theorem dX12_save_11 : decode cX12_save 11 = .ok (.getfield 7, 3) := by decide +kernel
theorem dX12_save_14 : decode cX12_save 14 = .ok (.iconst 0, 1) := by decide +kernel
theorem dX12_save_15 : decode cX12_save 15 = .ok (.aload_n 0, 1) := by decide +kernel
theorem dX12_save_16 : decode cX12_save 16 = .ok (.getfield 16, 3) := by decide +kernel
theorem dX12_save_19 : decode cX12_save 19 = .ok (.iconst 0, 1) := by decide +kernel
theorem dX12_save_20 : decode cX12_save 20 = .ok (.invokestatic 55, 3) := by decide +kernel
theorem dX12_save_23 : decode cX12_save 23 = .ok (.aload_n 0, 1) := by decide +kernel
theorem dX12_save_24 : decode cX12_save 24 = .ok (.getfield 7, 3) := by decide +kernel
theorem dX12_save_27 : decode cX12_save 27 = .ok (.iconst 0, 1) := by decide +kernel
theorem dX12_save_28 : decode cX12_save 28 = .ok (.iaload, 1) := by decide +kernel
theorem dX12_save_29 : decode cX12_save 29 = .ok (.ireturn, 1) := by decide +kernel
theorem dX12_restore_0 : decode cX12_restore 0 = .ok (.aload_n 0, 1) := by decide +kernel
theorem dX12_restore_1 : decode cX12_restore 1 = .ok (.aload_n 0, 1) := by decide +kernel
theorem dX12_restore_2 : decode cX12_restore 2 = .ok (.getfield 278, 3) := by decide +kernel
theorem dX12_restore_5 : decode cX12_restore 5 = .ok (.ifCond .eq 7, 3) := by decide +kernel
theorem dX12_restore_8 : decode cX12_restore 8 = .ok (.iconst 0, 1) := by decide +kernel
theorem dX12_restore_9 : decode cX12_restore 9 = .ok (.goto 4, 3) := by decide +kernel
theorem dX12_restore_12 : decode cX12_restore 12 = .ok (.iconst 1, 1) := by decide +kernel
theorem dX12_restore_13 : decode cX12_restore 13 = .ok (.invokevirtual 67, 3) := by decide +kernel
theorem dX12_restore_16 : decode cX12_restore 16 = .ok (.ifCond .eq 5, 3) := by decide +kernel
theorem dX12_restore_19 : decode cX12_restore 19 = .ok (.iconst 0, 1) := by decide +kernel
theorem dX12_restore_20 : decode cX12_restore 20 = .ok (.ireturn, 1) := by decide +kernel
theorem dX12_restore_21 : decode cX12_restore 21 = .ok (.aload_n 0, 1) := by decide +kernel
theorem dX12_restore_22 : decode cX12_restore 22 = .ok (.getfield 16, 3) := by decide +kernel
theorem dX12_restore_25 : decode cX12_restore 25 = .ok (.iconst 0, 1) := by decide +kernel
theorem dX12_restore_26 : decode cX12_restore 26 = .ok (.aload_n 0, 1) := by decide +kernel
theorem dX12_restore_27 : decode cX12_restore 27 = .ok (.getfield 7, 3) := by decide +kernel
theorem dX12_restore_30 : decode cX12_restore 30 = .ok (.iconst 0, 1) := by decide +kernel
theorem dX12_restore_31 : decode cX12_restore 31 = .ok (.invokestatic 55, 3) := by decide +kernel
theorem dX12_restore_34 : decode cX12_restore 34 = .ok (.aload_n 0, 1) := by decide +kernel
theorem dX12_restore_35 : decode cX12_restore 35 = .ok (.iconst 0, 1) := by decide +kernel
theorem dX12_restore_36 : decode cX12_restore 36 = .ok (.putfield 52, 3) := by decide +kernel
theorem dX12_restore_39 : decode cX12_restore 39 = .ok (.aload_n 0, 1) := by decide +kernel
theorem dX12_restore_40 : decode cX12_restore 40 = .ok (.getfield 7, 3) := by decide +kernel
theorem dX12_restore_43 : decode cX12_restore 43 = .ok (.iconst 0, 1) := by decide +kernel
theorem dX12_restore_44 : decode cX12_restore 44 = .ok (.iaload, 1) := by decide +kernel
theorem dX12_restore_45 : decode cX12_restore 45 = .ok (.ireturn, 1) := by decide +kernel
theorem dJ5_init_d00df_0 : decode cJ5_init_d00df 0 = .ok (.aload_n 0, 1) := by decide +kernel
theorem dJ5_init_d00df_1 : decode cJ5_init_d00df 1 = .ok (.invokespecial 3, 3) := by decide +kernel
theorem dJ5_init_d00df_4 : decode cJ5_init_d00df 4 = .ok (.getstatic 18, 3) := by decide +kernel
theorem dJ5_init_d00df_7 : decode cJ5_init_d00df 7 = .ok (.ifCond .eq 18, 3) := by decide +kernel
theorem dJ5_init_d00df_10 : decode cJ5_init_d00df 10 = .ok (.aload_n 0, 1) := by decide +kernel
theorem dJ5_init_d00df_11 : decode cJ5_init_d00df 11 = .ok (.iload_n 1, 1) := by decide +kernel
theorem dJ5_init_d00df_12 : decode cJ5_init_d00df 12 = .ok (.newarray .byte, 2) := by decide +kernel
theorem dJ5_init_d00df_14 : decode cJ5_init_d00df 14 = .ok (.putfield 15, 3) := by decide +kernel
theorem dJ5_init_d00df_17 : decode cJ5_init_d00df 17 = .ok (.aload_n 0, 1) := by decide +kernel
theorem dJ5_init_d00df_18 : decode cJ5_init_d00df 18 = .ok (.iconst 0, 1) := by decide +kernel
theorem dJ5_init_d00df_19 : decode cJ5_init_d00df 19 = .ok (.putfield 22, 3) := by decide +kernel
theorem dJ5_init_d00df_22 : decode cJ5_init_d00df 22 = .ok (.goto 16, 3) := by decide +kernel
theorem dJ5_init_d00df_25 : decode cJ5_init_d00df 25 = .ok (.aload_n 0, 1) := by decide +kernel
theorem dJ5_init_d00df_26 : decode cJ5_init_d00df 26 = .ok (.iload_n 1, 1) := by decide +kernel
theorem dJ5_init_d00df_27 : decode cJ5_init_d00df 27 = .ok (.invokestatic 26, 3) := by decide +kernel
theorem dJ5_init_d00df_30 : decode cJ5_init_d00df 30 = .ok (.putfield 15, 3) := by decide +kernel
theorem dJ5_init_d00df_33 : decode cJ5_init_d00df 33 = .ok (.aload_n 0, 1) := by decide +kernel
theorem dJ5_init_d00df_34 : decode cJ5_init_d00df 34 = .ok (.iconst 1, 1) := by decide +kernel
theorem dJ5_init_d00df_35 : decode cJ5_init_d00df 35 = .ok (.putfield 22, 3) := by decide +kernel
theorem dJ5_init_d00df_38 : decode cJ5_init_d00df 38 = .ok (.return_, 1) := by decide +kernel
theorem dJ5_length_8abf5_0 : decode cJ5_length_8abf5 0 = .ok (.aload_n 0, 1) := by decide +kernel
theorem dJ5_length_8abf5_1 : decode cJ5_length_8abf5 1 = .ok (.getfield 79, 3) := by decide +kernel
theorem dJ5_length_8abf5_4 : decode cJ5_length_8abf5 4 = .ok (.ireturn, 1) := by decide +kernel
theorem dJ5_ensureCapacityInternal_d00df_0 : decode cJ5_ensureCapacityInternal_d00df 0 = .ok (.aload_n 0, 1) := by decide +kernel
theorem dJ5_ensureCapacityInternal_d00df_1 : decode cJ5_ensureCapacityInternal_d00df 1 = .ok (.getfield 15, 3) := by decide +kernel
theorem dJ5_ensureCapacityInternal_d00df_4 : decode cJ5_ensureCapacityInternal_d00df 4 = .ok (.arraylength, 1) := by decide +kernel
theorem dJ5_ensureCapacityInternal_d00df_5 : decode cJ5_ensureCapacityInternal_d00df 5 = .ok (.aload_n 0, 1) := by decide +kernel
theorem dJ5_ensureCapacityInternal_d00df_6 : decode cJ5_ensureCapacityInternal_d00df 6 = .ok (.getfield 22, 3) := by decide +kernel
theorem dJ5_ensureCapacityInternal_d00df_9 : decode cJ5_ensureCapacityInternal_d00df 9 = .ok (.ishr, 1) := by decide +kernel
theorem dJ5_ensureCapacityInternal_d00df_10 : decode cJ5_ensureCapacityInternal_d00df 10 = .ok (.istore_n 2, 1) := by decide +kernel
theorem dJ5_ensureCapacityInternal_d00df_11 : decode cJ5_ensureCapacityInternal_d00df 11 = .ok (.iload_n 1, 1) := by decide +kernel
theorem dJ5_ensureCapacityInternal_d00df_12 : decode cJ5_ensureCapacityInternal_d00df 12 = .ok (.iload_n 2, 1) := by decide +kernel
theorem dJ5_ensureCapacityInternal_d00df_13 : decode cJ5_ensureCapacityInternal_d00df 13 = .ok (.isub, 1) := by decide +kernel
theorem dJ5_ensureCapacityInternal_d00df_14 : decode cJ5_ensureCapacityInternal_d00df 14 = .ok (.ifCond .le 24, 3) := by decide +kernel
theorem dJ5_ensureCapacityInternal_d00df_17 : decode cJ5_ensureCapacityInternal_d00df 17 = .ok (.aload_n 0, 1) := by decide +kernel
theorem dJ5_ensureCapacityInternal_d00df_18 : decode cJ5_ensureCapacityInternal_d00df 18 = .ok (.aload_n 0, 1) := by decide +kernel
theorem dJ5_ensureCapacityInternal_d00df_19 : decode cJ5_ensureCapacityInternal_d00df 19 = .ok (.getfield 15, 3) := by decide +kernel
theorem dJ5_ensureCapacityInternal_d00df_22 : decode cJ5_ensureCapacityInternal_d00df 22 = .ok (.aload_n 0, 1) := by decide +kernel
theorem dJ5_ensureCapacityInternal_d00df_23 : decode cJ5_ensureCapacityInternal_d00df 23 = .ok (.iload_n 1, 1) := by decide +kernel
theorem dJ5_ensureCapacityInternal_d00df_24 : decode cJ5_ensureCapacityInternal_d00df 24 = .ok (.invokevirtual 104, 3) := by decide +kernel
theorem dJ5_ensureCapacityInternal_d00df_27 : decode cJ5_ensureCapacityInternal_d00df 27 = .ok (.aload_n 0, 1) := by decide +kernel
theorem dJ5_ensureCapacityInternal_d00df_28 : decode cJ5_ensureCapacityInternal_d00df 28 = .ok (.getfield 22, 3) := by decide +kernel
theorem dJ5_ensureCapacityInternal_d00df_31 : decode cJ5_ensureCapacityInternal_d00df 31 = .ok (.ishl, 1) := by decide +kernel
theorem dJ5_ensureCapacityInternal_d00df_32 : decode cJ5_ensureCapacityInternal_d00df 32 = .ok (.invokestatic 108, 3) := by decide +kernel
theorem dJ5_ensureCapacityInternal_d00df_35 : decode cJ5_ensureCapacityInternal_d00df 35 = .ok (.putfield 15, 3) := by decide +kernel
theorem dJ5_ensureCapacityInternal_d00df_38 : decode cJ5_ensureCapacityInternal_d00df 38 = .ok (.return_, 1) := by decide +kernel
theorem dJ5_newCapacity_0f7a4_0 : decode cJ5_newCapacity_0f7a4 0 = .ok (.aload_n 0, 1) := by decide +kernel
theorem dJ5_newCapacity_0f7a4_1 : decode cJ5_newCapacity_0f7a4 1 = .ok (.getfield 15, 3) := by decide +kernel
theorem dJ5_newCapacity_0f7a4_4 : decode cJ5_newCapacity_0f7a4 4 = .ok (.arraylength, 1) := by decide +kernel
theorem dJ5_newCapacity_0f7a4_5 : decode cJ5_newCapacity_0f7a4 5 = .ok (.istore_n 2, 1) := by decide +kernel
theorem dJ5_newCapacity_0f7a4_6 : decode cJ5_newCapacity_0f7a4 6 = .ok (.iload_n 1, 1) := by decide +kernel
theorem dJ5_newCapacity_0f7a4_7 : decode cJ5_newCapacity_0f7a4 7 = .ok (.aload_n 0, 1) := by decide +kernel
theorem dJ5_newCapacity_0f7a4_8 : decode cJ5_newCapacity_0f7a4 8 = .ok (.getfield 22, 3) := by decide +kernel
theorem dJ5_newCapacity_0f7a4_11 : decode cJ5_newCapacity_0f7a4 11 = .ok (.ishl, 1) := by decide +kernel
theorem dJ5_newCapacity_0f7a4_12 : decode cJ5_newCapacity_0f7a4 12 = .ok (.istore_n 3, 1) := by decide +kernel
theorem dJ5_newCapacity_0f7a4_13 : decode cJ5_newCapacity_0f7a4 13 = .ok (.iload_n 3, 1) := by decide +kernel
theorem dJ5_newCapacity_0f7a4_14 : decode cJ5_newCapacity_0f7a4 14 = .ok (.iload_n 2, 1) := by decide +kernel
theorem dJ5_newCapacity_0f7a4_15 : decode cJ5_newCapacity_0f7a4 15 = .ok (.isub, 1) := by decide +kernel
theorem dJ5_newCapacity_0f7a4_16 : decode cJ5_newCapacity_0f7a4 16 = .ok (.istore 4, 2) := by decide +kernel
theorem dJ5_newCapacity_0f7a4_18 : decode cJ5_newCapacity_0f7a4 18 = .ok (.iload_n 2, 1) := by decide +kernel
theorem dJ5_newCapacity_0f7a4_19 : decode cJ5_newCapacity_0f7a4 19 = .ok (.iload 4, 2) := by decide +kernel
theorem dJ5_newCapacity_0f7a4_21 : decode cJ5_newCapacity_0f7a4 21 = .ok (.iload_n 2, 1) := by decide +kernel
theorem dJ5_newCapacity_0f7a4_22 : decode cJ5_newCapacity_0f7a4 22 = .ok (.iconst 2, 1) := by decide +kernel
theorem dJ5_newCapacity_0f7a4_23 : decode cJ5_newCapacity_0f7a4 23 = .ok (.aload_n 0, 1) := by decide +kernel
theorem dJ5_newCapacity_0f7a4_24 : decode cJ5_newCapacity_0f7a4 24 = .ok (.getfield 22, 3) := by decide +kernel
theorem dJ5_newCapacity_0f7a4_27 : decode cJ5_newCapacity_0f7a4 27 = .ok (.ishl, 1) := by decide +kernel
theorem dJ5_newCapacity_0f7a4_28 : decode cJ5_newCapacity_0f7a4 28 = .ok (.iadd, 1) := by decide +kernel
theorem dJ5_newCapacity_0f7a4_29 : decode cJ5_newCapacity_0f7a4 29 = .ok (.invokestatic 114, 3) := by decide +kernel
theorem dJ5_newCapacity_0f7a4_32 : decode cJ5_newCapacity_0f7a4 32 = .ok (.istore 5, 2) := by decide +kernel
theorem dJ5_newCapacity_0f7a4_34 : decode cJ5_newCapacity_0f7a4 34 = .ok (.iload 5, 2) := by decide +kernel
theorem dJ5_newCapacity_0f7a4_36 : decode cJ5_newCapacity_0f7a4 36 = .ok (.ldc 39, 2) := by decide +kernel
theorem dJ5_newCapacity_0f7a4_38 : decode cJ5_newCapacity_0f7a4 38 = .ok (.if_icmp .ne 13, 3) := by decide +kernel
theorem dJ5_newCapacity_0f7a4_41 : decode cJ5_newCapacity_0f7a4 41 = .ok (.new 120, 3) := by decide +kernel
theorem dJ5_newCapacity_0f7a4_44 : decode cJ5_newCapacity_0f7a4 44 = .ok (.dup, 1) := by decide +kernel
theorem dJ5_newCapacity_0f7a4_45 : decode cJ5_newCapacity_0f7a4 45 = .ok (.ldc 122, 2) := by decide +kernel
theorem dJ5_newCapacity_0f7a4_47 : decode cJ5_newCapacity_0f7a4 47 = .ok (.invokespecial 124, 3) := by decide +kernel
theorem dJ5_newCapacity_0f7a4_50 : decode cJ5_newCapacity_0f7a4 50 = .ok (.athrow, 1) := by decide +kernel
theorem dJ5_newCapacity_0f7a4_51 : decode cJ5_newCapacity_0f7a4 51 = .ok (.iload 5, 2) := by decide +kernel
theorem dJ5_newCapacity_0f7a4_53 : decode cJ5_newCapacity_0f7a4 53 = .ok (.aload_n 0, 1) := by decide +kernel
theorem dJ5_newCapacity_0f7a4_54 : decode cJ5_newCapacity_0f7a4 54 = .ok (.getfield 22, 3) := by decide +kernel
theorem dJ5_newCapacity_0f7a4_57 : decode cJ5_newCapacity_0f7a4 57 = .ok (.ishr, 1) := by decide +kernel
theorem dJ5_newCapacity_0f7a4_58 : decode cJ5_newCapacity_0f7a4 58 = .ok (.ireturn, 1) := by decide +kernel
theorem dJ5_inflate_da8c8_0 : decode cJ5_inflate_da8c8 0 = .ok (.aload_n 0, 1) := by decide +kernel
theorem dJ5_inflate_da8c8_1 : decode cJ5_inflate_da8c8 1 = .ok (.invokevirtual 83, 3) := by decide +kernel
theorem dJ5_inflate_da8c8_4 : decode cJ5_inflate_da8c8 4 = .ok (.ifCond .ne 4, 3) := by decide +kernel
theorem dJ5_inflate_da8c8_7 : decode cJ5_inflate_da8c8 7 = .ok (.return_, 1) := by decide +kernel
theorem dJ5_inflate_da8c8_8 : decode cJ5_inflate_da8c8 8 = .ok (.aload_n 0, 1) := by decide +kernel
theorem dJ5_inflate_da8c8_9 : decode cJ5_inflate_da8c8 9 = .ok (.getfield 15, 3) := by decide +kernel
theorem dJ5_inflate_da8c8_12 : decode cJ5_inflate_da8c8 12 = .ok (.arraylength, 1) := by decide +kernel
theorem dJ5_inflate_da8c8_13 : decode cJ5_inflate_da8c8 13 = .ok (.invokestatic 26, 3) := by decide +kernel
theorem dJ5_inflate_da8c8_16 : decode cJ5_inflate_da8c8 16 = .ok (.astore_n 1, 1) := by decide +kernel
theorem dJ5_inflate_da8c8_17 : decode cJ5_inflate_da8c8 17 = .ok (.aload_n 0, 1) := by decide +kernel
theorem dJ5_inflate_da8c8_18 : decode cJ5_inflate_da8c8 18 = .ok (.getfield 15, 3) := by decide +kernel
theorem dJ5_inflate_da8c8_21 : decode cJ5_inflate_da8c8 21 = .ok (.iconst 0, 1) := by decide +kernel
theorem dJ5_inflate_da8c8_22 : decode cJ5_inflate_da8c8 22 = .ok (.aload_n 1, 1) := by decide +kernel
theorem dJ5_inflate_da8c8_23 : decode cJ5_inflate_da8c8 23 = .ok (.iconst 0, 1) := by decide +kernel
theorem dJ5_inflate_da8c8_24 : decode cJ5_inflate_da8c8 24 = .ok (.aload_n 0, 1) := by decide +kernel
theorem dJ5_inflate_da8c8_25 : decode cJ5_inflate_da8c8 25 = .ok (.getfield 79, 3) := by decide +kernel
theorem dJ5_inflate_da8c8_28 : decode cJ5_inflate_da8c8 28 = .ok (.invokestatic 125, 3) := by decide +kernel
theorem dJ5_inflate_da8c8_31 : decode cJ5_inflate_da8c8 31 = .ok (.aload_n 0, 1) := by decide +kernel
theorem dJ5_inflate_da8c8_32 : decode cJ5_inflate_da8c8 32 = .ok (.aload_n 1, 1) := by decide +kernel
theorem dJ5_inflate_da8c8_33 : decode cJ5_inflate_da8c8 33 = .ok (.putfield 15, 3) := by decide +kernel
theorem dJ5_inflate_da8c8_36 : decode cJ5_inflate_da8c8 36 = .ok (.aload_n 0, 1) := by decide +kernel
theorem dJ5_inflate_da8c8_37 : decode cJ5_inflate_da8c8 37 = .ok (.iconst 1, 1) := by decide +kernel
theorem dJ5_inflate_da8c8_38 : decode cJ5_inflate_da8c8 38 = .ok (.putfield 22, 3) := by decide +kernel
theorem dJ5_inflate_da8c8_41 : decode cJ5_inflate_da8c8 41 = .ok (.return_, 1) := by decide +kernel
theorem dJ5_setLength_d00df_0 : decode cJ5_setLength_d00df 0 = .ok (.iload_n 1, 1) := by decide +kernel
theorem dJ5_setLength_d00df_1 : decode cJ5_setLength_d00df 1 = .ok (.ifCond .ge 12, 3) := by decide +kernel
theorem dJ5_setLength_d00df_4 : decode cJ5_setLength_d00df 4 = .ok (.new 129, 3) := by decide +kernel
theorem dJ5_setLength_d00df_7 : decode cJ5_setLength_d00df 7 = .ok (.dup, 1) := by decide +kernel
theorem dJ5_setLength_d00df_8 : decode cJ5_setLength_d00df 8 = .ok (.iload_n 1, 1) := by decide +kernel
theorem dJ5_setLength_d00df_9 : decode cJ5_setLength_d00df 9 = .ok (.invokespecial 131, 3) := by decide +kernel
theorem dJ5_setLength_d00df_12 : decode cJ5_setLength_d00df 12 = .ok (.athrow, 1) := by decide +kernel
theorem dJ5_setLength_d00df_13 : decode cJ5_setLength_d00df 13 = .ok (.aload_n 0, 1) := by decide +kernel
theorem dJ5_setLength_d00df_14 : decode cJ5_setLength_d00df 14 = .ok (.iload_n 1, 1) := by decide +kernel
theorem dJ5_setLength_d00df_15 : decode cJ5_setLength_d00df 15 = .ok (.invokevirtual 100, 3) := by decide +kernel
theorem dJ5_setLength_d00df_18 : decode cJ5_setLength_d00df 18 = .ok (.aload_n 0, 1) := by decide +kernel
theorem dJ5_setLength_d00df_19 : decode cJ5_setLength_d00df 19 = .ok (.getfield 79, 3) := by decide +kernel
theorem dJ5_setLength_d00df_22 : decode cJ5_setLength_d00df 22 = .ok (.iload_n 1, 1) := by decide +kernel
theorem dJ5_setLength_d00df_23 : decode cJ5_setLength_d00df 23 = .ok (.if_icmp .ge 40, 3) := by decide +kernel
theorem dJ5_setLength_d00df_26 : decode cJ5_setLength_d00df 26 = .ok (.aload_n 0, 1) := by decide +kernel
theorem dJ5_setLength_d00df_27 : decode cJ5_setLength_d00df 27 = .ok (.invokevirtual 83, 3) := by decide +kernel
theorem dJ5_setLength_d00df_30 : decode cJ5_setLength_d00df 30 = .ok (.ifCond .eq 18, 3) := by decide +kernel
theorem dJ5_setLength_d00df_33 : decode cJ5_setLength_d00df 33 = .ok (.aload_n 0, 1) := by decide +kernel
theorem dJ5_setLength_d00df_34 : decode cJ5_setLength_d00df 34 = .ok (.getfield 15, 3) := by decide +kernel
theorem dJ5_setLength_d00df_37 : decode cJ5_setLength_d00df 37 = .ok (.aload_n 0, 1) := by decide +kernel
theorem dJ5_setLength_d00df_38 : decode cJ5_setLength_d00df 38 = .ok (.getfield 79, 3) := by decide +kernel
theorem dJ5_setLength_d00df_41 : decode cJ5_setLength_d00df 41 = .ok (.iload_n 1, 1) := by decide +kernel
theorem dJ5_setLength_d00df_42 : decode cJ5_setLength_d00df 42 = .ok (.invokestatic 133, 3) := by decide +kernel
theorem dJ5_setLength_d00df_45 : decode cJ5_setLength_d00df 45 = .ok (.goto 31, 3) := by decide +kernel
theorem dJ5_setLength_d00df_48 : decode cJ5_setLength_d00df 48 = .ok (.aload_n 0, 1) := by decide +kernel
theorem dJ5_setLength_d00df_49 : decode cJ5_setLength_d00df 49 = .ok (.getfield 15, 3) := by decide +kernel
theorem dJ5_setLength_d00df_52 : decode cJ5_setLength_d00df 52 = .ok (.aload_n 0, 1) := by decide +kernel
theorem dJ5_setLength_d00df_53 : decode cJ5_setLength_d00df 53 = .ok (.getfield 79, 3) := by decide +kernel
theorem dJ5_setLength_d00df_56 : decode cJ5_setLength_d00df 56 = .ok (.iload_n 1, 1) := by decide +kernel
theorem dJ5_setLength_d00df_57 : decode cJ5_setLength_d00df 57 = .ok (.invokestatic 137, 3) := by decide +kernel
theorem dJ5_setLength_d00df_60 : decode cJ5_setLength_d00df 60 = .ok (.goto 16, 3) := by decide +kernel
theorem dJ5_setLength_d00df_63 : decode cJ5_setLength_d00df 63 = .ok (.aload_n 0, 1) := by decide +kernel
theorem dJ5_setLength_d00df_64 : decode cJ5_setLength_d00df 64 = .ok (.getfield 79, 3) := by decide +kernel
theorem dJ5_setLength_d00df_67 : decode cJ5_setLength_d00df 67 = .ok (.iload_n 1, 1) := by decide +kernel
theorem dJ5_setLength_d00df_68 : decode cJ5_setLength_d00df 68 = .ok (.if_icmp .le 8, 3) := by decide +kernel
theorem dJ5_setLength_d00df_71 : decode cJ5_setLength_d00df 71 = .ok (.aload_n 0, 1) := by decide +kernel
theorem dJ5_setLength_d00df_72 : decode cJ5_setLength_d00df 72 = .ok (.iconst 1, 1) := by decide +kernel
theorem dJ5_setLength_d00df_73 : decode cJ5_setLength_d00df 73 = .ok (.putfield 73, 3) := by decide +kernel
theorem dJ5_setLength_d00df_76 : decode cJ5_setLength_d00df 76 = .ok (.aload_n 0, 1) := by decide +kernel
theorem dJ5_setLength_d00df_77 : decode cJ5_setLength_d00df 77 = .ok (.iload_n 1, 1) := by decide +kernel
theorem dJ5_setLength_d00df_78 : decode cJ5_setLength_d00df 78 = .ok (.putfield 79, 3) := by decide +kernel
theorem dJ5_setLength_d00df_81 : decode cJ5_setLength_d00df 81 = .ok (.return_, 1) := by decide +kernel
theorem dJ5_charAt_5068e_0 : decode cJ5_charAt_5068e 0 = .ok (.aload_n 0, 1) := by decide +kernel
theorem dJ5_charAt_5068e_1 : decode cJ5_charAt_5068e 1 = .ok (.getfield 22, 3) := by decide +kernel
theorem dJ5_charAt_5068e_4 : decode cJ5_charAt_5068e 4 = .ok (.istore_n 2, 1) := by decide +kernel
theorem dJ5_charAt_5068e_5 : decode cJ5_charAt_5068e 5 = .ok (.aload_n 0, 1) := by decide +kernel
theorem dJ5_charAt_5068e_6 : decode cJ5_charAt_5068e 6 = .ok (.getfield 15, 3) := by decide +kernel
theorem dJ5_charAt_5068e_9 : decode cJ5_charAt_5068e 9 = .ok (.astore_n 3, 1) := by decide +kernel
theorem dJ5_charAt_5068e_10 : decode cJ5_charAt_5068e 10 = .ok (.aload_n 0, 1) := by decide +kernel
theorem dJ5_charAt_5068e_11 : decode cJ5_charAt_5068e 11 = .ok (.getfield 79, 3) := by decide +kernel
theorem dJ5_charAt_5068e_14 : decode cJ5_charAt_5068e 14 = .ok (.aload_n 3, 1) := by decide +kernel
theorem dJ5_charAt_5068e_15 : decode cJ5_charAt_5068e 15 = .ok (.arraylength, 1) := by decide +kernel
theorem dJ5_charAt_5068e_16 : decode cJ5_charAt_5068e 16 = .ok (.iload_n 2, 1) := by decide +kernel
theorem dJ5_charAt_5068e_17 : decode cJ5_charAt_5068e 17 = .ok (.ishr, 1) := by decide +kernel
theorem dJ5_charAt_5068e_18 : decode cJ5_charAt_5068e 18 = .ok (.invokestatic 138, 3) := by decide +kernel
theorem dJ5_charAt_5068e_21 : decode cJ5_charAt_5068e 21 = .ok (.istore 4, 2) := by decide +kernel
theorem dJ5_charAt_5068e_23 : decode cJ5_charAt_5068e 23 = .ok (.iload_n 1, 1) := by decide +kernel
theorem dJ5_charAt_5068e_24 : decode cJ5_charAt_5068e 24 = .ok (.iload 4, 2) := by decide +kernel
theorem dJ5_charAt_5068e_26 : decode cJ5_charAt_5068e 26 = .ok (.invokestatic 144, 3) := by decide +kernel
theorem dJ5_charAt_5068e_29 : decode cJ5_charAt_5068e 29 = .ok (.iload_n 2, 1) := by decide +kernel
theorem dJ5_charAt_5068e_30 : decode cJ5_charAt_5068e 30 = .ok (.ifCond .ne 12, 3) := by decide +kernel
theorem dJ5_charAt_5068e_33 : decode cJ5_charAt_5068e 33 = .ok (.aload_n 3, 1) := by decide +kernel
theorem dJ5_charAt_5068e_34 : decode cJ5_charAt_5068e 34 = .ok (.iload_n 1, 1) := by decide +kernel
theorem dJ5_charAt_5068e_35 : decode cJ5_charAt_5068e 35 = .ok (.baload, 1) := by decide +kernel
theorem dJ5_charAt_5068e_36 : decode cJ5_charAt_5068e 36 = .ok (.sipush 255, 3) := by decide +kernel
theorem dJ5_charAt_5068e_39 : decode cJ5_charAt_5068e 39 = .ok (.iand, 1) := by decide +kernel
theorem dJ5_charAt_5068e_40 : decode cJ5_charAt_5068e 40 = .ok (.i2c, 1) := by decide +kernel
theorem dJ5_charAt_5068e_41 : decode cJ5_charAt_5068e 41 = .ok (.ireturn, 1) := by decide +kernel
theorem dJ5_charAt_5068e_42 : decode cJ5_charAt_5068e 42 = .ok (.aload_n 3, 1) := by decide +kernel
theorem dJ5_charAt_5068e_43 : decode cJ5_charAt_5068e 43 = .ok (.iload_n 1, 1) := by decide +kernel
theorem dJ5_charAt_5068e_44 : decode cJ5_charAt_5068e 44 = .ok (.invokestatic 148, 3) := by decide +kernel
theorem dJ5_charAt_5068e_47 : decode cJ5_charAt_5068e 47 = .ok (.ireturn, 1) := by decide +kernel
theorem dJ5_append_cf1ce_0 : decode cJ5_append_cf1ce 0 = .ok (.aload_n 1, 1) := by decide +kernel
theorem dJ5_append_cf1ce_1 : decode cJ5_append_cf1ce 1 = .ok (.ifnonnull 8, 3) := by decide +kernel
theorem dJ5_append_cf1ce_4 : decode cJ5_append_cf1ce 4 = .ok (.aload_n 0, 1) := by decide +kernel
theorem dJ5_append_cf1ce_5 : decode cJ5_append_cf1ce 5 = .ok (.invokevirtual 204, 3) := by decide +kernel
theorem dJ5_append_cf1ce_8 : decode cJ5_append_cf1ce 8 = .ok (.areturn, 1) := by decide +kernel
theorem dJ5_append_cf1ce_9 : decode cJ5_append_cf1ce 9 = .ok (.aload_n 1, 1) := by decide +kernel
theorem dJ5_append_cf1ce_10 : decode cJ5_append_cf1ce 10 = .ok (.invokevirtual 32, 3) := by decide +kernel
theorem dJ5_append_cf1ce_13 : decode cJ5_append_cf1ce 13 = .ok (.istore_n 2, 1) := by decide +kernel
theorem dJ5_append_cf1ce_14 : decode cJ5_append_cf1ce 14 = .ok (.aload_n 0, 1) := by decide +kernel
theorem dJ5_append_cf1ce_15 : decode cJ5_append_cf1ce 15 = .ok (.aload_n 0, 1) := by decide +kernel
theorem dJ5_append_cf1ce_16 : decode cJ5_append_cf1ce 16 = .ok (.getfield 79, 3) := by decide +kernel
theorem dJ5_append_cf1ce_19 : decode cJ5_append_cf1ce 19 = .ok (.iload_n 2, 1) := by decide +kernel
theorem dJ5_append_cf1ce_20 : decode cJ5_append_cf1ce 20 = .ok (.iadd, 1) := by decide +kernel
theorem dJ5_append_cf1ce_21 : decode cJ5_append_cf1ce 21 = .ok (.invokevirtual 100, 3) := by decide +kernel
theorem dJ5_append_cf1ce_24 : decode cJ5_append_cf1ce 24 = .ok (.aload_n 0, 1) := by decide +kernel
theorem dJ5_append_cf1ce_25 : decode cJ5_append_cf1ce 25 = .ok (.aload_n 0, 1) := by decide +kernel
theorem dJ5_append_cf1ce_26 : decode cJ5_append_cf1ce 26 = .ok (.getfield 79, 3) := by decide +kernel
theorem dJ5_append_cf1ce_29 : decode cJ5_append_cf1ce 29 = .ok (.aload_n 1, 1) := by decide +kernel
theorem dJ5_append_cf1ce_30 : decode cJ5_append_cf1ce 30 = .ok (.invokevirtual 208, 3) := by decide +kernel
theorem dJ5_append_cf1ce_33 : decode cJ5_append_cf1ce 33 = .ok (.aload_n 0, 1) := by decide +kernel
theorem dJ5_append_cf1ce_34 : decode cJ5_append_cf1ce 34 = .ok (.dup, 1) := by decide +kernel
theorem dJ5_append_cf1ce_35 : decode cJ5_append_cf1ce 35 = .ok (.getfield 79, 3) := by decide +kernel
theorem dJ5_append_cf1ce_38 : decode cJ5_append_cf1ce 38 = .ok (.iload_n 2, 1) := by decide +kernel
theorem dJ5_append_cf1ce_39 : decode cJ5_append_cf1ce 39 = .ok (.iadd, 1) := by decide +kernel
theorem dJ5_append_cf1ce_40 : decode cJ5_append_cf1ce 40 = .ok (.putfield 79, 3) := by decide +kernel
theorem dJ5_append_cf1ce_43 : decode cJ5_append_cf1ce 43 = .ok (.aload_n 0, 1) := by decide +kernel
theorem dJ5_append_cf1ce_44 : decode cJ5_append_cf1ce 44 = .ok (.areturn, 1) := by decide +kernel
theorem dJ5_appendNull_278bc_0 : decode cJ5_appendNull_278bc 0 = .ok (.aload_n 0, 1) := by decide +kernel
theorem dJ5_appendNull_278bc_1 : decode cJ5_appendNull_278bc 1 = .ok (.aload_n 0, 1) := by decide +kernel
theorem dJ5_appendNull_278bc_2 : decode cJ5_appendNull_278bc 2 = .ok (.getfield 79, 3) := by decide +kernel
theorem dJ5_appendNull_278bc_5 : decode cJ5_appendNull_278bc 5 = .ok (.iconst 4, 1) := by decide +kernel
theorem dJ5_appendNull_278bc_6 : decode cJ5_appendNull_278bc 6 = .ok (.iadd, 1) := by decide +kernel
theorem dJ5_appendNull_278bc_7 : decode cJ5_appendNull_278bc 7 = .ok (.invokevirtual 100, 3) := by decide +kernel
theorem dJ5_appendNull_278bc_10 : decode cJ5_appendNull_278bc 10 = .ok (.aload_n 0, 1) := by decide +kernel
theorem dJ5_appendNull_278bc_11 : decode cJ5_appendNull_278bc 11 = .ok (.getfield 79, 3) := by decide +kernel
theorem dJ5_appendNull_278bc_14 : decode cJ5_appendNull_278bc 14 = .ok (.istore_n 1, 1) := by decide +kernel
theorem dJ5_appendNull_278bc_15 : decode cJ5_appendNull_278bc 15 = .ok (.aload_n 0, 1) := by decide +kernel
theorem dJ5_appendNull_278bc_16 : decode cJ5_appendNull_278bc 16 = .ok (.getfield 15, 3) := by decide +kernel
theorem dJ5_appendNull_278bc_19 : decode cJ5_appendNull_278bc 19 = .ok (.astore_n 2, 1) := by decide +kernel
theorem dJ5_appendNull_278bc_20 : decode cJ5_appendNull_278bc 20 = .ok (.aload_n 0, 1) := by decide +kernel
theorem dJ5_appendNull_278bc_21 : decode cJ5_appendNull_278bc 21 = .ok (.invokevirtual 83, 3) := by decide +kernel
theorem dJ5_appendNull_278bc_24 : decode cJ5_appendNull_278bc 24 = .ok (.ifCond .eq 38, 3) := by decide +kernel
theorem dJ5_appendNull_278bc_27 : decode cJ5_appendNull_278bc 27 = .ok (.aload_n 2, 1) := by decide +kernel
theorem dJ5_appendNull_278bc_28 : decode cJ5_appendNull_278bc 28 = .ok (.iload_n 1, 1) := by decide +kernel
theorem dJ5_appendNull_278bc_29 : decode cJ5_appendNull_278bc 29 = .ok (.iinc 1 1, 3) := by decide +kernel
theorem dJ5_appendNull_278bc_32 : decode cJ5_appendNull_278bc 32 = .ok (.bipush 110, 2) := by decide +kernel
theorem dJ5_appendNull_278bc_34 : decode cJ5_appendNull_278bc 34 = .ok (.bastore, 1) := by decide +kernel
theorem dJ5_appendNull_278bc_35 : decode cJ5_appendNull_278bc 35 = .ok (.aload_n 2, 1) := by decide +kernel
theorem dJ5_appendNull_278bc_36 : decode cJ5_appendNull_278bc 36 = .ok (.iload_n 1, 1) := by decide +kernel
theorem dJ5_appendNull_278bc_37 : decode cJ5_appendNull_278bc 37 = .ok (.iinc 1 1, 3) := by decide +kernel
theorem dJ5_appendNull_278bc_40 : decode cJ5_appendNull_278bc 40 = .ok (.bipush 117, 2) := by decide +kernel
theorem dJ5_appendNull_278bc_42 : decode cJ5_appendNull_278bc 42 = .ok (.bastore, 1) := by decide +kernel
theorem dJ5_appendNull_278bc_43 : decode cJ5_appendNull_278bc 43 = .ok (.aload_n 2, 1) := by decide +kernel
theorem dJ5_appendNull_278bc_44 : decode cJ5_appendNull_278bc 44 = .ok (.iload_n 1, 1) := by decide +kernel
theorem dJ5_appendNull_278bc_45 : decode cJ5_appendNull_278bc 45 = .ok (.iinc 1 1, 3) := by decide +kernel
theorem dJ5_appendNull_278bc_48 : decode cJ5_appendNull_278bc 48 = .ok (.bipush 108, 2) := by decide +kernel
theorem dJ5_appendNull_278bc_50 : decode cJ5_appendNull_278bc 50 = .ok (.bastore, 1) := by decide +kernel
theorem dJ5_appendNull_278bc_51 : decode cJ5_appendNull_278bc 51 = .ok (.aload_n 2, 1) := by decide +kernel
theorem dJ5_appendNull_278bc_52 : decode cJ5_appendNull_278bc 52 = .ok (.iload_n 1, 1) := by decide +kernel
theorem dJ5_appendNull_278bc_53 : decode cJ5_appendNull_278bc 53 = .ok (.iinc 1 1, 3) := by decide +kernel
theorem dJ5_appendNull_278bc_56 : decode cJ5_appendNull_278bc 56 = .ok (.bipush 108, 2) := by decide +kernel
theorem dJ5_appendNull_278bc_58 : decode cJ5_appendNull_278bc 58 = .ok (.bastore, 1) := by decide +kernel
theorem dJ5_appendNull_278bc_59 : decode cJ5_appendNull_278bc 59 = .ok (.goto 17, 3) := by decide +kernel
theorem dJ5_appendNull_278bc_62 : decode cJ5_appendNull_278bc 62 = .ok (.aload_n 2, 1) := by decide +kernel
theorem dJ5_appendNull_278bc_63 : decode cJ5_appendNull_278bc 63 = .ok (.iload_n 1, 1) := by decide +kernel
theorem dJ5_appendNull_278bc_64 : decode cJ5_appendNull_278bc 64 = .ok (.bipush 110, 2) := by decide +kernel
theorem dJ5_appendNull_278bc_66 : decode cJ5_appendNull_278bc 66 = .ok (.bipush 117, 2) := by decide +kernel
theorem dJ5_appendNull_278bc_68 : decode cJ5_appendNull_278bc 68 = .ok (.bipush 108, 2) := by decide +kernel
theorem dJ5_appendNull_278bc_70 : decode cJ5_appendNull_278bc 70 = .ok (.bipush 108, 2) := by decide +kernel
theorem dJ5_appendNull_278bc_72 : decode cJ5_appendNull_278bc 72 = .ok (.invokestatic 226, 3) := by decide +kernel
theorem dJ5_appendNull_278bc_75 : decode cJ5_appendNull_278bc 75 = .ok (.istore_n 1, 1) := by decide +kernel
theorem dJ5_appendNull_278bc_76 : decode cJ5_appendNull_278bc 76 = .ok (.aload_n 0, 1) := by decide +kernel
theorem dJ5_appendNull_278bc_77 : decode cJ5_appendNull_278bc 77 = .ok (.iload_n 1, 1) := by decide +kernel
theorem dJ5_appendNull_278bc_78 : decode cJ5_appendNull_278bc 78 = .ok (.putfield 79, 3) := by decide +kernel
theorem dJ5_appendNull_278bc_81 : decode cJ5_appendNull_278bc 81 = .ok (.aload_n 0, 1) := by decide +kernel
theorem dJ5_appendNull_278bc_82 : decode cJ5_appendNull_278bc 82 = .ok (.areturn, 1) := by decide +kernel
theorem dJ5_append_3fe6f_0 : decode cJ5_append_3fe6f 0 = .ok (.aload_n 0, 1) := by decide +kernel
theorem dJ5_append_3fe6f_1 : decode cJ5_append_3fe6f 1 = .ok (.aload_n 0, 1) := by decide +kernel
theorem dJ5_append_3fe6f_2 : decode cJ5_append_3fe6f 2 = .ok (.getfield 79, 3) := by decide +kernel
theorem dJ5_append_3fe6f_5 : decode cJ5_append_3fe6f 5 = .ok (.iconst 1, 1) := by decide +kernel
theorem dJ5_append_3fe6f_6 : decode cJ5_append_3fe6f 6 = .ok (.iadd, 1) := by decide +kernel
theorem dJ5_append_3fe6f_7 : decode cJ5_append_3fe6f 7 = .ok (.invokevirtual 100, 3) := by decide +kernel
theorem dJ5_append_3fe6f_10 : decode cJ5_append_3fe6f 10 = .ok (.aload_n 0, 1) := by decide +kernel
theorem dJ5_append_3fe6f_11 : decode cJ5_append_3fe6f 11 = .ok (.invokevirtual 83, 3) := by decide +kernel
theorem dJ5_append_3fe6f_14 : decode cJ5_append_3fe6f 14 = .ok (.ifCond .eq 31, 3) := by decide +kernel
theorem dJ5_append_3fe6f_17 : decode cJ5_append_3fe6f 17 = .ok (.iload_n 1, 1) := by decide +kernel
theorem dJ5_append_3fe6f_18 : decode cJ5_append_3fe6f 18 = .ok (.invokestatic 191, 3) := by decide +kernel
theorem dJ5_append_3fe6f_21 : decode cJ5_append_3fe6f 21 = .ok (.ifCond .eq 24, 3) := by decide +kernel
theorem dJ5_append_3fe6f_24 : decode cJ5_append_3fe6f 24 = .ok (.aload_n 0, 1) := by decide +kernel
theorem dJ5_append_3fe6f_25 : decode cJ5_append_3fe6f 25 = .ok (.getfield 15, 3) := by decide +kernel
theorem dJ5_append_3fe6f_28 : decode cJ5_append_3fe6f 28 = .ok (.aload_n 0, 1) := by decide +kernel
theorem dJ5_append_3fe6f_29 : decode cJ5_append_3fe6f 29 = .ok (.dup, 1) := by decide +kernel
theorem dJ5_append_3fe6f_30 : decode cJ5_append_3fe6f 30 = .ok (.getfield 79, 3) := by decide +kernel
theorem dJ5_append_3fe6f_33 : decode cJ5_append_3fe6f 33 = .ok (.dup_x1, 1) := by decide +kernel
theorem dJ5_append_3fe6f_34 : decode cJ5_append_3fe6f 34 = .ok (.iconst 1, 1) := by decide +kernel
theorem dJ5_append_3fe6f_35 : decode cJ5_append_3fe6f 35 = .ok (.iadd, 1) := by decide +kernel
theorem dJ5_append_3fe6f_36 : decode cJ5_append_3fe6f 36 = .ok (.putfield 79, 3) := by decide +kernel
theorem dJ5_append_3fe6f_39 : decode cJ5_append_3fe6f 39 = .ok (.iload_n 1, 1) := by decide +kernel
theorem dJ5_append_3fe6f_40 : decode cJ5_append_3fe6f 40 = .ok (.i2b, 1) := by decide +kernel
theorem dJ5_append_3fe6f_41 : decode cJ5_append_3fe6f 41 = .ok (.bastore, 1) := by decide +kernel
theorem dJ5_append_3fe6f_42 : decode cJ5_append_3fe6f 42 = .ok (.goto 33, 3) := by decide +kernel
theorem dJ5_append_3fe6f_45 : decode cJ5_append_3fe6f 45 = .ok (.aload_n 0, 1) := by decide +kernel
theorem dJ5_append_3fe6f_46 : decode cJ5_append_3fe6f 46 = .ok (.invokevirtual 83, 3) := by decide +kernel
theorem dJ5_append_3fe6f_49 : decode cJ5_append_3fe6f 49 = .ok (.ifCond .eq 7, 3) := by decide +kernel
theorem dJ5_append_3fe6f_52 : decode cJ5_append_3fe6f 52 = .ok (.aload_n 0, 1) := by decide +kernel
theorem dJ5_append_3fe6f_53 : decode cJ5_append_3fe6f 53 = .ok (.invokevirtual 195, 3) := by decide +kernel
theorem dJ5_append_3fe6f_56 : decode cJ5_append_3fe6f 56 = .ok (.aload_n 0, 1) := by decide +kernel
theorem dJ5_append_3fe6f_57 : decode cJ5_append_3fe6f 57 = .ok (.getfield 15, 3) := by decide +kernel
theorem dJ5_append_3fe6f_60 : decode cJ5_append_3fe6f 60 = .ok (.aload_n 0, 1) := by decide +kernel
theorem dJ5_append_3fe6f_61 : decode cJ5_append_3fe6f 61 = .ok (.dup, 1) := by decide +kernel
theorem dJ5_append_3fe6f_62 : decode cJ5_append_3fe6f 62 = .ok (.getfield 79, 3) := by decide +kernel
theorem dJ5_append_3fe6f_65 : decode cJ5_append_3fe6f 65 = .ok (.dup_x1, 1) := by decide +kernel
theorem dJ5_append_3fe6f_66 : decode cJ5_append_3fe6f 66 = .ok (.iconst 1, 1) := by decide +kernel
theorem dJ5_append_3fe6f_67 : decode cJ5_append_3fe6f 67 = .ok (.iadd, 1) := by decide +kernel
theorem dJ5_append_3fe6f_68 : decode cJ5_append_3fe6f 68 = .ok (.putfield 79, 3) := by decide +kernel
theorem dJ5_append_3fe6f_71 : decode cJ5_append_3fe6f 71 = .ok (.iload_n 1, 1) := by decide +kernel
theorem dJ5_append_3fe6f_72 : decode cJ5_append_3fe6f 72 = .ok (.invokestatic 197, 3) := by decide +kernel
theorem dJ5_append_3fe6f_75 : decode cJ5_append_3fe6f 75 = .ok (.aload_n 0, 1) := by decide +kernel
theorem dJ5_append_3fe6f_76 : decode cJ5_append_3fe6f 76 = .ok (.areturn, 1) := by decide +kernel
theorem dJ5_append_c97b9_0 : decode cJ5_append_c97b9 0 = .ok (.aload_n 0, 1) := by decide +kernel
theorem dJ5_append_c97b9_1 : decode cJ5_append_c97b9 1 = .ok (.getfield 79, 3) := by decide +kernel
theorem dJ5_append_c97b9_4 : decode cJ5_append_c97b9 4 = .ok (.istore_n 2, 1) := by decide +kernel
theorem dJ5_append_c97b9_5 : decode cJ5_append_c97b9 5 = .ok (.iload_n 2, 1) := by decide +kernel
theorem dJ5_append_c97b9_6 : decode cJ5_append_c97b9 6 = .ok (.iload_n 1, 1) := by decide +kernel
theorem dJ5_append_c97b9_7 : decode cJ5_append_c97b9 7 = .ok (.invokestatic 245, 3) := by decide +kernel
theorem dJ5_append_c97b9_10 : decode cJ5_append_c97b9 10 = .ok (.iadd, 1) := by decide +kernel
theorem dJ5_append_c97b9_11 : decode cJ5_append_c97b9 11 = .ok (.istore_n 3, 1) := by decide +kernel
theorem dJ5_append_c97b9_12 : decode cJ5_append_c97b9 12 = .ok (.aload_n 0, 1) := by decide +kernel
theorem dJ5_append_c97b9_13 : decode cJ5_append_c97b9 13 = .ok (.iload_n 3, 1) := by decide +kernel
theorem dJ5_append_c97b9_14 : decode cJ5_append_c97b9 14 = .ok (.invokevirtual 100, 3) := by decide +kernel
theorem dJ5_append_c97b9_17 : decode cJ5_append_c97b9 17 = .ok (.aload_n 0, 1) := by decide +kernel
theorem dJ5_append_c97b9_18 : decode cJ5_append_c97b9 18 = .ok (.invokevirtual 83, 3) := by decide +kernel
theorem dJ5_append_c97b9_21 : decode cJ5_append_c97b9 21 = .ok (.ifCond .eq 16, 3) := by decide +kernel
theorem dJ5_append_c97b9_24 : decode cJ5_append_c97b9 24 = .ok (.iload_n 1, 1) := by decide +kernel
theorem dJ5_append_c97b9_25 : decode cJ5_append_c97b9 25 = .ok (.iload_n 3, 1) := by decide +kernel
theorem dJ5_append_c97b9_26 : decode cJ5_append_c97b9 26 = .ok (.aload_n 0, 1) := by decide +kernel
theorem dJ5_append_c97b9_27 : decode cJ5_append_c97b9 27 = .ok (.getfield 15, 3) := by decide +kernel
theorem dJ5_append_c97b9_30 : decode cJ5_append_c97b9 30 = .ok (.invokestatic 248, 3) := by decide +kernel
theorem dJ5_append_c97b9_33 : decode cJ5_append_c97b9 33 = .ok (.pop, 1) := by decide +kernel
theorem dJ5_append_c97b9_34 : decode cJ5_append_c97b9 34 = .ok (.goto 14, 3) := by decide +kernel
theorem dJ5_append_c97b9_37 : decode cJ5_append_c97b9 37 = .ok (.iload_n 1, 1) := by decide +kernel
theorem dJ5_append_c97b9_38 : decode cJ5_append_c97b9 38 = .ok (.iload_n 2, 1) := by decide +kernel
theorem dJ5_append_c97b9_39 : decode cJ5_append_c97b9 39 = .ok (.iload_n 3, 1) := by decide +kernel
theorem dJ5_append_c97b9_40 : decode cJ5_append_c97b9 40 = .ok (.aload_n 0, 1) := by decide +kernel
theorem dJ5_append_c97b9_41 : decode cJ5_append_c97b9 41 = .ok (.getfield 15, 3) := by decide +kernel
theorem dJ5_append_c97b9_44 : decode cJ5_append_c97b9 44 = .ok (.invokestatic 251, 3) := by decide +kernel
theorem dJ5_append_c97b9_47 : decode cJ5_append_c97b9 47 = .ok (.pop, 1) := by decide +kernel
theorem dJ5_append_c97b9_48 : decode cJ5_append_c97b9 48 = .ok (.aload_n 0, 1) := by decide +kernel
theorem dJ5_append_c97b9_49 : decode cJ5_append_c97b9 49 = .ok (.iload_n 3, 1) := by decide +kernel
theorem dJ5_append_c97b9_50 : decode cJ5_append_c97b9 50 = .ok (.putfield 79, 3) := by decide +kernel
theorem dJ5_append_c97b9_53 : decode cJ5_append_c97b9 53 = .ok (.aload_n 0, 1) := by decide +kernel
theorem dJ5_append_c97b9_54 : decode cJ5_append_c97b9 54 = .ok (.areturn, 1) := by decide +kernel
theorem dJ5_getValue_6d5f1_0 : decode cJ5_getValue_6d5f1 0 = .ok (.aload_n 0, 1) := by decide +kernel
theorem dJ5_getValue_6d5f1_1 : decode cJ5_getValue_6d5f1 1 = .ok (.getfield 15, 3) := by decide +kernel
theorem dJ5_getValue_6d5f1_4 : decode cJ5_getValue_6d5f1 4 = .ok (.areturn, 1) := by decide +kernel
theorem dJ5_isLatin1_aae02_0 : decode cJ5_isLatin1_aae02 0 = .ok (.getstatic 18, 3) := by decide +kernel
theorem dJ5_isLatin1_aae02_3 : decode cJ5_isLatin1_aae02 3 = .ok (.ifCond .eq 14, 3) := by decide +kernel
theorem dJ5_isLatin1_aae02_6 : decode cJ5_isLatin1_aae02 6 = .ok (.aload_n 0, 1) := by decide +kernel
theorem dJ5_isLatin1_aae02_7 : decode cJ5_isLatin1_aae02 7 = .ok (.getfield 22, 3) := by decide +kernel
theorem dJ5_isLatin1_aae02_10 : decode cJ5_isLatin1_aae02 10 = .ok (.ifCond .ne 7, 3) := by decide +kernel
theorem dJ5_isLatin1_aae02_13 : decode cJ5_isLatin1_aae02 13 = .ok (.iconst 1, 1) := by decide +kernel
theorem dJ5_isLatin1_aae02_14 : decode cJ5_isLatin1_aae02 14 = .ok (.goto 4, 3) := by decide +kernel
theorem dJ5_isLatin1_aae02_17 : decode cJ5_isLatin1_aae02 17 = .ok (.iconst 0, 1) := by decide +kernel
theorem dJ5_isLatin1_aae02_18 : decode cJ5_isLatin1_aae02 18 = .ok (.ireturn, 1) := by decide +kernel
theorem dJ5_inflateIfNeededFor_a7421_0 : decode cJ5_inflateIfNeededFor_a7421 0 = .ok (.getstatic 18, 3) := by decide +kernel
theorem dJ5_inflateIfNeededFor_a7421_3 : decode cJ5_inflateIfNeededFor_a7421 3 = .ok (.ifCond .eq 18, 3) := by decide +kernel
theorem dJ5_inflateIfNeededFor_a7421_6 : decode cJ5_inflateIfNeededFor_a7421 6 = .ok (.aload_n 0, 1) := by decide +kernel
theorem dJ5_inflateIfNeededFor_a7421_7 : decode cJ5_inflateIfNeededFor_a7421 7 = .ok (.getfield 22, 3) := by decide +kernel
theorem dJ5_inflateIfNeededFor_a7421_10 : decode cJ5_inflateIfNeededFor_a7421 10 = .ok (.aload_n 1, 1) := by decide +kernel
theorem dJ5_inflateIfNeededFor_a7421_11 : decode cJ5_inflateIfNeededFor_a7421 11 = .ok (.invokevirtual 40, 3) := by decide +kernel
theorem dJ5_inflateIfNeededFor_a7421_14 : decode cJ5_inflateIfNeededFor_a7421 14 = .ok (.if_icmp .eq 7, 3) := by decide +kernel
theorem dJ5_inflateIfNeededFor_a7421_17 : decode cJ5_inflateIfNeededFor_a7421 17 = .ok (.aload_n 0, 1) := by decide +kernel
theorem dJ5_inflateIfNeededFor_a7421_18 : decode cJ5_inflateIfNeededFor_a7421 18 = .ok (.invokevirtual 195, 3) := by decide +kernel
theorem dJ5_inflateIfNeededFor_a7421_21 : decode cJ5_inflateIfNeededFor_a7421 21 = .ok (.return_, 1) := by decide +kernel
theorem dJ5_putStringAt_47b60_0 : decode cJ5_putStringAt_47b60 0 = .ok (.aload_n 0, 1) := by decide +kernel
theorem dJ5_putStringAt_47b60_1 : decode cJ5_putStringAt_47b60 1 = .ok (.aload_n 2, 1) := by decide +kernel
theorem dJ5_putStringAt_47b60_2 : decode cJ5_putStringAt_47b60 2 = .ok (.invokevirtual 397, 3) := by decide +kernel
theorem dJ5_putStringAt_47b60_5 : decode cJ5_putStringAt_47b60 5 = .ok (.aload_n 2, 1) := by decide +kernel
theorem dJ5_putStringAt_47b60_6 : decode cJ5_putStringAt_47b60 6 = .ok (.aload_n 0, 1) := by decide +kernel
theorem dJ5_putStringAt_47b60_7 : decode cJ5_putStringAt_47b60 7 = .ok (.getfield 15, 3) := by decide +kernel
theorem dJ5_putStringAt_47b60_10 : decode cJ5_putStringAt_47b60 10 = .ok (.iload_n 1, 1) := by decide +kernel
theorem dJ5_putStringAt_47b60_11 : decode cJ5_putStringAt_47b60 11 = .ok (.aload_n 0, 1) := by decide +kernel
theorem dJ5_putStringAt_47b60_12 : decode cJ5_putStringAt_47b60 12 = .ok (.getfield 22, 3) := by decide +kernel
theorem dJ5_putStringAt_47b60_15 : decode cJ5_putStringAt_47b60 15 = .ok (.invokevirtual 399, 3) := by decide +kernel
theorem dJ5_putStringAt_47b60_18 : decode cJ5_putStringAt_47b60 18 = .ok (.return_, 1) := by decide +kernel
theorem dJx00060_init_a7421_0 : decode cJx00060_init_a7421 0 = .ok (.aload_n 0, 1) := by decide +kernel
theorem dJx00060_init_a7421_1 : decode cJx00060_init_a7421 1 = .ok (.aload_n 1, 1) := by decide +kernel
theorem dJx00060_init_a7421_2 : decode cJx00060_init_a7421 2 = .ok (.invokespecial 7, 3) := by decide +kernel
theorem dJx00060_init_a7421_5 : decode cJx00060_init_a7421 5 = .ok (.return_, 1) := by decide +kernel
theorem dJx00060_init_d00df_0 : decode cJx00060_init_d00df 0 = .ok (.aload_n 0, 1) := by decide +kernel
theorem dJx00060_init_d00df_1 : decode cJx00060_init_d00df 1 = .ok (.new 10, 3) := by decide +kernel
theorem dJx00060_init_d00df_4 : decode cJx00060_init_d00df 4 = .ok (.dup, 1) := by decide +kernel
theorem dJx00060_init_d00df_5 : decode cJx00060_init_d00df 5 = .ok (.invokespecial 12, 3) := by decide +kernel
theorem dJx00060_init_d00df_8 : decode cJx00060_init_d00df 8 = .ok (.ldc 13, 2) := by decide +kernel
theorem dJx00060_init_d00df_10 : decode cJx00060_init_d00df 10 = .ok (.invokevirtual 15, 3) := by decide +kernel
theorem dJx00060_init_d00df_13 : decode cJx00060_init_d00df 13 = .ok (.iload_n 1, 1) := by decide +kernel
theorem dJx00060_init_d00df_14 : decode cJx00060_init_d00df 14 = .ok (.invokevirtual 19, 3) := by decide +kernel
theorem dJx00060_init_d00df_17 : decode cJx00060_init_d00df 17 = .ok (.invokevirtual 22, 3) := by decide +kernel
theorem dJx00060_init_d00df_20 : decode cJx00060_init_d00df 20 = .ok (.invokespecial 7, 3) := by decide +kernel
theorem dJx00060_init_d00df_23 : decode cJx00060_init_d00df 23 = .ok (.return_, 1) := by decide +kernel
theorem dJx29ce0_ordinal_8abf5_0 : decode cJx29ce0_ordinal_8abf5 0 = .ok (.aload_n 0, 1) := by decide +kernel
theorem dJx29ce0_ordinal_8abf5_1 : decode cJx29ce0_ordinal_8abf5 1 = .ok (.getfield 7, 3) := by decide +kernel
theorem dJx29ce0_ordinal_8abf5_4 : decode cJx29ce0_ordinal_8abf5 4 = .ok (.ireturn, 1) := by decide +kernel
theorem dJ6_getChars_ba4f3_0 : decode cJ6_getChars_ba4f3 0 = .ok (.iload_n 1, 1) := by decide +kernel
theorem dJ6_getChars_ba4f3_1 : decode cJ6_getChars_ba4f3 1 = .ok (.istore 5, 2) := by decide +kernel
theorem dJ6_getChars_ba4f3_3 : decode cJ6_getChars_ba4f3 3 = .ok (.iload_n 0, 1) := by decide +kernel
theorem dJ6_getChars_ba4f3_4 : decode cJ6_getChars_ba4f3 4 = .ok (.ifCond .ge 7, 3) := by decide +kernel
theorem dJ6_getChars_ba4f3_7 : decode cJ6_getChars_ba4f3 7 = .ok (.iconst 1, 1) := by decide +kernel
theorem dJ6_getChars_ba4f3_8 : decode cJ6_getChars_ba4f3 8 = .ok (.goto 4, 3) := by decide +kernel
theorem dJ6_getChars_ba4f3_11 : decode cJ6_getChars_ba4f3 11 = .ok (.iconst 0, 1) := by decide +kernel
theorem dJ6_getChars_ba4f3_12 : decode cJ6_getChars_ba4f3 12 = .ok (.istore 6, 2) := by decide +kernel
theorem dJ6_getChars_ba4f3_14 : decode cJ6_getChars_ba4f3 14 = .ok (.iload 6, 2) := by decide +kernel
theorem dJ6_getChars_ba4f3_16 : decode cJ6_getChars_ba4f3 16 = .ok (.ifCond .ne 6, 3) := by decide +kernel
theorem dJ6_getChars_ba4f3_19 : decode cJ6_getChars_ba4f3 19 = .ok (.iload_n 0, 1) := by decide +kernel
theorem dJ6_getChars_ba4f3_20 : decode cJ6_getChars_ba4f3 20 = .ok (.ineg, 1) := by decide +kernel
theorem dJ6_getChars_ba4f3_21 : decode cJ6_getChars_ba4f3 21 = .ok (.istore_n 0, 1) := by decide +kernel
theorem dJ6_getChars_ba4f3_22 : decode cJ6_getChars_ba4f3 22 = .ok (.iload_n 0, 1) := by decide +kernel
theorem dJ6_getChars_ba4f3_23 : decode cJ6_getChars_ba4f3 23 = .ok (.bipush (-100), 2) := by decide +kernel
theorem dJ6_getChars_ba4f3_25 : decode cJ6_getChars_ba4f3 25 = .ok (.if_icmp .gt 47, 3) := by decide +kernel
theorem dJ6_getChars_ba4f3_28 : decode cJ6_getChars_ba4f3 28 = .ok (.iload_n 0, 1) := by decide +kernel
theorem dJ6_getChars_ba4f3_29 : decode cJ6_getChars_ba4f3 29 = .ok (.bipush 100, 2) := by decide +kernel
theorem dJ6_getChars_ba4f3_31 : decode cJ6_getChars_ba4f3 31 = .ok (.idiv, 1) := by decide +kernel
theorem dJ6_getChars_ba4f3_32 : decode cJ6_getChars_ba4f3 32 = .ok (.istore_n 3, 1) := by decide +kernel
theorem dJ6_getChars_ba4f3_33 : decode cJ6_getChars_ba4f3 33 = .ok (.iload_n 3, 1) := by decide +kernel
theorem dJ6_getChars_ba4f3_34 : decode cJ6_getChars_ba4f3 34 = .ok (.bipush 100, 2) := by decide +kernel
theorem dJ6_getChars_ba4f3_36 : decode cJ6_getChars_ba4f3 36 = .ok (.imul, 1) := by decide +kernel
theorem dJ6_getChars_ba4f3_37 : decode cJ6_getChars_ba4f3 37 = .ok (.iload_n 0, 1) := by decide +kernel
theorem dJ6_getChars_ba4f3_38 : decode cJ6_getChars_ba4f3 38 = .ok (.isub, 1) := by decide +kernel
theorem dJ6_getChars_ba4f3_39 : decode cJ6_getChars_ba4f3 39 = .ok (.istore 4, 2) := by decide +kernel
theorem dJ6_getChars_ba4f3_41 : decode cJ6_getChars_ba4f3 41 = .ok (.iload_n 3, 1) := by decide +kernel
theorem dJ6_getChars_ba4f3_42 : decode cJ6_getChars_ba4f3 42 = .ok (.istore_n 0, 1) := by decide +kernel
theorem dJ6_getChars_ba4f3_43 : decode cJ6_getChars_ba4f3 43 = .ok (.aload_n 2, 1) := by decide +kernel
theorem dJ6_getChars_ba4f3_44 : decode cJ6_getChars_ba4f3 44 = .ok (.iinc 5 (-1), 3) := by decide +kernel
theorem dJ6_getChars_ba4f3_47 : decode cJ6_getChars_ba4f3 47 = .ok (.iload 5, 2) := by decide +kernel
theorem dJ6_getChars_ba4f3_49 : decode cJ6_getChars_ba4f3 49 = .ok (.getstatic 83, 3) := by decide +kernel
theorem dJ6_getChars_ba4f3_52 : decode cJ6_getChars_ba4f3 52 = .ok (.iload 4, 2) := by decide +kernel
theorem dJ6_getChars_ba4f3_54 : decode cJ6_getChars_ba4f3 54 = .ok (.baload, 1) := by decide +kernel
theorem dJ6_getChars_ba4f3_55 : decode cJ6_getChars_ba4f3 55 = .ok (.bastore, 1) := by decide +kernel
theorem dJ6_getChars_ba4f3_56 : decode cJ6_getChars_ba4f3 56 = .ok (.aload_n 2, 1) := by decide +kernel
theorem dJ6_getChars_ba4f3_57 : decode cJ6_getChars_ba4f3 57 = .ok (.iinc 5 (-1), 3) := by decide +kernel
theorem dJ6_getChars_ba4f3_60 : decode cJ6_getChars_ba4f3 60 = .ok (.iload 5, 2) := by decide +kernel
theorem dJ6_getChars_ba4f3_62 : decode cJ6_getChars_ba4f3 62 = .ok (.getstatic 87, 3) := by decide +kernel
theorem dJ6_getChars_ba4f3_65 : decode cJ6_getChars_ba4f3 65 = .ok (.iload 4, 2) := by decide +kernel
theorem dJ6_getChars_ba4f3_67 : decode cJ6_getChars_ba4f3 67 = .ok (.baload, 1) := by decide +kernel
theorem dJ6_getChars_ba4f3_68 : decode cJ6_getChars_ba4f3 68 = .ok (.bastore, 1) := by decide +kernel
theorem dJ6_getChars_ba4f3_69 : decode cJ6_getChars_ba4f3 69 = .ok (.goto (-47), 3) := by decide +kernel
theorem dJ6_getChars_ba4f3_72 : decode cJ6_getChars_ba4f3 72 = .ok (.aload_n 2, 1) := by decide +kernel
theorem dJ6_getChars_ba4f3_73 : decode cJ6_getChars_ba4f3 73 = .ok (.iinc 5 (-1), 3) := by decide +kernel
theorem dJ6_getChars_ba4f3_76 : decode cJ6_getChars_ba4f3 76 = .ok (.iload 5, 2) := by decide +kernel
theorem dJ6_getChars_ba4f3_78 : decode cJ6_getChars_ba4f3 78 = .ok (.getstatic 83, 3) := by decide +kernel
theorem dJ6_getChars_ba4f3_81 : decode cJ6_getChars_ba4f3 81 = .ok (.iload_n 0, 1) := by decide +kernel
theorem dJ6_getChars_ba4f3_82 : decode cJ6_getChars_ba4f3 82 = .ok (.ineg, 1) := by decide +kernel
theorem dJ6_getChars_ba4f3_83 : decode cJ6_getChars_ba4f3 83 = .ok (.baload, 1) := by decide +kernel
theorem dJ6_getChars_ba4f3_84 : decode cJ6_getChars_ba4f3 84 = .ok (.bastore, 1) := by decide +kernel
theorem dJ6_getChars_ba4f3_85 : decode cJ6_getChars_ba4f3 85 = .ok (.iload_n 0, 1) := by decide +kernel
theorem dJ6_getChars_ba4f3_86 : decode cJ6_getChars_ba4f3 86 = .ok (.bipush (-9), 2) := by decide +kernel
theorem dJ6_getChars_ba4f3_88 : decode cJ6_getChars_ba4f3 88 = .ok (.if_icmp .ge 16, 3) := by decide +kernel
theorem dJ6_getChars_ba4f3_91 : decode cJ6_getChars_ba4f3 91 = .ok (.aload_n 2, 1) := by decide +kernel
theorem dJ6_getChars_ba4f3_92 : decode cJ6_getChars_ba4f3 92 = .ok (.iinc 5 (-1), 3) := by decide +kernel
theorem dJ6_getChars_ba4f3_95 : decode cJ6_getChars_ba4f3 95 = .ok (.iload 5, 2) := by decide +kernel
theorem dJ6_getChars_ba4f3_97 : decode cJ6_getChars_ba4f3 97 = .ok (.getstatic 87, 3) := by decide +kernel
theorem dJ6_getChars_ba4f3_100 : decode cJ6_getChars_ba4f3 100 = .ok (.iload_n 0, 1) := by decide +kernel
theorem dJ6_getChars_ba4f3_101 : decode cJ6_getChars_ba4f3 101 = .ok (.ineg, 1) := by decide +kernel
theorem dJ6_getChars_ba4f3_102 : decode cJ6_getChars_ba4f3 102 = .ok (.baload, 1) := by decide +kernel
theorem dJ6_getChars_ba4f3_103 : decode cJ6_getChars_ba4f3 103 = .ok (.bastore, 1) := by decide +kernel
theorem dJ6_getChars_ba4f3_104 : decode cJ6_getChars_ba4f3 104 = .ok (.iload 6, 2) := by decide +kernel
theorem dJ6_getChars_ba4f3_106 : decode cJ6_getChars_ba4f3 106 = .ok (.ifCond .eq 12, 3) := by decide +kernel
theorem dJ6_getChars_ba4f3_109 : decode cJ6_getChars_ba4f3 109 = .ok (.aload_n 2, 1) := by decide +kernel
theorem dJ6_getChars_ba4f3_110 : decode cJ6_getChars_ba4f3 110 = .ok (.iinc 5 (-1), 3) := by decide +kernel
theorem dJ6_getChars_ba4f3_113 : decode cJ6_getChars_ba4f3 113 = .ok (.iload 5, 2) := by decide +kernel
theorem dJ6_getChars_ba4f3_115 : decode cJ6_getChars_ba4f3 115 = .ok (.bipush 45, 2) := by decide +kernel
theorem dJ6_getChars_ba4f3_117 : decode cJ6_getChars_ba4f3 117 = .ok (.bastore, 1) := by decide +kernel
theorem dJ6_getChars_ba4f3_118 : decode cJ6_getChars_ba4f3 118 = .ok (.iload 5, 2) := by decide +kernel
theorem dJ6_getChars_ba4f3_120 : decode cJ6_getChars_ba4f3 120 = .ok (.ireturn, 1) := by decide +kernel
theorem dJ6_stringSize_0f7a4_0 : decode cJ6_stringSize_0f7a4 0 = .ok (.iconst 1, 1) := by decide +kernel
theorem dJ6_stringSize_0f7a4_1 : decode cJ6_stringSize_0f7a4 1 = .ok (.istore_n 1, 1) := by decide +kernel
theorem dJ6_stringSize_0f7a4_2 : decode cJ6_stringSize_0f7a4 2 = .ok (.iload_n 0, 1) := by decide +kernel
theorem dJ6_stringSize_0f7a4_3 : decode cJ6_stringSize_0f7a4 3 = .ok (.ifCond .lt 8, 3) := by decide +kernel
theorem dJ6_stringSize_0f7a4_6 : decode cJ6_stringSize_0f7a4 6 = .ok (.iconst 0, 1) := by decide +kernel
theorem dJ6_stringSize_0f7a4_7 : decode cJ6_stringSize_0f7a4 7 = .ok (.istore_n 1, 1) := by decide +kernel
theorem dJ6_stringSize_0f7a4_8 : decode cJ6_stringSize_0f7a4 8 = .ok (.iload_n 0, 1) := by decide +kernel
theorem dJ6_stringSize_0f7a4_9 : decode cJ6_stringSize_0f7a4 9 = .ok (.ineg, 1) := by decide +kernel
theorem dJ6_stringSize_0f7a4_10 : decode cJ6_stringSize_0f7a4 10 = .ok (.istore_n 0, 1) := by decide +kernel
theorem dJ6_stringSize_0f7a4_11 : decode cJ6_stringSize_0f7a4 11 = .ok (.bipush (-10), 2) := by decide +kernel
theorem dJ6_stringSize_0f7a4_13 : decode cJ6_stringSize_0f7a4 13 = .ok (.istore_n 2, 1) := by decide +kernel
theorem dJ6_stringSize_0f7a4_14 : decode cJ6_stringSize_0f7a4 14 = .ok (.iconst 1, 1) := by decide +kernel
theorem dJ6_stringSize_0f7a4_15 : decode cJ6_stringSize_0f7a4 15 = .ok (.istore_n 3, 1) := by decide +kernel
theorem dJ6_stringSize_0f7a4_16 : decode cJ6_stringSize_0f7a4 16 = .ok (.iload_n 3, 1) := by decide +kernel
theorem dJ6_stringSize_0f7a4_17 : decode cJ6_stringSize_0f7a4 17 = .ok (.bipush 10, 2) := by decide +kernel
theorem dJ6_stringSize_0f7a4_19 : decode cJ6_stringSize_0f7a4 19 = .ok (.if_icmp .ge 23, 3) := by decide +kernel
theorem dJ6_stringSize_0f7a4_22 : decode cJ6_stringSize_0f7a4 22 = .ok (.iload_n 0, 1) := by decide +kernel
theorem dJ6_stringSize_0f7a4_23 : decode cJ6_stringSize_0f7a4 23 = .ok (.iload_n 2, 1) := by decide +kernel
theorem dJ6_stringSize_0f7a4_24 : decode cJ6_stringSize_0f7a4 24 = .ok (.if_icmp .le 7, 3) := by decide +kernel
theorem dJ6_stringSize_0f7a4_27 : decode cJ6_stringSize_0f7a4 27 = .ok (.iload_n 3, 1) := by decide +kernel
theorem dJ6_stringSize_0f7a4_28 : decode cJ6_stringSize_0f7a4 28 = .ok (.iload_n 1, 1) := by decide +kernel
theorem dJ6_stringSize_0f7a4_29 : decode cJ6_stringSize_0f7a4 29 = .ok (.iadd, 1) := by decide +kernel
theorem dJ6_stringSize_0f7a4_30 : decode cJ6_stringSize_0f7a4 30 = .ok (.ireturn, 1) := by decide +kernel
theorem dJ6_stringSize_0f7a4_31 : decode cJ6_stringSize_0f7a4 31 = .ok (.bipush 10, 2) := by decide +kernel
theorem dJ6_stringSize_0f7a4_33 : decode cJ6_stringSize_0f7a4 33 = .ok (.iload_n 2, 1) := by decide +kernel
theorem dJ6_stringSize_0f7a4_34 : decode cJ6_stringSize_0f7a4 34 = .ok (.imul, 1) := by decide +kernel
theorem dJ6_stringSize_0f7a4_35 : decode cJ6_stringSize_0f7a4 35 = .ok (.istore_n 2, 1) := by decide +kernel
theorem dJ6_stringSize_0f7a4_36 : decode cJ6_stringSize_0f7a4 36 = .ok (.iinc 3 1, 3) := by decide +kernel
theorem dJ6_stringSize_0f7a4_39 : decode cJ6_stringSize_0f7a4 39 = .ok (.goto (-23), 3) := by decide +kernel
theorem dJ6_stringSize_0f7a4_42 : decode cJ6_stringSize_0f7a4 42 = .ok (.bipush 10, 2) := by decide +kernel
theorem dJ6_stringSize_0f7a4_44 : decode cJ6_stringSize_0f7a4 44 = .ok (.iload_n 1, 1) := by decide +kernel
theorem dJ6_stringSize_0f7a4_45 : decode cJ6_stringSize_0f7a4 45 = .ok (.iadd, 1) := by decide +kernel
theorem dJ6_stringSize_0f7a4_46 : decode cJ6_stringSize_0f7a4 46 = .ok (.ireturn, 1) := by decide +kernel
theorem dJ9_floorMod_7cf53_0 : decode cJ9_floorMod_7cf53 0 = .ok (.iload_n 0, 1) := by decide +kernel
theorem dJ9_floorMod_7cf53_1 : decode cJ9_floorMod_7cf53 1 = .ok (.iload_n 1, 1) := by decide +kernel
theorem dJ9_floorMod_7cf53_2 : decode cJ9_floorMod_7cf53 2 = .ok (.irem, 1) := by decide +kernel
theorem dJ9_floorMod_7cf53_3 : decode cJ9_floorMod_7cf53 3 = .ok (.istore_n 2, 1) := by decide +kernel
theorem dJ9_floorMod_7cf53_4 : decode cJ9_floorMod_7cf53 4 = .ok (.iload_n 0, 1) := by decide +kernel
theorem dJ9_floorMod_7cf53_5 : decode cJ9_floorMod_7cf53 5 = .ok (.iload_n 1, 1) := by decide +kernel
theorem dJ9_floorMod_7cf53_6 : decode cJ9_floorMod_7cf53 6 = .ok (.ixor, 1) := by decide +kernel
theorem dJ9_floorMod_7cf53_7 : decode cJ9_floorMod_7cf53 7 = .ok (.ifCond .ge 11, 3) := by decide +kernel
theorem dJ9_floorMod_7cf53_10 : decode cJ9_floorMod_7cf53 10 = .ok (.iload_n 2, 1) := by decide +kernel
theorem dJ9_floorMod_7cf53_11 : decode cJ9_floorMod_7cf53 11 = .ok (.ifCond .eq 7, 3) := by decide +kernel
theorem dJ9_floorMod_7cf53_14 : decode cJ9_floorMod_7cf53 14 = .ok (.iload_n 2, 1) := by decide +kernel
theorem dJ9_floorMod_7cf53_15 : decode cJ9_floorMod_7cf53 15 = .ok (.iload_n 1, 1) := by decide +kernel
theorem dJ9_floorMod_7cf53_16 : decode cJ9_floorMod_7cf53 16 = .ok (.iadd, 1) := by decide +kernel
theorem dJ9_floorMod_7cf53_17 : decode cJ9_floorMod_7cf53 17 = .ok (.ireturn, 1) := by decide +kernel
theorem dJ9_floorMod_7cf53_18 : decode cJ9_floorMod_7cf53 18 = .ok (.iload_n 2, 1) := by decide +kernel
theorem dJ9_floorMod_7cf53_19 : decode cJ9_floorMod_7cf53 19 = .ok (.ireturn, 1) := by decide +kernel
theorem dJ9_max_7cf53_0 : decode cJ9_max_7cf53 0 = .ok (.iload_n 0, 1) := by decide +kernel
theorem dJ9_max_7cf53_1 : decode cJ9_max_7cf53 1 = .ok (.iload_n 1, 1) := by decide +kernel
theorem dJ9_max_7cf53_2 : decode cJ9_max_7cf53 2 = .ok (.if_icmp .lt 7, 3) := by decide +kernel
theorem dJ9_max_7cf53_5 : decode cJ9_max_7cf53 5 = .ok (.iload_n 0, 1) := by decide +kernel
theorem dJ9_max_7cf53_6 : decode cJ9_max_7cf53 6 = .ok (.goto 4, 3) := by decide +kernel
theorem dJ9_max_7cf53_9 : decode cJ9_max_7cf53 9 = .ok (.iload_n 1, 1) := by decide +kernel
theorem dJ9_max_7cf53_10 : decode cJ9_max_7cf53 10 = .ok (.ireturn, 1) := by decide +kernel
theorem dJ9_min_7cf53_0 : decode cJ9_min_7cf53 0 = .ok (.iload_n 0, 1) := by decide +kernel
theorem dJ9_min_7cf53_1 : decode cJ9_min_7cf53 1 = .ok (.iload_n 1, 1) := by decide +kernel
theorem dJ9_min_7cf53_2 : decode cJ9_min_7cf53 2 = .ok (.if_icmp .gt 7, 3) := by decide +kernel
theorem dJ9_min_7cf53_5 : decode cJ9_min_7cf53 5 = .ok (.iload_n 0, 1) := by decide +kernel
theorem dJ9_min_7cf53_6 : decode cJ9_min_7cf53 6 = .ok (.goto 4, 3) := by decide +kernel
theorem dJ9_min_7cf53_9 : decode cJ9_min_7cf53 9 = .ok (.iload_n 1, 1) := by decide +kernel
theorem dJ9_min_7cf53_10 : decode cJ9_min_7cf53 10 = .ok (.ireturn, 1) := by decide +kernel
theorem dJ0_init_81219_0 : decode cJ0_init_81219 0 = .ok (.aload_n 0, 1) := by decide +kernel
theorem dJ0_init_81219_1 : decode cJ0_init_81219 1 = .ok (.aload_n 1, 1) := by decide +kernel
theorem dJ0_init_81219_2 : decode cJ0_init_81219 2 = .ok (.aconst_null, 1) := by decide +kernel
theorem dJ0_init_81219_3 : decode cJ0_init_81219 3 = .ok (.invokespecial 489, 3) := by decide +kernel
theorem dJ0_init_81219_6 : decode cJ0_init_81219 6 = .ok (.return_, 1) := by decide +kernel
theorem dJ0_length_8abf5_0 : decode cJ0_length_8abf5 0 = .ok (.aload_n 0, 1) := by decide +kernel
theorem dJ0_length_8abf5_1 : decode cJ0_length_8abf5 1 = .ok (.getfield 9, 3) := by decide +kernel
theorem dJ0_length_8abf5_4 : decode cJ0_length_8abf5 4 = .ok (.arraylength, 1) := by decide +kernel
theorem dJ0_length_8abf5_5 : decode cJ0_length_8abf5 5 = .ok (.aload_n 0, 1) := by decide +kernel
theorem dJ0_length_8abf5_6 : decode cJ0_length_8abf5 6 = .ok (.invokevirtual 335, 3) := by decide +kernel
theorem dJ0_length_8abf5_9 : decode cJ0_length_8abf5 9 = .ok (.ishr, 1) := by decide +kernel
theorem dJ0_length_8abf5_10 : decode cJ0_length_8abf5 10 = .ok (.ireturn, 1) := by decide +kernel
theorem dJ0_charAt_5068e_0 : decode cJ0_charAt_5068e 0 = .ok (.aload_n 0, 1) := by decide +kernel
theorem dJ0_charAt_5068e_1 : decode cJ0_charAt_5068e 1 = .ok (.invokevirtual 492, 3) := by decide +kernel
theorem dJ0_charAt_5068e_4 : decode cJ0_charAt_5068e 4 = .ok (.ifCond .eq 12, 3) := by decide +kernel
theorem dJ0_charAt_5068e_7 : decode cJ0_charAt_5068e 7 = .ok (.aload_n 0, 1) := by decide +kernel
theorem dJ0_charAt_5068e_8 : decode cJ0_charAt_5068e 8 = .ok (.getfield 9, 3) := by decide +kernel
theorem dJ0_charAt_5068e_11 : decode cJ0_charAt_5068e 11 = .ok (.iload_n 1, 1) := by decide +kernel
theorem dJ0_charAt_5068e_12 : decode cJ0_charAt_5068e 12 = .ok (.invokestatic 495, 3) := by decide +kernel
theorem dJ0_charAt_5068e_15 : decode cJ0_charAt_5068e 15 = .ok (.ireturn, 1) := by decide +kernel
theorem dJ0_charAt_5068e_16 : decode cJ0_charAt_5068e 16 = .ok (.aload_n 0, 1) := by decide +kernel
theorem dJ0_charAt_5068e_17 : decode cJ0_charAt_5068e 17 = .ok (.getfield 9, 3) := by decide +kernel
theorem dJ0_charAt_5068e_20 : decode cJ0_charAt_5068e 20 = .ok (.iload_n 1, 1) := by decide +kernel
theorem dJ0_charAt_5068e_21 : decode cJ0_charAt_5068e 21 = .ok (.invokestatic 498, 3) := by decide +kernel
theorem dJ0_charAt_5068e_24 : decode cJ0_charAt_5068e 24 = .ok (.ireturn, 1) := by decide +kernel
theorem dJ0_getBytes_840e7_0 : decode cJ0_getBytes_840e7 0 = .ok (.aload_n 0, 1) := by decide +kernel
theorem dJ0_getBytes_840e7_1 : decode cJ0_getBytes_840e7 1 = .ok (.invokevirtual 335, 3) := by decide +kernel
theorem dJ0_getBytes_840e7_4 : decode cJ0_getBytes_840e7 4 = .ok (.iload_n 3, 1) := by decide +kernel
theorem dJ0_getBytes_840e7_5 : decode cJ0_getBytes_840e7 5 = .ok (.if_icmp .ne 23, 3) := by decide +kernel
theorem dJ0_getBytes_840e7_8 : decode cJ0_getBytes_840e7 8 = .ok (.aload_n 0, 1) := by decide +kernel
theorem dJ0_getBytes_840e7_9 : decode cJ0_getBytes_840e7 9 = .ok (.getfield 9, 3) := by decide +kernel
theorem dJ0_getBytes_840e7_12 : decode cJ0_getBytes_840e7 12 = .ok (.iconst 0, 1) := by decide +kernel
theorem dJ0_getBytes_840e7_13 : decode cJ0_getBytes_840e7 13 = .ok (.aload_n 1, 1) := by decide +kernel
theorem dJ0_getBytes_840e7_14 : decode cJ0_getBytes_840e7 14 = .ok (.iload_n 2, 1) := by decide +kernel
theorem dJ0_getBytes_840e7_15 : decode cJ0_getBytes_840e7 15 = .ok (.iload_n 3, 1) := by decide +kernel
theorem dJ0_getBytes_840e7_16 : decode cJ0_getBytes_840e7 16 = .ok (.ishl, 1) := by decide +kernel
theorem dJ0_getBytes_840e7_17 : decode cJ0_getBytes_840e7 17 = .ok (.aload_n 0, 1) := by decide +kernel
theorem dJ0_getBytes_840e7_18 : decode cJ0_getBytes_840e7 18 = .ok (.getfield 9, 3) := by decide +kernel
theorem dJ0_getBytes_840e7_21 : decode cJ0_getBytes_840e7 21 = .ok (.arraylength, 1) := by decide +kernel
theorem dJ0_getBytes_840e7_22 : decode cJ0_getBytes_840e7 22 = .ok (.invokestatic 212, 3) := by decide +kernel
theorem dJ0_getBytes_840e7_25 : decode cJ0_getBytes_840e7 25 = .ok (.goto 18, 3) := by decide +kernel
theorem dJ0_getBytes_840e7_28 : decode cJ0_getBytes_840e7 28 = .ok (.aload_n 0, 1) := by decide +kernel
theorem dJ0_getBytes_840e7_29 : decode cJ0_getBytes_840e7 29 = .ok (.getfield 9, 3) := by decide +kernel
theorem dJ0_getBytes_840e7_32 : decode cJ0_getBytes_840e7 32 = .ok (.iconst 0, 1) := by decide +kernel
theorem dJ0_getBytes_840e7_33 : decode cJ0_getBytes_840e7 33 = .ok (.aload_n 1, 1) := by decide +kernel
theorem dJ0_getBytes_840e7_34 : decode cJ0_getBytes_840e7 34 = .ok (.iload_n 2, 1) := by decide +kernel
theorem dJ0_getBytes_840e7_35 : decode cJ0_getBytes_840e7 35 = .ok (.aload_n 0, 1) := by decide +kernel
theorem dJ0_getBytes_840e7_36 : decode cJ0_getBytes_840e7 36 = .ok (.getfield 9, 3) := by decide +kernel
theorem dJ0_getBytes_840e7_39 : decode cJ0_getBytes_840e7 39 = .ok (.arraylength, 1) := by decide +kernel
theorem dJ0_getBytes_840e7_40 : decode cJ0_getBytes_840e7 40 = .ok (.invokestatic 106, 3) := by decide +kernel
theorem dJ0_getBytes_840e7_43 : decode cJ0_getBytes_840e7 43 = .ok (.return_, 1) := by decide +kernel
theorem dJ0_init_db425_0 : decode cJ0_init_db425 0 = .ok (.aload_n 0, 1) := by decide +kernel
theorem dJ0_init_db425_1 : decode cJ0_init_db425 1 = .ok (.invokespecial 1, 3) := by decide +kernel
theorem dJ0_init_db425_4 : decode cJ0_init_db425 4 = .ok (.aload_n 1, 1) := by decide +kernel
theorem dJ0_init_db425_5 : decode cJ0_init_db425 5 = .ok (.invokevirtual 552, 3) := by decide +kernel
theorem dJ0_init_db425_8 : decode cJ0_init_db425 8 = .ok (.astore_n 3, 1) := by decide +kernel
theorem dJ0_init_db425_9 : decode cJ0_init_db425 9 = .ok (.aload_n 1, 1) := by decide +kernel
theorem dJ0_init_db425_10 : decode cJ0_init_db425 10 = .ok (.invokevirtual 549, 3) := by decide +kernel
theorem dJ0_init_db425_13 : decode cJ0_init_db425 13 = .ok (.istore 4, 2) := by decide +kernel
theorem dJ0_init_db425_15 : decode cJ0_init_db425 15 = .ok (.aload_n 1, 1) := by decide +kernel
theorem dJ0_init_db425_16 : decode cJ0_init_db425 16 = .ok (.invokevirtual 1047, 3) := by decide +kernel
theorem dJ0_init_db425_19 : decode cJ0_init_db425 19 = .ok (.ifCond .eq 22, 3) := by decide +kernel
theorem dJ0_init_db425_22 : decode cJ0_init_db425 22 = .ok (.aload_n 0, 1) := by decide +kernel
theorem dJ0_init_db425_23 : decode cJ0_init_db425 23 = .ok (.iconst 0, 1) := by decide +kernel
theorem dJ0_init_db425_24 : decode cJ0_init_db425 24 = .ok (.putfield 15, 3) := by decide +kernel
theorem dJ0_init_db425_27 : decode cJ0_init_db425 27 = .ok (.aload_n 0, 1) := by decide +kernel
theorem dJ0_init_db425_28 : decode cJ0_init_db425 28 = .ok (.aload_n 3, 1) := by decide +kernel
theorem dJ0_init_db425_29 : decode cJ0_init_db425 29 = .ok (.iconst 0, 1) := by decide +kernel
theorem dJ0_init_db425_30 : decode cJ0_init_db425 30 = .ok (.iload 4, 2) := by decide +kernel
theorem dJ0_init_db425_32 : decode cJ0_init_db425 32 = .ok (.invokestatic 54, 3) := by decide +kernel
theorem dJ0_init_db425_35 : decode cJ0_init_db425 35 = .ok (.putfield 9, 3) := by decide +kernel
theorem dJ0_init_db425_38 : decode cJ0_init_db425 38 = .ok (.goto 59, 3) := by decide +kernel
theorem dJ0_init_db425_41 : decode cJ0_init_db425 41 = .ok (.getstatic 38, 3) := by decide +kernel
theorem dJ0_init_db425_44 : decode cJ0_init_db425 44 = .ok (.ifCond .eq 35, 3) := by decide +kernel
theorem dJ0_init_db425_47 : decode cJ0_init_db425 47 = .ok (.aload_n 1, 1) := by decide +kernel
theorem dJ0_init_db425_48 : decode cJ0_init_db425 48 = .ok (.getfield 1048, 3) := by decide +kernel
theorem dJ0_init_db425_51 : decode cJ0_init_db425 51 = .ok (.ifCond .eq 28, 3) := by decide +kernel
theorem dJ0_init_db425_54 : decode cJ0_init_db425 54 = .ok (.aload_n 0, 1) := by decide +kernel
theorem dJ0_init_db425_55 : decode cJ0_init_db425 55 = .ok (.aload_n 3, 1) := by decide +kernel
theorem dJ0_init_db425_56 : decode cJ0_init_db425 56 = .ok (.iconst 0, 1) := by decide +kernel
theorem dJ0_init_db425_57 : decode cJ0_init_db425 57 = .ok (.iload 4, 2) := by decide +kernel
theorem dJ0_init_db425_59 : decode cJ0_init_db425 59 = .ok (.invokestatic 1051, 3) := by decide +kernel
theorem dJ0_init_db425_62 : decode cJ0_init_db425 62 = .ok (.putfield 9, 3) := by decide +kernel
theorem dJ0_init_db425_65 : decode cJ0_init_db425 65 = .ok (.aload_n 0, 1) := by decide +kernel
theorem dJ0_init_db425_66 : decode cJ0_init_db425 66 = .ok (.aload_n 0, 1) := by decide +kernel
theorem dJ0_init_db425_67 : decode cJ0_init_db425 67 = .ok (.getfield 9, 3) := by decide +kernel
theorem dJ0_init_db425_70 : decode cJ0_init_db425 70 = .ok (.iload 4, 2) := by decide +kernel
theorem dJ0_init_db425_72 : decode cJ0_init_db425 72 = .ok (.invokestatic 47, 3) := by decide +kernel
theorem dJ0_init_db425_75 : decode cJ0_init_db425 75 = .ok (.putfield 15, 3) := by decide +kernel
theorem dJ0_init_db425_78 : decode cJ0_init_db425 78 = .ok (.return_, 1) := by decide +kernel
theorem dJ0_init_db425_79 : decode cJ0_init_db425 79 = .ok (.aload_n 0, 1) := by decide +kernel
theorem dJ0_init_db425_80 : decode cJ0_init_db425 80 = .ok (.iconst 1, 1) := by decide +kernel
theorem dJ0_init_db425_81 : decode cJ0_init_db425 81 = .ok (.putfield 15, 3) := by decide +kernel
theorem dJ0_init_db425_84 : decode cJ0_init_db425 84 = .ok (.aload_n 0, 1) := by decide +kernel
theorem dJ0_init_db425_85 : decode cJ0_init_db425 85 = .ok (.aload_n 3, 1) := by decide +kernel
theorem dJ0_init_db425_86 : decode cJ0_init_db425 86 = .ok (.iconst 0, 1) := by decide +kernel
theorem dJ0_init_db425_87 : decode cJ0_init_db425 87 = .ok (.iload 4, 2) := by decide +kernel
theorem dJ0_init_db425_89 : decode cJ0_init_db425 89 = .ok (.iconst 1, 1) := by decide +kernel
theorem dJ0_init_db425_90 : decode cJ0_init_db425 90 = .ok (.ishl, 1) := by decide +kernel
theorem dJ0_init_db425_91 : decode cJ0_init_db425 91 = .ok (.invokestatic 54, 3) := by decide +kernel
theorem dJ0_init_db425_94 : decode cJ0_init_db425 94 = .ok (.putfield 9, 3) := by decide +kernel
theorem dJ0_init_db425_97 : decode cJ0_init_db425 97 = .ok (.return_, 1) := by decide +kernel
theorem dJ0_coder_7d493_0 : decode cJ0_coder_7d493 0 = .ok (.getstatic 38, 3) := by decide +kernel
theorem dJ0_coder_7d493_3 : decode cJ0_coder_7d493 3 = .ok (.ifCond .eq 10, 3) := by decide +kernel
theorem dJ0_coder_7d493_6 : decode cJ0_coder_7d493 6 = .ok (.aload_n 0, 1) := by decide +kernel
theorem dJ0_coder_7d493_7 : decode cJ0_coder_7d493 7 = .ok (.getfield 15, 3) := by decide +kernel
theorem dJ0_coder_7d493_10 : decode cJ0_coder_7d493 10 = .ok (.goto 4, 3) := by decide +kernel
theorem dJ0_coder_7d493_13 : decode cJ0_coder_7d493 13 = .ok (.iconst 1, 1) := by decide +kernel
theorem dJ0_coder_7d493_14 : decode cJ0_coder_7d493 14 = .ok (.ireturn, 1) := by decide +kernel
theorem dJ0_isLatin1_aae02_0 : decode cJ0_isLatin1_aae02 0 = .ok (.getstatic 38, 3) := by decide +kernel
theorem dJ0_isLatin1_aae02_3 : decode cJ0_isLatin1_aae02 3 = .ok (.ifCond .eq 14, 3) := by decide +kernel
theorem dJ0_isLatin1_aae02_6 : decode cJ0_isLatin1_aae02 6 = .ok (.aload_n 0, 1) := by decide +kernel
theorem dJ0_isLatin1_aae02_7 : decode cJ0_isLatin1_aae02 7 = .ok (.getfield 15, 3) := by decide +kernel
theorem dJ0_isLatin1_aae02_10 : decode cJ0_isLatin1_aae02 10 = .ok (.ifCond .ne 7, 3) := by decide +kernel
theorem dJ0_isLatin1_aae02_13 : decode cJ0_isLatin1_aae02 13 = .ok (.iconst 1, 1) := by decide +kernel
theorem dJ0_isLatin1_aae02_14 : decode cJ0_isLatin1_aae02 14 = .ok (.goto 4, 3) := by decide +kernel
theorem dJ0_isLatin1_aae02_17 : decode cJ0_isLatin1_aae02 17 = .ok (.iconst 0, 1) := by decide +kernel
theorem dJ0_isLatin1_aae02_18 : decode cJ0_isLatin1_aae02 18 = .ok (.ireturn, 1) := by decide +kernel
theorem dJ0_checkIndex_df160_0 : decode cJ0_checkIndex_df160 0 = .ok (.iload_n 0, 1) := by decide +kernel
theorem dJ0_checkIndex_df160_1 : decode cJ0_checkIndex_df160 1 = .ok (.iload_n 1, 1) := by decide +kernel
theorem dJ0_checkIndex_df160_2 : decode cJ0_checkIndex_df160 2 = .ok (.getstatic 1053, 3) := by decide +kernel
theorem dJ0_checkIndex_df160_5 : decode cJ0_checkIndex_df160 5 = .ok (.invokestatic 1059, 3) := by decide +kernel
theorem dJ0_checkIndex_df160_8 : decode cJ0_checkIndex_df160 8 = .ok (.pop, 1) := by decide +kernel
theorem dJ0_checkIndex_df160_9 : decode cJ0_checkIndex_df160 9 = .ok (.return_, 1) := by decide +kernel
theorem dJ0_checkBoundsOffCount_cabcc_0 : decode cJ0_checkBoundsOffCount_cabcc 0 = .ok (.iload_n 0, 1) := by decide +kernel
theorem dJ0_checkBoundsOffCount_cabcc_1 : decode cJ0_checkBoundsOffCount_cabcc 1 = .ok (.iload_n 1, 1) := by decide +kernel
theorem dJ0_checkBoundsOffCount_cabcc_2 : decode cJ0_checkBoundsOffCount_cabcc 2 = .ok (.iload_n 2, 1) := by decide +kernel
theorem dJ0_checkBoundsOffCount_cabcc_3 : decode cJ0_checkBoundsOffCount_cabcc 3 = .ok (.getstatic 1053, 3) := by decide +kernel
theorem dJ0_checkBoundsOffCount_cabcc_6 : decode cJ0_checkBoundsOffCount_cabcc 6 = .ok (.invokestatic 1065, 3) := by decide +kernel
theorem dJ0_checkBoundsOffCount_cabcc_9 : decode cJ0_checkBoundsOffCount_cabcc 9 = .ok (.ireturn, 1) := by decide +kernel
theorem dJ0_checkBoundsBeginEnd_23922_0 : decode cJ0_checkBoundsBeginEnd_23922 0 = .ok (.iload_n 0, 1) := by decide +kernel
theorem dJ0_checkBoundsBeginEnd_23922_1 : decode cJ0_checkBoundsBeginEnd_23922 1 = .ok (.iload_n 1, 1) := by decide +kernel
theorem dJ0_checkBoundsBeginEnd_23922_2 : decode cJ0_checkBoundsBeginEnd_23922 2 = .ok (.iload_n 2, 1) := by decide +kernel
theorem dJ0_checkBoundsBeginEnd_23922_3 : decode cJ0_checkBoundsBeginEnd_23922 3 = .ok (.getstatic 1053, 3) := by decide +kernel
theorem dJ0_checkBoundsBeginEnd_23922_6 : decode cJ0_checkBoundsBeginEnd_23922 6 = .ok (.invokestatic 1062, 3) := by decide +kernel
theorem dJ0_checkBoundsBeginEnd_23922_9 : decode cJ0_checkBoundsBeginEnd_23922 9 = .ok (.pop, 1) := by decide +kernel
theorem dJ0_checkBoundsBeginEnd_23922_10 : decode cJ0_checkBoundsBeginEnd_23922 10 = .ok (.return_, 1) := by decide +kernel
theorem dJ4_init_da8c8_0 : decode cJ4_init_da8c8 0 = .ok (.aload_n 0, 1) := by decide +kernel
theorem dJ4_init_da8c8_1 : decode cJ4_init_da8c8 1 = .ok (.bipush 16, 2) := by decide +kernel
theorem dJ4_init_da8c8_3 : decode cJ4_init_da8c8 3 = .ok (.invokespecial 1, 3) := by decide +kernel
theorem dJ4_init_da8c8_6 : decode cJ4_init_da8c8 6 = .ok (.return_, 1) := by decide +kernel
theorem dJ4_append_15ec4_0 : decode cJ4_append_15ec4 0 = .ok (.aload_n 0, 1) := by decide +kernel
theorem dJ4_append_15ec4_1 : decode cJ4_append_15ec4 1 = .ok (.aload_n 1, 1) := by decide +kernel
theorem dJ4_append_15ec4_2 : decode cJ4_append_15ec4 2 = .ok (.invokespecial 29, 3) := by decide +kernel
theorem dJ4_append_15ec4_5 : decode cJ4_append_15ec4 5 = .ok (.pop, 1) := by decide +kernel
theorem dJ4_append_15ec4_6 : decode cJ4_append_15ec4 6 = .ok (.aload_n 0, 1) := by decide +kernel
theorem dJ4_append_15ec4_7 : decode cJ4_append_15ec4 7 = .ok (.areturn, 1) := by decide +kernel
theorem dJ4_append_cf468_0 : decode cJ4_append_cf468 0 = .ok (.aload_n 0, 1) := by decide +kernel
theorem dJ4_append_cf468_1 : decode cJ4_append_cf468 1 = .ok (.iload_n 1, 1) := by decide +kernel
theorem dJ4_append_cf468_2 : decode cJ4_append_cf468 2 = .ok (.invokespecial 50, 3) := by decide +kernel
theorem dJ4_append_cf468_5 : decode cJ4_append_cf468 5 = .ok (.pop, 1) := by decide +kernel
theorem dJ4_append_cf468_6 : decode cJ4_append_cf468 6 = .ok (.aload_n 0, 1) := by decide +kernel
theorem dJ4_append_cf468_7 : decode cJ4_append_cf468 7 = .ok (.areturn, 1) := by decide +kernel
theorem dJ4_append_bf812_0 : decode cJ4_append_bf812 0 = .ok (.aload_n 0, 1) := by decide +kernel
theorem dJ4_append_bf812_1 : decode cJ4_append_bf812 1 = .ok (.iload_n 1, 1) := by decide +kernel
theorem dJ4_append_bf812_2 : decode cJ4_append_bf812 2 = .ok (.invokespecial 53, 3) := by decide +kernel
theorem dJ4_append_bf812_5 : decode cJ4_append_bf812 5 = .ok (.pop, 1) := by decide +kernel
theorem dJ4_append_bf812_6 : decode cJ4_append_bf812 6 = .ok (.aload_n 0, 1) := by decide +kernel
theorem dJ4_append_bf812_7 : decode cJ4_append_bf812 7 = .ok (.areturn, 1) := by decide +kernel
theorem dJ4_toString_0e30d_0 : decode cJ4_toString_0e30d 0 = .ok (.new 18, 3) := by decide +kernel
theorem dJ4_toString_0e30d_3 : decode cJ4_toString_0e30d 3 = .ok (.dup, 1) := by decide +kernel
theorem dJ4_toString_0e30d_4 : decode cJ4_toString_0e30d 4 = .ok (.aload_n 0, 1) := by decide +kernel
theorem dJ4_toString_0e30d_5 : decode cJ4_toString_0e30d 5 = .ok (.invokespecial 137, 3) := by decide +kernel
theorem dJ4_toString_0e30d_8 : decode cJ4_toString_0e30d 8 = .ok (.areturn, 1) := by decide +kernel
theorem dJ4_charAt_5068e_0 : decode cJ4_charAt_5068e 0 = .ok (.aload_n 0, 1) := by decide +kernel
theorem dJ4_charAt_5068e_1 : decode cJ4_charAt_5068e 1 = .ok (.iload_n 1, 1) := by decide +kernel
theorem dJ4_charAt_5068e_2 : decode cJ4_charAt_5068e 2 = .ok (.invokespecial 329, 3) := by decide +kernel
theorem dJ4_charAt_5068e_5 : decode cJ4_charAt_5068e 5 = .ok (.ireturn, 1) := by decide +kernel
theorem dJ4_setLength_d00df_0 : decode cJ4_setLength_d00df 0 = .ok (.aload_n 0, 1) := by decide +kernel
theorem dJ4_setLength_d00df_1 : decode cJ4_setLength_d00df 1 = .ok (.iload_n 1, 1) := by decide +kernel
theorem dJ4_setLength_d00df_2 : decode cJ4_setLength_d00df 2 = .ok (.invokespecial 333, 3) := by decide +kernel
theorem dJ4_setLength_d00df_5 : decode cJ4_setLength_d00df 5 = .ok (.return_, 1) := by decide +kernel
theorem dJ4_length_8abf5_0 : decode cJ4_length_8abf5 0 = .ok (.aload_n 0, 1) := by decide +kernel
theorem dJ4_length_8abf5_1 : decode cJ4_length_8abf5 1 = .ok (.invokespecial 343, 3) := by decide +kernel
theorem dJ4_length_8abf5_4 : decode cJ4_length_8abf5 4 = .ok (.ireturn, 1) := by decide +kernel
theorem dJx7c733_init_d00df_0 : decode cJx7c733_init_d00df 0 = .ok (.aload_n 0, 1) := by decide +kernel
theorem dJx7c733_init_d00df_1 : decode cJx7c733_init_d00df 1 = .ok (.new 10, 3) := by decide +kernel
theorem dJx7c733_init_d00df_4 : decode cJx7c733_init_d00df 4 = .ok (.dup, 1) := by decide +kernel
theorem dJx7c733_init_d00df_5 : decode cJx7c733_init_d00df 5 = .ok (.invokespecial 12, 3) := by decide +kernel
theorem dJx7c733_init_d00df_8 : decode cJx7c733_init_d00df 8 = .ok (.ldc 13, 2) := by decide +kernel
theorem dJx7c733_init_d00df_10 : decode cJx7c733_init_d00df 10 = .ok (.invokevirtual 15, 3) := by decide +kernel
theorem dJx7c733_init_d00df_13 : decode cJx7c733_init_d00df 13 = .ok (.iload_n 1, 1) := by decide +kernel
theorem dJx7c733_init_d00df_14 : decode cJx7c733_init_d00df 14 = .ok (.invokevirtual 19, 3) := by decide +kernel
theorem dJx7c733_init_d00df_17 : decode cJx7c733_init_d00df 17 = .ok (.invokevirtual 22, 3) := by decide +kernel
theorem dJx7c733_init_d00df_20 : decode cJx7c733_init_d00df 20 = .ok (.invokespecial 7, 3) := by decide +kernel
theorem dJx7c733_init_d00df_23 : decode cJx7c733_init_d00df 23 = .ok (.return_, 1) := by decide +kernel
theorem dJ1_charAt_3b067_0 : decode cJ1_charAt_3b067 0 = .ok (.iload_n 1, 1) := by decide +kernel
theorem dJ1_charAt_3b067_1 : decode cJ1_charAt_3b067 1 = .ok (.aload_n 0, 1) := by decide +kernel
theorem dJ1_charAt_3b067_2 : decode cJ1_charAt_3b067 2 = .ok (.arraylength, 1) := by decide +kernel
theorem dJ1_charAt_3b067_3 : decode cJ1_charAt_3b067 3 = .ok (.invokestatic 9, 3) := by decide +kernel
theorem dJ1_charAt_3b067_6 : decode cJ1_charAt_3b067 6 = .ok (.aload_n 0, 1) := by decide +kernel
theorem dJ1_charAt_3b067_7 : decode cJ1_charAt_3b067 7 = .ok (.iload_n 1, 1) := by decide +kernel
theorem dJ1_charAt_3b067_8 : decode cJ1_charAt_3b067 8 = .ok (.baload, 1) := by decide +kernel
theorem dJ1_charAt_3b067_9 : decode cJ1_charAt_3b067 9 = .ok (.sipush 255, 3) := by decide +kernel
theorem dJ1_charAt_3b067_12 : decode cJ1_charAt_3b067 12 = .ok (.iand, 1) := by decide +kernel
theorem dJ1_charAt_3b067_13 : decode cJ1_charAt_3b067 13 = .ok (.i2c, 1) := by decide +kernel
theorem dJ1_charAt_3b067_14 : decode cJ1_charAt_3b067 14 = .ok (.ireturn, 1) := by decide +kernel
theorem dJ1_canEncode_fc78d_0 : decode cJ1_canEncode_fc78d 0 = .ok (.iload_n 0, 1) := by decide +kernel
theorem dJ1_canEncode_fc78d_1 : decode cJ1_canEncode_fc78d 1 = .ok (.sipush 255, 3) := by decide +kernel
theorem dJ1_canEncode_fc78d_4 : decode cJ1_canEncode_fc78d 4 = .ok (.if_icmp .gt 7, 3) := by decide +kernel
theorem dJ1_canEncode_fc78d_7 : decode cJ1_canEncode_fc78d 7 = .ok (.iconst 1, 1) := by decide +kernel
theorem dJ1_canEncode_fc78d_8 : decode cJ1_canEncode_fc78d 8 = .ok (.goto 4, 3) := by decide +kernel
theorem dJ1_canEncode_fc78d_11 : decode cJ1_canEncode_fc78d 11 = .ok (.iconst 0, 1) := by decide +kernel
theorem dJ1_canEncode_fc78d_12 : decode cJ1_canEncode_fc78d 12 = .ok (.ireturn, 1) := by decide +kernel
theorem dJ1_fillNull_b72d1_0 : decode cJ1_fillNull_b72d1 0 = .ok (.aload_n 0, 1) := by decide +kernel
theorem dJ1_fillNull_b72d1_1 : decode cJ1_fillNull_b72d1 1 = .ok (.iload_n 1, 1) := by decide +kernel
theorem dJ1_fillNull_b72d1_2 : decode cJ1_fillNull_b72d1 2 = .ok (.iload_n 2, 1) := by decide +kernel
theorem dJ1_fillNull_b72d1_3 : decode cJ1_fillNull_b72d1 3 = .ok (.iconst 0, 1) := by decide +kernel
theorem dJ1_fillNull_b72d1_4 : decode cJ1_fillNull_b72d1 4 = .ok (.invokestatic 236, 3) := by decide +kernel
theorem dJ1_fillNull_b72d1_7 : decode cJ1_fillNull_b72d1 7 = .ok (.return_, 1) := by decide +kernel
theorem dJ1_inflate_0e8fd_0 : decode cJ1_inflate_0e8fd 0 = .ok (.aload_n 0, 1) := by decide +kernel
theorem dJ1_inflate_0e8fd_1 : decode cJ1_inflate_0e8fd 1 = .ok (.iload_n 1, 1) := by decide +kernel
theorem dJ1_inflate_0e8fd_2 : decode cJ1_inflate_0e8fd 2 = .ok (.aload_n 2, 1) := by decide +kernel
theorem dJ1_inflate_0e8fd_3 : decode cJ1_inflate_0e8fd 3 = .ok (.iload_n 3, 1) := by decide +kernel
theorem dJ1_inflate_0e8fd_4 : decode cJ1_inflate_0e8fd 4 = .ok (.iload 4, 2) := by decide +kernel
theorem dJ1_inflate_0e8fd_6 : decode cJ1_inflate_0e8fd 6 = .ok (.invokestatic 240, 3) := by decide +kernel
theorem dJ1_inflate_0e8fd_9 : decode cJ1_inflate_0e8fd 9 = .ok (.return_, 1) := by decide +kernel
theorem dJ2_newBytesFor_77867_0 : decode cJ2_newBytesFor_77867 0 = .ok (.iload_n 0, 1) := by decide +kernel
theorem dJ2_newBytesFor_77867_1 : decode cJ2_newBytesFor_77867 1 = .ok (.invokestatic 11, 3) := by decide +kernel
theorem dJ2_newBytesFor_77867_4 : decode cJ2_newBytesFor_77867 4 = .ok (.newarray .byte, 2) := by decide +kernel
theorem dJ2_newBytesFor_77867_6 : decode cJ2_newBytesFor_77867 6 = .ok (.areturn, 1) := by decide +kernel
theorem dJ2_newBytesLength_0f7a4_0 : decode cJ2_newBytesLength_0f7a4 0 = .ok (.iload_n 0, 1) := by decide +kernel
theorem dJ2_newBytesLength_0f7a4_1 : decode cJ2_newBytesLength_0f7a4 1 = .ok (.ifCond .ge 11, 3) := by decide +kernel
theorem dJ2_newBytesLength_0f7a4_4 : decode cJ2_newBytesLength_0f7a4 4 = .ok (.new 17, 3) := by decide +kernel
theorem dJ2_newBytesLength_0f7a4_7 : decode cJ2_newBytesLength_0f7a4 7 = .ok (.dup, 1) := by decide +kernel
theorem dJ2_newBytesLength_0f7a4_8 : decode cJ2_newBytesLength_0f7a4 8 = .ok (.invokespecial 19, 3) := by decide +kernel
theorem dJ2_newBytesLength_0f7a4_11 : decode cJ2_newBytesLength_0f7a4 11 = .ok (.athrow, 1) := by decide +kernel
theorem dJ2_newBytesLength_0f7a4_12 : decode cJ2_newBytesLength_0f7a4 12 = .ok (.iload_n 0, 1) := by decide +kernel
theorem dJ2_newBytesLength_0f7a4_13 : decode cJ2_newBytesLength_0f7a4 13 = .ok (.ldc 20, 2) := by decide +kernel
theorem dJ2_newBytesLength_0f7a4_15 : decode cJ2_newBytesLength_0f7a4 15 = .ok (.if_icmp .lt 40, 3) := by decide +kernel
theorem dJ2_newBytesLength_0f7a4_18 : decode cJ2_newBytesLength_0f7a4 18 = .ok (.new 21, 3) := by decide +kernel
theorem dJ2_newBytesLength_0f7a4_21 : decode cJ2_newBytesLength_0f7a4 21 = .ok (.dup, 1) := by decide +kernel
theorem dJ2_newBytesLength_0f7a4_22 : decode cJ2_newBytesLength_0f7a4 22 = .ok (.new 23, 3) := by decide +kernel
theorem dJ2_newBytesLength_0f7a4_25 : decode cJ2_newBytesLength_0f7a4 25 = .ok (.dup, 1) := by decide +kernel
theorem dJ2_newBytesLength_0f7a4_26 : decode cJ2_newBytesLength_0f7a4 26 = .ok (.invokespecial 25, 3) := by decide +kernel
theorem dJ2_newBytesLength_0f7a4_29 : decode cJ2_newBytesLength_0f7a4 29 = .ok (.ldc 26, 2) := by decide +kernel
theorem dJ2_newBytesLength_0f7a4_31 : decode cJ2_newBytesLength_0f7a4 31 = .ok (.invokevirtual 28, 3) := by decide +kernel
theorem dJ2_newBytesLength_0f7a4_34 : decode cJ2_newBytesLength_0f7a4 34 = .ok (.iload_n 0, 1) := by decide +kernel
theorem dJ2_newBytesLength_0f7a4_35 : decode cJ2_newBytesLength_0f7a4 35 = .ok (.invokevirtual 32, 3) := by decide +kernel
theorem dJ2_newBytesLength_0f7a4_38 : decode cJ2_newBytesLength_0f7a4 38 = .ok (.ldc 35, 2) := by decide +kernel
theorem dJ2_newBytesLength_0f7a4_40 : decode cJ2_newBytesLength_0f7a4 40 = .ok (.invokevirtual 28, 3) := by decide +kernel
theorem dJ2_newBytesLength_0f7a4_43 : decode cJ2_newBytesLength_0f7a4 43 = .ok (.ldc 20, 2) := by decide +kernel
theorem dJ2_newBytesLength_0f7a4_45 : decode cJ2_newBytesLength_0f7a4 45 = .ok (.invokevirtual 32, 3) := by decide +kernel
theorem dJ2_newBytesLength_0f7a4_48 : decode cJ2_newBytesLength_0f7a4 48 = .ok (.invokevirtual 37, 3) := by decide +kernel
theorem dJ2_newBytesLength_0f7a4_51 : decode cJ2_newBytesLength_0f7a4 51 = .ok (.invokespecial 41, 3) := by decide +kernel
theorem dJ2_newBytesLength_0f7a4_54 : decode cJ2_newBytesLength_0f7a4 54 = .ok (.athrow, 1) := by decide +kernel
theorem dJ2_newBytesLength_0f7a4_55 : decode cJ2_newBytesLength_0f7a4 55 = .ok (.iload_n 0, 1) := by decide +kernel
theorem dJ2_newBytesLength_0f7a4_56 : decode cJ2_newBytesLength_0f7a4 56 = .ok (.iconst 1, 1) := by decide +kernel
theorem dJ2_newBytesLength_0f7a4_57 : decode cJ2_newBytesLength_0f7a4 57 = .ok (.ishl, 1) := by decide +kernel
theorem dJ2_newBytesLength_0f7a4_58 : decode cJ2_newBytesLength_0f7a4 58 = .ok (.ireturn, 1) := by decide +kernel
theorem dJ2_putChar_b72d1_0 : decode cJ2_putChar_b72d1 0 = .ok (.getstatic 44, 3) := by decide +kernel
theorem dJ2_putChar_b72d1_3 : decode cJ2_putChar_b72d1 3 = .ok (.ifCond .ne 25, 3) := by decide +kernel
theorem dJ2_putChar_b72d1_6 : decode cJ2_putChar_b72d1 6 = .ok (.iload_n 1, 1) := by decide +kernel
theorem dJ2_putChar_b72d1_7 : decode cJ2_putChar_b72d1 7 = .ok (.ifCond .lt 11, 3) := by decide +kernel
theorem dJ2_putChar_b72d1_10 : decode cJ2_putChar_b72d1 10 = .ok (.iload_n 1, 1) := by decide +kernel
theorem dJ2_putChar_b72d1_11 : decode cJ2_putChar_b72d1 11 = .ok (.aload_n 0, 1) := by decide +kernel
theorem dJ2_putChar_b72d1_12 : decode cJ2_putChar_b72d1 12 = .ok (.invokestatic 48, 3) := by decide +kernel
theorem dJ2_putChar_b72d1_15 : decode cJ2_putChar_b72d1 15 = .ok (.if_icmp .lt 13, 3) := by decide +kernel
theorem dJ2_putChar_b72d1_18 : decode cJ2_putChar_b72d1 18 = .ok (.new 52, 3) := by decide +kernel
theorem dJ2_putChar_b72d1_21 : decode cJ2_putChar_b72d1 21 = .ok (.dup, 1) := by decide +kernel
theorem dJ2_putChar_b72d1_22 : decode cJ2_putChar_b72d1 22 = .ok (.ldc 54, 2) := by decide +kernel
theorem dJ2_putChar_b72d1_24 : decode cJ2_putChar_b72d1 24 = .ok (.invokespecial 56, 3) := by decide +kernel
theorem dJ2_putChar_b72d1_27 : decode cJ2_putChar_b72d1 27 = .ok (.athrow, 1) := by decide +kernel
theorem dJ2_putChar_b72d1_28 : decode cJ2_putChar_b72d1 28 = .ok (.iload_n 1, 1) := by decide +kernel
theorem dJ2_putChar_b72d1_29 : decode cJ2_putChar_b72d1 29 = .ok (.iconst 1, 1) := by decide +kernel
theorem dJ2_putChar_b72d1_30 : decode cJ2_putChar_b72d1 30 = .ok (.ishl, 1) := by decide +kernel
theorem dJ2_putChar_b72d1_31 : decode cJ2_putChar_b72d1 31 = .ok (.istore_n 1, 1) := by decide +kernel
theorem dJ2_putChar_b72d1_32 : decode cJ2_putChar_b72d1 32 = .ok (.aload_n 0, 1) := by decide +kernel
theorem dJ2_putChar_b72d1_33 : decode cJ2_putChar_b72d1 33 = .ok (.iload_n 1, 1) := by decide +kernel
theorem dJ2_putChar_b72d1_34 : decode cJ2_putChar_b72d1 34 = .ok (.iinc 1 1, 3) := by decide +kernel
theorem dJ2_putChar_b72d1_37 : decode cJ2_putChar_b72d1 37 = .ok (.iload_n 2, 1) := by decide +kernel
theorem dJ2_putChar_b72d1_38 : decode cJ2_putChar_b72d1 38 = .ok (.getstatic 59, 3) := by decide +kernel
theorem dJ2_putChar_b72d1_41 : decode cJ2_putChar_b72d1 41 = .ok (.ishr, 1) := by decide +kernel
theorem dJ2_putChar_b72d1_42 : decode cJ2_putChar_b72d1 42 = .ok (.i2b, 1) := by decide +kernel
theorem dJ2_putChar_b72d1_43 : decode cJ2_putChar_b72d1 43 = .ok (.bastore, 1) := by decide +kernel
theorem dJ2_putChar_b72d1_44 : decode cJ2_putChar_b72d1 44 = .ok (.aload_n 0, 1) := by decide +kernel
theorem dJ2_putChar_b72d1_45 : decode cJ2_putChar_b72d1 45 = .ok (.iload_n 1, 1) := by decide +kernel
theorem dJ2_putChar_b72d1_46 : decode cJ2_putChar_b72d1 46 = .ok (.iload_n 2, 1) := by decide +kernel
theorem dJ2_putChar_b72d1_47 : decode cJ2_putChar_b72d1 47 = .ok (.getstatic 63, 3) := by decide +kernel
theorem dJ2_putChar_b72d1_50 : decode cJ2_putChar_b72d1 50 = .ok (.ishr, 1) := by decide +kernel
theorem dJ2_putChar_b72d1_51 : decode cJ2_putChar_b72d1 51 = .ok (.i2b, 1) := by decide +kernel
theorem dJ2_putChar_b72d1_52 : decode cJ2_putChar_b72d1 52 = .ok (.bastore, 1) := by decide +kernel
theorem dJ2_putChar_b72d1_53 : decode cJ2_putChar_b72d1 53 = .ok (.return_, 1) := by decide +kernel
theorem dJ2_getChar_3b067_0 : decode cJ2_getChar_3b067 0 = .ok (.getstatic 44, 3) := by decide +kernel
theorem dJ2_getChar_3b067_3 : decode cJ2_getChar_3b067 3 = .ok (.ifCond .ne 25, 3) := by decide +kernel
theorem dJ2_getChar_3b067_6 : decode cJ2_getChar_3b067 6 = .ok (.iload_n 1, 1) := by decide +kernel
theorem dJ2_getChar_3b067_7 : decode cJ2_getChar_3b067 7 = .ok (.ifCond .lt 11, 3) := by decide +kernel
theorem dJ2_getChar_3b067_10 : decode cJ2_getChar_3b067 10 = .ok (.iload_n 1, 1) := by decide +kernel
theorem dJ2_getChar_3b067_11 : decode cJ2_getChar_3b067 11 = .ok (.aload_n 0, 1) := by decide +kernel
theorem dJ2_getChar_3b067_12 : decode cJ2_getChar_3b067 12 = .ok (.invokestatic 48, 3) := by decide +kernel
theorem dJ2_getChar_3b067_15 : decode cJ2_getChar_3b067 15 = .ok (.if_icmp .lt 13, 3) := by decide +kernel
theorem dJ2_getChar_3b067_18 : decode cJ2_getChar_3b067 18 = .ok (.new 52, 3) := by decide +kernel
theorem dJ2_getChar_3b067_21 : decode cJ2_getChar_3b067 21 = .ok (.dup, 1) := by decide +kernel
theorem dJ2_getChar_3b067_22 : decode cJ2_getChar_3b067 22 = .ok (.ldc 54, 2) := by decide +kernel
theorem dJ2_getChar_3b067_24 : decode cJ2_getChar_3b067 24 = .ok (.invokespecial 56, 3) := by decide +kernel
theorem dJ2_getChar_3b067_27 : decode cJ2_getChar_3b067 27 = .ok (.athrow, 1) := by decide +kernel
theorem dJ2_getChar_3b067_28 : decode cJ2_getChar_3b067 28 = .ok (.iload_n 1, 1) := by decide +kernel
theorem dJ2_getChar_3b067_29 : decode cJ2_getChar_3b067 29 = .ok (.iconst 1, 1) := by decide +kernel
theorem dJ2_getChar_3b067_30 : decode cJ2_getChar_3b067 30 = .ok (.ishl, 1) := by decide +kernel
theorem dJ2_getChar_3b067_31 : decode cJ2_getChar_3b067 31 = .ok (.istore_n 1, 1) := by decide +kernel
theorem dJ2_getChar_3b067_32 : decode cJ2_getChar_3b067 32 = .ok (.aload_n 0, 1) := by decide +kernel
theorem dJ2_getChar_3b067_33 : decode cJ2_getChar_3b067 33 = .ok (.iload_n 1, 1) := by decide +kernel
theorem dJ2_getChar_3b067_34 : decode cJ2_getChar_3b067 34 = .ok (.iinc 1 1, 3) := by decide +kernel
theorem dJ2_getChar_3b067_37 : decode cJ2_getChar_3b067 37 = .ok (.baload, 1) := by decide +kernel
theorem dJ2_getChar_3b067_38 : decode cJ2_getChar_3b067 38 = .ok (.sipush 255, 3) := by decide +kernel
theorem dJ2_getChar_3b067_41 : decode cJ2_getChar_3b067 41 = .ok (.iand, 1) := by decide +kernel
theorem dJ2_getChar_3b067_42 : decode cJ2_getChar_3b067 42 = .ok (.getstatic 59, 3) := by decide +kernel
theorem dJ2_getChar_3b067_45 : decode cJ2_getChar_3b067 45 = .ok (.ishl, 1) := by decide +kernel
theorem dJ2_getChar_3b067_46 : decode cJ2_getChar_3b067 46 = .ok (.aload_n 0, 1) := by decide +kernel
theorem dJ2_getChar_3b067_47 : decode cJ2_getChar_3b067 47 = .ok (.iload_n 1, 1) := by decide +kernel
theorem dJ2_getChar_3b067_48 : decode cJ2_getChar_3b067 48 = .ok (.baload, 1) := by decide +kernel
theorem dJ2_getChar_3b067_49 : decode cJ2_getChar_3b067 49 = .ok (.sipush 255, 3) := by decide +kernel
theorem dJ2_getChar_3b067_52 : decode cJ2_getChar_3b067 52 = .ok (.iand, 1) := by decide +kernel
theorem dJ2_getChar_3b067_53 : decode cJ2_getChar_3b067 53 = .ok (.getstatic 63, 3) := by decide +kernel
theorem dJ2_getChar_3b067_56 : decode cJ2_getChar_3b067 56 = .ok (.ishl, 1) := by decide +kernel
theorem dJ2_getChar_3b067_57 : decode cJ2_getChar_3b067 57 = .ok (.ior, 1) := by decide +kernel
theorem dJ2_getChar_3b067_58 : decode cJ2_getChar_3b067 58 = .ok (.i2c, 1) := by decide +kernel
theorem dJ2_getChar_3b067_59 : decode cJ2_getChar_3b067 59 = .ok (.ireturn, 1) := by decide +kernel
theorem dJ2_length_9d52b_0 : decode cJ2_length_9d52b 0 = .ok (.aload_n 0, 1) := by decide +kernel
theorem dJ2_length_9d52b_1 : decode cJ2_length_9d52b 1 = .ok (.arraylength, 1) := by decide +kernel
theorem dJ2_length_9d52b_2 : decode cJ2_length_9d52b 2 = .ok (.iconst 1, 1) := by decide +kernel
theorem dJ2_length_9d52b_3 : decode cJ2_length_9d52b 3 = .ok (.ishr, 1) := by decide +kernel
theorem dJ2_length_9d52b_4 : decode cJ2_length_9d52b 4 = .ok (.ireturn, 1) := by decide +kernel
theorem dJ2_coderFromArrayLen_85cad_0 : decode cJ2_coderFromArrayLen_85cad 0 = .ok (.iload_n 1, 1) := by decide +kernel
theorem dJ2_coderFromArrayLen_85cad_1 : decode cJ2_coderFromArrayLen_85cad 1 = .ok (.aload_n 0, 1) := by decide +kernel
theorem dJ2_coderFromArrayLen_85cad_2 : decode cJ2_coderFromArrayLen_85cad 2 = .ok (.arraylength, 1) := by decide +kernel
theorem dJ2_coderFromArrayLen_85cad_3 : decode cJ2_coderFromArrayLen_85cad 3 = .ok (.isub, 1) := by decide +kernel
theorem dJ2_coderFromArrayLen_85cad_4 : decode cJ2_coderFromArrayLen_85cad 4 = .ok (.bipush 31, 2) := by decide +kernel
theorem dJ2_coderFromArrayLen_85cad_6 : decode cJ2_coderFromArrayLen_85cad 6 = .ok (.iushr, 1) := by decide +kernel
theorem dJ2_coderFromArrayLen_85cad_7 : decode cJ2_coderFromArrayLen_85cad 7 = .ok (.i2b, 1) := by decide +kernel
theorem dJ2_coderFromArrayLen_85cad_8 : decode cJ2_coderFromArrayLen_85cad 8 = .ok (.ireturn, 1) := by decide +kernel
theorem dJ2_compress_39247_0 : decode cJ2_compress_39247 0 = .ok (.iload_n 2, 1) := by decide +kernel
theorem dJ2_compress_39247_1 : decode cJ2_compress_39247 1 = .ok (.newarray .byte, 2) := by decide +kernel
theorem dJ2_compress_39247_3 : decode cJ2_compress_39247 3 = .ok (.astore_n 3, 1) := by decide +kernel
theorem dJ2_compress_39247_4 : decode cJ2_compress_39247 4 = .ok (.aload_n 0, 1) := by decide +kernel
theorem dJ2_compress_39247_5 : decode cJ2_compress_39247 5 = .ok (.iload_n 1, 1) := by decide +kernel
theorem dJ2_compress_39247_6 : decode cJ2_compress_39247 6 = .ok (.aload_n 3, 1) := by decide +kernel
theorem dJ2_compress_39247_7 : decode cJ2_compress_39247 7 = .ok (.iconst 0, 1) := by decide +kernel
theorem dJ2_compress_39247_8 : decode cJ2_compress_39247 8 = .ok (.iload_n 2, 1) := by decide +kernel
theorem dJ2_compress_39247_9 : decode cJ2_compress_39247 9 = .ok (.invokestatic 123, 3) := by decide +kernel
theorem dJ2_compress_39247_12 : decode cJ2_compress_39247 12 = .ok (.istore 4, 2) := by decide +kernel
theorem dJ2_compress_39247_14 : decode cJ2_compress_39247 14 = .ok (.iload 4, 2) := by decide +kernel
theorem dJ2_compress_39247_16 : decode cJ2_compress_39247 16 = .ok (.iload_n 2, 1) := by decide +kernel
theorem dJ2_compress_39247_17 : decode cJ2_compress_39247 17 = .ok (.if_icmp .eq 47, 3) := by decide +kernel
theorem dJ2_compress_39247_20 : decode cJ2_compress_39247 20 = .ok (.aload_n 0, 1) := by decide +kernel
theorem dJ2_compress_39247_21 : decode cJ2_compress_39247 21 = .ok (.iload_n 1, 1) := by decide +kernel
theorem dJ2_compress_39247_22 : decode cJ2_compress_39247 22 = .ok (.iconst 1, 1) := by decide +kernel
theorem dJ2_compress_39247_23 : decode cJ2_compress_39247 23 = .ok (.ishl, 1) := by decide +kernel
theorem dJ2_compress_39247_24 : decode cJ2_compress_39247 24 = .ok (.iload_n 1, 1) := by decide +kernel
theorem dJ2_compress_39247_25 : decode cJ2_compress_39247 25 = .ok (.iload_n 2, 1) := by decide +kernel
theorem dJ2_compress_39247_26 : decode cJ2_compress_39247 26 = .ok (.iadd, 1) := by decide +kernel
theorem dJ2_compress_39247_27 : decode cJ2_compress_39247 27 = .ok (.invokestatic 11, 3) := by decide +kernel
theorem dJ2_compress_39247_30 : decode cJ2_compress_39247 30 = .ok (.invokestatic 126, 3) := by decide +kernel
theorem dJ2_compress_39247_33 : decode cJ2_compress_39247 33 = .ok (.astore 5, 2) := by decide +kernel
theorem dJ2_compress_39247_35 : decode cJ2_compress_39247 35 = .ok (.aload 5, 2) := by decide +kernel
theorem dJ2_compress_39247_37 : decode cJ2_compress_39247 37 = .ok (.iload 4, 2) := by decide +kernel
theorem dJ2_compress_39247_39 : decode cJ2_compress_39247 39 = .ok (.invokestatic 71, 3) := by decide +kernel
theorem dJ2_compress_39247_42 : decode cJ2_compress_39247 42 = .ok (.sipush 255, 3) := by decide +kernel
theorem dJ2_compress_39247_45 : decode cJ2_compress_39247 45 = .ok (.if_icmp .gt 16, 3) := by decide +kernel
theorem dJ2_compress_39247_48 : decode cJ2_compress_39247 48 = .ok (.aload 5, 2) := by decide +kernel
theorem dJ2_compress_39247_50 : decode cJ2_compress_39247 50 = .ok (.iconst 0, 1) := by decide +kernel
theorem dJ2_compress_39247_51 : decode cJ2_compress_39247 51 = .ok (.aload_n 3, 1) := by decide +kernel
theorem dJ2_compress_39247_52 : decode cJ2_compress_39247 52 = .ok (.iconst 0, 1) := by decide +kernel
theorem dJ2_compress_39247_53 : decode cJ2_compress_39247 53 = .ok (.iload_n 2, 1) := by decide +kernel
theorem dJ2_compress_39247_54 : decode cJ2_compress_39247 54 = .ok (.invokestatic 123, 3) := by decide +kernel
theorem dJ2_compress_39247_57 : decode cJ2_compress_39247 57 = .ok (.iload_n 2, 1) := by decide +kernel
theorem dJ2_compress_39247_58 : decode cJ2_compress_39247 58 = .ok (.if_icmp .eq 6, 3) := by decide +kernel
theorem dJ2_compress_39247_61 : decode cJ2_compress_39247 61 = .ok (.aload 5, 2) := by decide +kernel
theorem dJ2_compress_39247_63 : decode cJ2_compress_39247 63 = .ok (.areturn, 1) := by decide +kernel
theorem dJ2_compress_39247_64 : decode cJ2_compress_39247 64 = .ok (.aload_n 3, 1) := by decide +kernel
theorem dJ2_compress_39247_65 : decode cJ2_compress_39247 65 = .ok (.areturn, 1) := by decide +kernel
theorem dJ2_compress_5af95_0 : decode cJ2_compress_5af95 0 = .ok (.iload_n 1, 1) := by decide +kernel
theorem dJ2_compress_5af95_1 : decode cJ2_compress_5af95 1 = .ok (.iload 4, 2) := by decide +kernel
theorem dJ2_compress_5af95_3 : decode cJ2_compress_5af95 3 = .ok (.aload_n 0, 1) := by decide +kernel
theorem dJ2_compress_5af95_4 : decode cJ2_compress_5af95 4 = .ok (.invokestatic 173, 3) := by decide +kernel
theorem dJ2_compress_5af95_7 : decode cJ2_compress_5af95 7 = .ok (.iconst 0, 1) := by decide +kernel
theorem dJ2_compress_5af95_8 : decode cJ2_compress_5af95 8 = .ok (.istore 5, 2) := by decide +kernel
theorem dJ2_compress_5af95_10 : decode cJ2_compress_5af95 10 = .ok (.iload 5, 2) := by decide +kernel
theorem dJ2_compress_5af95_12 : decode cJ2_compress_5af95 12 = .ok (.iload 4, 2) := by decide +kernel
theorem dJ2_compress_5af95_14 : decode cJ2_compress_5af95 14 = .ok (.if_icmp .ge 39, 3) := by decide +kernel
theorem dJ2_compress_5af95_17 : decode cJ2_compress_5af95 17 = .ok (.aload_n 0, 1) := by decide +kernel
theorem dJ2_compress_5af95_18 : decode cJ2_compress_5af95 18 = .ok (.iload_n 1, 1) := by decide +kernel
theorem dJ2_compress_5af95_19 : decode cJ2_compress_5af95 19 = .ok (.invokestatic 71, 3) := by decide +kernel
theorem dJ2_compress_5af95_22 : decode cJ2_compress_5af95 22 = .ok (.istore 6, 2) := by decide +kernel
theorem dJ2_compress_5af95_24 : decode cJ2_compress_5af95 24 = .ok (.iload 6, 2) := by decide +kernel
theorem dJ2_compress_5af95_26 : decode cJ2_compress_5af95 26 = .ok (.sipush 255, 3) := by decide +kernel
theorem dJ2_compress_5af95_29 : decode cJ2_compress_5af95 29 = .ok (.if_icmp .le 6, 3) := by decide +kernel
theorem dJ2_compress_5af95_32 : decode cJ2_compress_5af95 32 = .ok (.iload 5, 2) := by decide +kernel
theorem dJ2_compress_5af95_34 : decode cJ2_compress_5af95 34 = .ok (.ireturn, 1) := by decide +kernel
theorem dJ2_compress_5af95_35 : decode cJ2_compress_5af95 35 = .ok (.aload_n 2, 1) := by decide +kernel
theorem dJ2_compress_5af95_36 : decode cJ2_compress_5af95 36 = .ok (.iload_n 3, 1) := by decide +kernel
theorem dJ2_compress_5af95_37 : decode cJ2_compress_5af95 37 = .ok (.iload 6, 2) := by decide +kernel
theorem dJ2_compress_5af95_39 : decode cJ2_compress_5af95 39 = .ok (.i2b, 1) := by decide +kernel
theorem dJ2_compress_5af95_40 : decode cJ2_compress_5af95 40 = .ok (.bastore, 1) := by decide +kernel
theorem dJ2_compress_5af95_41 : decode cJ2_compress_5af95 41 = .ok (.iinc 1 1, 3) := by decide +kernel
theorem dJ2_compress_5af95_44 : decode cJ2_compress_5af95 44 = .ok (.iinc 3 1, 3) := by decide +kernel
theorem dJ2_compress_5af95_47 : decode cJ2_compress_5af95 47 = .ok (.iinc 5 1, 3) := by decide +kernel
theorem dJ2_compress_5af95_50 : decode cJ2_compress_5af95 50 = .ok (.goto (-40), 3) := by decide +kernel
theorem dJ2_compress_5af95_53 : decode cJ2_compress_5af95 53 = .ok (.iload 4, 2) := by decide +kernel
theorem dJ2_compress_5af95_55 : decode cJ2_compress_5af95 55 = .ok (.ireturn, 1) := by decide +kernel
theorem dJ2_fillNull_b72d1_0 : decode cJ2_fillNull_b72d1 0 = .ok (.aload_n 0, 1) := by decide +kernel
theorem dJ2_fillNull_b72d1_1 : decode cJ2_fillNull_b72d1 1 = .ok (.iload_n 1, 1) := by decide +kernel
theorem dJ2_fillNull_b72d1_2 : decode cJ2_fillNull_b72d1 2 = .ok (.iconst 1, 1) := by decide +kernel
theorem dJ2_fillNull_b72d1_3 : decode cJ2_fillNull_b72d1 3 = .ok (.ishl, 1) := by decide +kernel
theorem dJ2_fillNull_b72d1_4 : decode cJ2_fillNull_b72d1 4 = .ok (.iload_n 2, 1) := by decide +kernel
theorem dJ2_fillNull_b72d1_5 : decode cJ2_fillNull_b72d1 5 = .ok (.iconst 1, 1) := by decide +kernel
theorem dJ2_fillNull_b72d1_6 : decode cJ2_fillNull_b72d1 6 = .ok (.ishl, 1) := by decide +kernel
theorem dJ2_fillNull_b72d1_7 : decode cJ2_fillNull_b72d1 7 = .ok (.iconst 0, 1) := by decide +kernel
theorem dJ2_fillNull_b72d1_8 : decode cJ2_fillNull_b72d1 8 = .ok (.invokestatic 380, 3) := by decide +kernel
theorem dJ2_fillNull_b72d1_11 : decode cJ2_fillNull_b72d1 11 = .ok (.return_, 1) := by decide +kernel
theorem dJ2_putCharSB_b72d1_0 : decode cJ2_putCharSB_b72d1 0 = .ok (.iload_n 1, 1) := by decide +kernel
theorem dJ2_putCharSB_b72d1_1 : decode cJ2_putCharSB_b72d1 1 = .ok (.aload_n 0, 1) := by decide +kernel
theorem dJ2_putCharSB_b72d1_2 : decode cJ2_putCharSB_b72d1 2 = .ok (.invokestatic 67, 3) := by decide +kernel
theorem dJ2_putCharSB_b72d1_5 : decode cJ2_putCharSB_b72d1 5 = .ok (.aload_n 0, 1) := by decide +kernel
theorem dJ2_putCharSB_b72d1_6 : decode cJ2_putCharSB_b72d1 6 = .ok (.iload_n 1, 1) := by decide +kernel
theorem dJ2_putCharSB_b72d1_7 : decode cJ2_putCharSB_b72d1 7 = .ok (.iload_n 2, 1) := by decide +kernel
theorem dJ2_putCharSB_b72d1_8 : decode cJ2_putCharSB_b72d1 8 = .ok (.invokestatic 111, 3) := by decide +kernel
theorem dJ2_putCharSB_b72d1_11 : decode cJ2_putCharSB_b72d1 11 = .ok (.return_, 1) := by decide +kernel
theorem dJ2_getChars_46870_0 : decode cJ2_getChars_46870 0 = .ok (.iload_n 1, 1) := by decide +kernel
theorem dJ2_getChars_46870_1 : decode cJ2_getChars_46870 1 = .ok (.iload_n 2, 1) := by decide +kernel
theorem dJ2_getChars_46870_2 : decode cJ2_getChars_46870 2 = .ok (.aload_n 3, 1) := by decide +kernel
theorem dJ2_getChars_46870_3 : decode cJ2_getChars_46870 3 = .ok (.invokestatic 96, 3) := by decide +kernel
theorem dJ2_getChars_46870_6 : decode cJ2_getChars_46870 6 = .ok (.iload_n 0, 1) := by decide +kernel
theorem dJ2_getChars_46870_7 : decode cJ2_getChars_46870 7 = .ok (.iload_n 2, 1) := by decide +kernel
theorem dJ2_getChars_46870_8 : decode cJ2_getChars_46870 8 = .ok (.aload_n 3, 1) := by decide +kernel
theorem dJ2_getChars_46870_9 : decode cJ2_getChars_46870 9 = .ok (.invokestatic 393, 3) := by decide +kernel
theorem dJ2_getChars_46870_12 : decode cJ2_getChars_46870 12 = .ok (.istore 4, 2) := by decide +kernel
theorem dJ2_getChars_46870_14 : decode cJ2_getChars_46870 14 = .ok (.getstatic 44, 3) := by decide +kernel
theorem dJ2_getChars_46870_17 : decode cJ2_getChars_46870 17 = .ok (.ifCond .ne 17, 3) := by decide +kernel
theorem dJ2_getChars_46870_20 : decode cJ2_getChars_46870 20 = .ok (.iload_n 1, 1) := by decide +kernel
theorem dJ2_getChars_46870_21 : decode cJ2_getChars_46870 21 = .ok (.iload 4, 2) := by decide +kernel
theorem dJ2_getChars_46870_23 : decode cJ2_getChars_46870 23 = .ok (.if_icmp .eq 11, 3) := by decide +kernel
theorem dJ2_getChars_46870_26 : decode cJ2_getChars_46870 26 = .ok (.new 52, 3) := by decide +kernel
theorem dJ2_getChars_46870_29 : decode cJ2_getChars_46870 29 = .ok (.dup, 1) := by decide +kernel
theorem dJ2_getChars_46870_30 : decode cJ2_getChars_46870 30 = .ok (.invokespecial 66, 3) := by decide +kernel
theorem dJ2_getChars_46870_33 : decode cJ2_getChars_46870 33 = .ok (.athrow, 1) := by decide +kernel
theorem dJ2_getChars_46870_34 : decode cJ2_getChars_46870 34 = .ok (.iload 4, 2) := by decide +kernel
theorem dJ2_getChars_46870_36 : decode cJ2_getChars_46870 36 = .ok (.ireturn, 1) := by decide +kernel
theorem dJ2_putCharsAt_cd4e5_0 : decode cJ2_putCharsAt_cd4e5 0 = .ok (.iload_n 1, 1) := by decide +kernel
theorem dJ2_putCharsAt_cd4e5_1 : decode cJ2_putCharsAt_cd4e5 1 = .ok (.iconst 4, 1) := by decide +kernel
theorem dJ2_putCharsAt_cd4e5_2 : decode cJ2_putCharsAt_cd4e5 2 = .ok (.iadd, 1) := by decide +kernel
theorem dJ2_putCharsAt_cd4e5_3 : decode cJ2_putCharsAt_cd4e5 3 = .ok (.istore 6, 2) := by decide +kernel
theorem dJ2_putCharsAt_cd4e5_5 : decode cJ2_putCharsAt_cd4e5 5 = .ok (.iload_n 1, 1) := by decide +kernel
theorem dJ2_putCharsAt_cd4e5_6 : decode cJ2_putCharsAt_cd4e5 6 = .ok (.iload 6, 2) := by decide +kernel
theorem dJ2_putCharsAt_cd4e5_8 : decode cJ2_putCharsAt_cd4e5 8 = .ok (.aload_n 0, 1) := by decide +kernel
theorem dJ2_putCharsAt_cd4e5_9 : decode cJ2_putCharsAt_cd4e5 9 = .ok (.invokestatic 96, 3) := by decide +kernel
theorem dJ2_putCharsAt_cd4e5_12 : decode cJ2_putCharsAt_cd4e5 12 = .ok (.aload_n 0, 1) := by decide +kernel
theorem dJ2_putCharsAt_cd4e5_13 : decode cJ2_putCharsAt_cd4e5 13 = .ok (.iload_n 1, 1) := by decide +kernel
theorem dJ2_putCharsAt_cd4e5_14 : decode cJ2_putCharsAt_cd4e5 14 = .ok (.iinc 1 1, 3) := by decide +kernel
theorem dJ2_putCharsAt_cd4e5_17 : decode cJ2_putCharsAt_cd4e5 17 = .ok (.iload_n 2, 1) := by decide +kernel
theorem dJ2_putCharsAt_cd4e5_18 : decode cJ2_putCharsAt_cd4e5 18 = .ok (.invokestatic 111, 3) := by decide +kernel
theorem dJ2_putCharsAt_cd4e5_21 : decode cJ2_putCharsAt_cd4e5 21 = .ok (.aload_n 0, 1) := by decide +kernel
theorem dJ2_putCharsAt_cd4e5_22 : decode cJ2_putCharsAt_cd4e5 22 = .ok (.iload_n 1, 1) := by decide +kernel
theorem dJ2_putCharsAt_cd4e5_23 : decode cJ2_putCharsAt_cd4e5 23 = .ok (.iinc 1 1, 3) := by decide +kernel
theorem dJ2_putCharsAt_cd4e5_26 : decode cJ2_putCharsAt_cd4e5 26 = .ok (.iload_n 3, 1) := by decide +kernel
theorem dJ2_putCharsAt_cd4e5_27 : decode cJ2_putCharsAt_cd4e5 27 = .ok (.invokestatic 111, 3) := by decide +kernel
theorem dJ2_putCharsAt_cd4e5_30 : decode cJ2_putCharsAt_cd4e5 30 = .ok (.aload_n 0, 1) := by decide +kernel
theorem dJ2_putCharsAt_cd4e5_31 : decode cJ2_putCharsAt_cd4e5 31 = .ok (.iload_n 1, 1) := by decide +kernel
theorem dJ2_putCharsAt_cd4e5_32 : decode cJ2_putCharsAt_cd4e5 32 = .ok (.iinc 1 1, 3) := by decide +kernel
theorem dJ2_putCharsAt_cd4e5_35 : decode cJ2_putCharsAt_cd4e5 35 = .ok (.iload 4, 2) := by decide +kernel
theorem dJ2_putCharsAt_cd4e5_37 : decode cJ2_putCharsAt_cd4e5 37 = .ok (.invokestatic 111, 3) := by decide +kernel
theorem dJ2_putCharsAt_cd4e5_40 : decode cJ2_putCharsAt_cd4e5 40 = .ok (.aload_n 0, 1) := by decide +kernel
theorem dJ2_putCharsAt_cd4e5_41 : decode cJ2_putCharsAt_cd4e5 41 = .ok (.iload_n 1, 1) := by decide +kernel
theorem dJ2_putCharsAt_cd4e5_42 : decode cJ2_putCharsAt_cd4e5 42 = .ok (.iinc 1 1, 3) := by decide +kernel
theorem dJ2_putCharsAt_cd4e5_45 : decode cJ2_putCharsAt_cd4e5 45 = .ok (.iload 5, 2) := by decide +kernel
theorem dJ2_putCharsAt_cd4e5_47 : decode cJ2_putCharsAt_cd4e5 47 = .ok (.invokestatic 111, 3) := by decide +kernel
theorem dJ2_putCharsAt_cd4e5_50 : decode cJ2_putCharsAt_cd4e5 50 = .ok (.getstatic 44, 3) := by decide +kernel
theorem dJ2_putCharsAt_cd4e5_53 : decode cJ2_putCharsAt_cd4e5 53 = .ok (.ifCond .ne 17, 3) := by decide +kernel
theorem dJ2_putCharsAt_cd4e5_56 : decode cJ2_putCharsAt_cd4e5 56 = .ok (.iload_n 1, 1) := by decide +kernel
theorem dJ2_putCharsAt_cd4e5_57 : decode cJ2_putCharsAt_cd4e5 57 = .ok (.iload 6, 2) := by decide +kernel
theorem dJ2_putCharsAt_cd4e5_59 : decode cJ2_putCharsAt_cd4e5 59 = .ok (.if_icmp .eq 11, 3) := by decide +kernel
theorem dJ2_putCharsAt_cd4e5_62 : decode cJ2_putCharsAt_cd4e5 62 = .ok (.new 52, 3) := by decide +kernel
theorem dJ2_putCharsAt_cd4e5_65 : decode cJ2_putCharsAt_cd4e5 65 = .ok (.dup, 1) := by decide +kernel
theorem dJ2_putCharsAt_cd4e5_66 : decode cJ2_putCharsAt_cd4e5 66 = .ok (.invokespecial 66, 3) := by decide +kernel
theorem dJ2_putCharsAt_cd4e5_69 : decode cJ2_putCharsAt_cd4e5 69 = .ok (.athrow, 1) := by decide +kernel
theorem dJ2_putCharsAt_cd4e5_70 : decode cJ2_putCharsAt_cd4e5 70 = .ok (.iload 6, 2) := by decide +kernel
theorem dJ2_putCharsAt_cd4e5_72 : decode cJ2_putCharsAt_cd4e5 72 = .ok (.ireturn, 1) := by decide +kernel
theorem dJ2_charAt_3b067_0 : decode cJ2_charAt_3b067 0 = .ok (.iload_n 1, 1) := by decide +kernel
theorem dJ2_charAt_3b067_1 : decode cJ2_charAt_3b067 1 = .ok (.aload_n 0, 1) := by decide +kernel
theorem dJ2_charAt_3b067_2 : decode cJ2_charAt_3b067 2 = .ok (.invokestatic 67, 3) := by decide +kernel
theorem dJ2_charAt_3b067_5 : decode cJ2_charAt_3b067 5 = .ok (.aload_n 0, 1) := by decide +kernel
theorem dJ2_charAt_3b067_6 : decode cJ2_charAt_3b067 6 = .ok (.iload_n 1, 1) := by decide +kernel
theorem dJ2_charAt_3b067_7 : decode cJ2_charAt_3b067 7 = .ok (.invokestatic 71, 3) := by decide +kernel
theorem dJ2_charAt_3b067_10 : decode cJ2_charAt_3b067 10 = .ok (.ireturn, 1) := by decide +kernel
theorem dJ2_inflate_0e8fd_0 : decode cJ2_inflate_0e8fd 0 = .ok (.iload_n 3, 1) := by decide +kernel
theorem dJ2_inflate_0e8fd_1 : decode cJ2_inflate_0e8fd 1 = .ok (.iload 4, 2) := by decide +kernel
theorem dJ2_inflate_0e8fd_3 : decode cJ2_inflate_0e8fd 3 = .ok (.aload_n 2, 1) := by decide +kernel
theorem dJ2_inflate_0e8fd_4 : decode cJ2_inflate_0e8fd 4 = .ok (.invokestatic 173, 3) := by decide +kernel
theorem dJ2_inflate_0e8fd_7 : decode cJ2_inflate_0e8fd 7 = .ok (.iconst 0, 1) := by decide +kernel
theorem dJ2_inflate_0e8fd_8 : decode cJ2_inflate_0e8fd 8 = .ok (.istore 5, 2) := by decide +kernel
theorem dJ2_inflate_0e8fd_10 : decode cJ2_inflate_0e8fd 10 = .ok (.iload 5, 2) := by decide +kernel
theorem dJ2_inflate_0e8fd_12 : decode cJ2_inflate_0e8fd 12 = .ok (.iload 4, 2) := by decide +kernel
theorem dJ2_inflate_0e8fd_14 : decode cJ2_inflate_0e8fd 14 = .ok (.if_icmp .ge 27, 3) := by decide +kernel
theorem dJ2_inflate_0e8fd_17 : decode cJ2_inflate_0e8fd 17 = .ok (.aload_n 2, 1) := by decide +kernel
theorem dJ2_inflate_0e8fd_18 : decode cJ2_inflate_0e8fd 18 = .ok (.iload_n 3, 1) := by decide +kernel
theorem dJ2_inflate_0e8fd_19 : decode cJ2_inflate_0e8fd 19 = .ok (.iinc 3 1, 3) := by decide +kernel
theorem dJ2_inflate_0e8fd_22 : decode cJ2_inflate_0e8fd 22 = .ok (.aload_n 0, 1) := by decide +kernel
theorem dJ2_inflate_0e8fd_23 : decode cJ2_inflate_0e8fd 23 = .ok (.iload_n 1, 1) := by decide +kernel
theorem dJ2_inflate_0e8fd_24 : decode cJ2_inflate_0e8fd 24 = .ok (.iinc 1 1, 3) := by decide +kernel
theorem dJ2_inflate_0e8fd_27 : decode cJ2_inflate_0e8fd 27 = .ok (.baload, 1) := by decide +kernel
theorem dJ2_inflate_0e8fd_28 : decode cJ2_inflate_0e8fd 28 = .ok (.sipush 255, 3) := by decide +kernel
theorem dJ2_inflate_0e8fd_31 : decode cJ2_inflate_0e8fd 31 = .ok (.iand, 1) := by decide +kernel
theorem dJ2_inflate_0e8fd_32 : decode cJ2_inflate_0e8fd 32 = .ok (.invokestatic 111, 3) := by decide +kernel
theorem dJ2_inflate_0e8fd_35 : decode cJ2_inflate_0e8fd 35 = .ok (.iinc 5 1, 3) := by decide +kernel
theorem dJ2_inflate_0e8fd_38 : decode cJ2_inflate_0e8fd 38 = .ok (.goto (-28), 3) := by decide +kernel
theorem dJ2_inflate_0e8fd_41 : decode cJ2_inflate_0e8fd 41 = .ok (.return_, 1) := by decide +kernel
theorem dJ2_getChars_ba4f3_0 : decode cJ2_getChars_ba4f3 0 = .ok (.iload_n 1, 1) := by decide +kernel
theorem dJ2_getChars_ba4f3_1 : decode cJ2_getChars_ba4f3 1 = .ok (.istore 5, 2) := by decide +kernel
theorem dJ2_getChars_ba4f3_3 : decode cJ2_getChars_ba4f3 3 = .ok (.iload_n 0, 1) := by decide +kernel
theorem dJ2_getChars_ba4f3_4 : decode cJ2_getChars_ba4f3 4 = .ok (.ifCond .ge 7, 3) := by decide +kernel
theorem dJ2_getChars_ba4f3_7 : decode cJ2_getChars_ba4f3 7 = .ok (.iconst 1, 1) := by decide +kernel
theorem dJ2_getChars_ba4f3_8 : decode cJ2_getChars_ba4f3 8 = .ok (.goto 4, 3) := by decide +kernel
theorem dJ2_getChars_ba4f3_11 : decode cJ2_getChars_ba4f3 11 = .ok (.iconst 0, 1) := by decide +kernel
theorem dJ2_getChars_ba4f3_12 : decode cJ2_getChars_ba4f3 12 = .ok (.istore 6, 2) := by decide +kernel
theorem dJ2_getChars_ba4f3_14 : decode cJ2_getChars_ba4f3 14 = .ok (.iload 6, 2) := by decide +kernel
theorem dJ2_getChars_ba4f3_16 : decode cJ2_getChars_ba4f3 16 = .ok (.ifCond .ne 6, 3) := by decide +kernel
theorem dJ2_getChars_ba4f3_19 : decode cJ2_getChars_ba4f3 19 = .ok (.iload_n 0, 1) := by decide +kernel
theorem dJ2_getChars_ba4f3_20 : decode cJ2_getChars_ba4f3 20 = .ok (.ineg, 1) := by decide +kernel
theorem dJ2_getChars_ba4f3_21 : decode cJ2_getChars_ba4f3 21 = .ok (.istore_n 0, 1) := by decide +kernel
theorem dJ2_getChars_ba4f3_22 : decode cJ2_getChars_ba4f3 22 = .ok (.iload_n 0, 1) := by decide +kernel
theorem dJ2_getChars_ba4f3_23 : decode cJ2_getChars_ba4f3 23 = .ok (.bipush (-100), 2) := by decide +kernel
theorem dJ2_getChars_ba4f3_25 : decode cJ2_getChars_ba4f3 25 = .ok (.if_icmp .gt 51, 3) := by decide +kernel
theorem dJ2_getChars_ba4f3_28 : decode cJ2_getChars_ba4f3 28 = .ok (.iload_n 0, 1) := by decide +kernel
theorem dJ2_getChars_ba4f3_29 : decode cJ2_getChars_ba4f3 29 = .ok (.bipush 100, 2) := by decide +kernel
theorem dJ2_getChars_ba4f3_31 : decode cJ2_getChars_ba4f3 31 = .ok (.idiv, 1) := by decide +kernel
theorem dJ2_getChars_ba4f3_32 : decode cJ2_getChars_ba4f3 32 = .ok (.istore_n 3, 1) := by decide +kernel
theorem dJ2_getChars_ba4f3_33 : decode cJ2_getChars_ba4f3 33 = .ok (.iload_n 3, 1) := by decide +kernel
theorem dJ2_getChars_ba4f3_34 : decode cJ2_getChars_ba4f3 34 = .ok (.bipush 100, 2) := by decide +kernel
theorem dJ2_getChars_ba4f3_36 : decode cJ2_getChars_ba4f3 36 = .ok (.imul, 1) := by decide +kernel
theorem dJ2_getChars_ba4f3_37 : decode cJ2_getChars_ba4f3 37 = .ok (.iload_n 0, 1) := by decide +kernel
theorem dJ2_getChars_ba4f3_38 : decode cJ2_getChars_ba4f3 38 = .ok (.isub, 1) := by decide +kernel
theorem dJ2_getChars_ba4f3_39 : decode cJ2_getChars_ba4f3 39 = .ok (.istore 4, 2) := by decide +kernel
theorem dJ2_getChars_ba4f3_41 : decode cJ2_getChars_ba4f3 41 = .ok (.iload_n 3, 1) := by decide +kernel
theorem dJ2_getChars_ba4f3_42 : decode cJ2_getChars_ba4f3 42 = .ok (.istore_n 0, 1) := by decide +kernel
theorem dJ2_getChars_ba4f3_43 : decode cJ2_getChars_ba4f3 43 = .ok (.aload_n 2, 1) := by decide +kernel
theorem dJ2_getChars_ba4f3_44 : decode cJ2_getChars_ba4f3 44 = .ok (.iinc 5 (-1), 3) := by decide +kernel
theorem dJ2_getChars_ba4f3_47 : decode cJ2_getChars_ba4f3 47 = .ok (.iload 5, 2) := by decide +kernel
theorem dJ2_getChars_ba4f3_49 : decode cJ2_getChars_ba4f3 49 = .ok (.getstatic 403, 3) := by decide +kernel
theorem dJ2_getChars_ba4f3_52 : decode cJ2_getChars_ba4f3 52 = .ok (.iload 4, 2) := by decide +kernel
theorem dJ2_getChars_ba4f3_54 : decode cJ2_getChars_ba4f3 54 = .ok (.baload, 1) := by decide +kernel
theorem dJ2_getChars_ba4f3_55 : decode cJ2_getChars_ba4f3 55 = .ok (.invokestatic 111, 3) := by decide +kernel
theorem dJ2_getChars_ba4f3_58 : decode cJ2_getChars_ba4f3 58 = .ok (.aload_n 2, 1) := by decide +kernel
theorem dJ2_getChars_ba4f3_59 : decode cJ2_getChars_ba4f3 59 = .ok (.iinc 5 (-1), 3) := by decide +kernel
theorem dJ2_getChars_ba4f3_62 : decode cJ2_getChars_ba4f3 62 = .ok (.iload 5, 2) := by decide +kernel
theorem dJ2_getChars_ba4f3_64 : decode cJ2_getChars_ba4f3 64 = .ok (.getstatic 407, 3) := by decide +kernel
theorem dJ2_getChars_ba4f3_67 : decode cJ2_getChars_ba4f3 67 = .ok (.iload 4, 2) := by decide +kernel
theorem dJ2_getChars_ba4f3_69 : decode cJ2_getChars_ba4f3 69 = .ok (.baload, 1) := by decide +kernel
theorem dJ2_getChars_ba4f3_70 : decode cJ2_getChars_ba4f3 70 = .ok (.invokestatic 111, 3) := by decide +kernel
theorem dJ2_getChars_ba4f3_73 : decode cJ2_getChars_ba4f3 73 = .ok (.goto (-51), 3) := by decide +kernel
theorem dJ2_getChars_ba4f3_76 : decode cJ2_getChars_ba4f3 76 = .ok (.aload_n 2, 1) := by decide +kernel
theorem dJ2_getChars_ba4f3_77 : decode cJ2_getChars_ba4f3 77 = .ok (.iinc 5 (-1), 3) := by decide +kernel
theorem dJ2_getChars_ba4f3_80 : decode cJ2_getChars_ba4f3 80 = .ok (.iload 5, 2) := by decide +kernel
theorem dJ2_getChars_ba4f3_82 : decode cJ2_getChars_ba4f3 82 = .ok (.getstatic 403, 3) := by decide +kernel
theorem dJ2_getChars_ba4f3_85 : decode cJ2_getChars_ba4f3 85 = .ok (.iload_n 0, 1) := by decide +kernel
theorem dJ2_getChars_ba4f3_86 : decode cJ2_getChars_ba4f3 86 = .ok (.ineg, 1) := by decide +kernel
theorem dJ2_getChars_ba4f3_87 : decode cJ2_getChars_ba4f3 87 = .ok (.baload, 1) := by decide +kernel
theorem dJ2_getChars_ba4f3_88 : decode cJ2_getChars_ba4f3 88 = .ok (.invokestatic 111, 3) := by decide +kernel
theorem dJ2_getChars_ba4f3_91 : decode cJ2_getChars_ba4f3 91 = .ok (.iload_n 0, 1) := by decide +kernel
theorem dJ2_getChars_ba4f3_92 : decode cJ2_getChars_ba4f3 92 = .ok (.bipush (-9), 2) := by decide +kernel
theorem dJ2_getChars_ba4f3_94 : decode cJ2_getChars_ba4f3 94 = .ok (.if_icmp .ge 18, 3) := by decide +kernel
theorem dJ2_getChars_ba4f3_97 : decode cJ2_getChars_ba4f3 97 = .ok (.aload_n 2, 1) := by decide +kernel
theorem dJ2_getChars_ba4f3_98 : decode cJ2_getChars_ba4f3 98 = .ok (.iinc 5 (-1), 3) := by decide +kernel
theorem dJ2_getChars_ba4f3_101 : decode cJ2_getChars_ba4f3 101 = .ok (.iload 5, 2) := by decide +kernel
theorem dJ2_getChars_ba4f3_103 : decode cJ2_getChars_ba4f3 103 = .ok (.getstatic 407, 3) := by decide +kernel
theorem dJ2_getChars_ba4f3_106 : decode cJ2_getChars_ba4f3 106 = .ok (.iload_n 0, 1) := by decide +kernel
theorem dJ2_getChars_ba4f3_107 : decode cJ2_getChars_ba4f3 107 = .ok (.ineg, 1) := by decide +kernel
theorem dJ2_getChars_ba4f3_108 : decode cJ2_getChars_ba4f3 108 = .ok (.baload, 1) := by decide +kernel
theorem dJ2_getChars_ba4f3_109 : decode cJ2_getChars_ba4f3 109 = .ok (.invokestatic 111, 3) := by decide +kernel
theorem dJ2_getChars_ba4f3_112 : decode cJ2_getChars_ba4f3 112 = .ok (.iload 6, 2) := by decide +kernel
theorem dJ2_getChars_ba4f3_114 : decode cJ2_getChars_ba4f3 114 = .ok (.ifCond .eq 14, 3) := by decide +kernel
theorem dJ2_getChars_ba4f3_117 : decode cJ2_getChars_ba4f3 117 = .ok (.aload_n 2, 1) := by decide +kernel
theorem dJ2_getChars_ba4f3_118 : decode cJ2_getChars_ba4f3 118 = .ok (.iinc 5 (-1), 3) := by decide +kernel
theorem dJ2_getChars_ba4f3_121 : decode cJ2_getChars_ba4f3 121 = .ok (.iload 5, 2) := by decide +kernel
theorem dJ2_getChars_ba4f3_123 : decode cJ2_getChars_ba4f3 123 = .ok (.bipush 45, 2) := by decide +kernel
theorem dJ2_getChars_ba4f3_125 : decode cJ2_getChars_ba4f3 125 = .ok (.invokestatic 111, 3) := by decide +kernel
theorem dJ2_getChars_ba4f3_128 : decode cJ2_getChars_ba4f3 128 = .ok (.iload 5, 2) := by decide +kernel
theorem dJ2_getChars_ba4f3_130 : decode cJ2_getChars_ba4f3 130 = .ok (.ireturn, 1) := by decide +kernel
theorem dJ2_checkIndex_2214a_0 : decode cJ2_checkIndex_2214a 0 = .ok (.iload_n 0, 1) := by decide +kernel
theorem dJ2_checkIndex_2214a_1 : decode cJ2_checkIndex_2214a 1 = .ok (.aload_n 1, 1) := by decide +kernel
theorem dJ2_checkIndex_2214a_2 : decode cJ2_checkIndex_2214a 2 = .ok (.invokestatic 48, 3) := by decide +kernel
theorem dJ2_checkIndex_2214a_5 : decode cJ2_checkIndex_2214a 5 = .ok (.invokestatic 414, 3) := by decide +kernel
theorem dJ2_checkIndex_2214a_8 : decode cJ2_checkIndex_2214a 8 = .ok (.return_, 1) := by decide +kernel
theorem dJ2_checkBoundsBeginEnd_d044e_0 : decode cJ2_checkBoundsBeginEnd_d044e 0 = .ok (.iload_n 0, 1) := by decide +kernel
theorem dJ2_checkBoundsBeginEnd_d044e_1 : decode cJ2_checkBoundsBeginEnd_d044e 1 = .ok (.iload_n 1, 1) := by decide +kernel
theorem dJ2_checkBoundsBeginEnd_d044e_2 : decode cJ2_checkBoundsBeginEnd_d044e 2 = .ok (.aload_n 2, 1) := by decide +kernel
theorem dJ2_checkBoundsBeginEnd_d044e_3 : decode cJ2_checkBoundsBeginEnd_d044e 3 = .ok (.invokestatic 48, 3) := by decide +kernel
theorem dJ2_checkBoundsBeginEnd_d044e_6 : decode cJ2_checkBoundsBeginEnd_d044e 6 = .ok (.invokestatic 241, 3) := by decide +kernel
theorem dJ2_checkBoundsBeginEnd_d044e_9 : decode cJ2_checkBoundsBeginEnd_d044e 9 = .ok (.return_, 1) := by decide +kernel
theorem dJ2_checkBoundsOffCount_d044e_0 : decode cJ2_checkBoundsOffCount_d044e 0 = .ok (.iload_n 0, 1) := by decide +kernel
theorem dJ2_checkBoundsOffCount_d044e_1 : decode cJ2_checkBoundsOffCount_d044e 1 = .ok (.iload_n 1, 1) := by decide +kernel
theorem dJ2_checkBoundsOffCount_d044e_2 : decode cJ2_checkBoundsOffCount_d044e 2 = .ok (.aload_n 2, 1) := by decide +kernel
theorem dJ2_checkBoundsOffCount_d044e_3 : decode cJ2_checkBoundsOffCount_d044e 3 = .ok (.invokestatic 48, 3) := by decide +kernel
theorem dJ2_checkBoundsOffCount_d044e_6 : decode cJ2_checkBoundsOffCount_d044e 6 = .ok (.invokestatic 419, 3) := by decide +kernel
theorem dJ2_checkBoundsOffCount_d044e_9 : decode cJ2_checkBoundsOffCount_d044e 9 = .ok (.pop, 1) := by decide +kernel
theorem dJ2_checkBoundsOffCount_d044e_10 : decode cJ2_checkBoundsOffCount_d044e 10 = .ok (.return_, 1) := by decide +kernel
theorem dJ7_rangeCheck_23922_0 : decode cJ7_rangeCheck_23922 0 = .ok (.iload_n 1, 1) := by decide +kernel
theorem dJ7_rangeCheck_23922_1 : decode cJ7_rangeCheck_23922 1 = .ok (.iload_n 2, 1) := by decide +kernel
theorem dJ7_rangeCheck_23922_2 : decode cJ7_rangeCheck_23922 2 = .ok (.if_icmp .le 44, 3) := by decide +kernel
theorem dJ7_rangeCheck_23922_5 : decode cJ7_rangeCheck_23922 5 = .ok (.new 43, 3) := by decide +kernel
theorem dJ7_rangeCheck_23922_8 : decode cJ7_rangeCheck_23922 8 = .ok (.dup, 1) := by decide +kernel
theorem dJ7_rangeCheck_23922_9 : decode cJ7_rangeCheck_23922 9 = .ok (.new 45, 3) := by decide +kernel
theorem dJ7_rangeCheck_23922_12 : decode cJ7_rangeCheck_23922 12 = .ok (.dup, 1) := by decide +kernel
theorem dJ7_rangeCheck_23922_13 : decode cJ7_rangeCheck_23922 13 = .ok (.invokespecial 47, 3) := by decide +kernel
theorem dJ7_rangeCheck_23922_16 : decode cJ7_rangeCheck_23922 16 = .ok (.ldc 48, 2) := by decide +kernel
theorem dJ7_rangeCheck_23922_18 : decode cJ7_rangeCheck_23922 18 = .ok (.invokevirtual 50, 3) := by decide +kernel
theorem dJ7_rangeCheck_23922_21 : decode cJ7_rangeCheck_23922 21 = .ok (.iload_n 1, 1) := by decide +kernel
theorem dJ7_rangeCheck_23922_22 : decode cJ7_rangeCheck_23922 22 = .ok (.invokevirtual 54, 3) := by decide +kernel
theorem dJ7_rangeCheck_23922_25 : decode cJ7_rangeCheck_23922 25 = .ok (.ldc 57, 2) := by decide +kernel
theorem dJ7_rangeCheck_23922_27 : decode cJ7_rangeCheck_23922 27 = .ok (.invokevirtual 50, 3) := by decide +kernel
theorem dJ7_rangeCheck_23922_30 : decode cJ7_rangeCheck_23922 30 = .ok (.iload_n 2, 1) := by decide +kernel
theorem dJ7_rangeCheck_23922_31 : decode cJ7_rangeCheck_23922 31 = .ok (.invokevirtual 54, 3) := by decide +kernel
theorem dJ7_rangeCheck_23922_34 : decode cJ7_rangeCheck_23922 34 = .ok (.ldc 59, 2) := by decide +kernel
theorem dJ7_rangeCheck_23922_36 : decode cJ7_rangeCheck_23922 36 = .ok (.invokevirtual 50, 3) := by decide +kernel
theorem dJ7_rangeCheck_23922_39 : decode cJ7_rangeCheck_23922 39 = .ok (.invokevirtual 61, 3) := by decide +kernel
theorem dJ7_rangeCheck_23922_42 : decode cJ7_rangeCheck_23922 42 = .ok (.invokespecial 65, 3) := by decide +kernel
theorem dJ7_rangeCheck_23922_45 : decode cJ7_rangeCheck_23922 45 = .ok (.athrow, 1) := by decide +kernel
theorem dJ7_rangeCheck_23922_46 : decode cJ7_rangeCheck_23922 46 = .ok (.iload_n 1, 1) := by decide +kernel
theorem dJ7_rangeCheck_23922_47 : decode cJ7_rangeCheck_23922 47 = .ok (.ifCond .ge 12, 3) := by decide +kernel
theorem dJ7_rangeCheck_23922_50 : decode cJ7_rangeCheck_23922 50 = .ok (.new 68, 3) := by decide +kernel
theorem dJ7_rangeCheck_23922_53 : decode cJ7_rangeCheck_23922 53 = .ok (.dup, 1) := by decide +kernel
theorem dJ7_rangeCheck_23922_54 : decode cJ7_rangeCheck_23922 54 = .ok (.iload_n 1, 1) := by decide +kernel
theorem dJ7_rangeCheck_23922_55 : decode cJ7_rangeCheck_23922 55 = .ok (.invokespecial 70, 3) := by decide +kernel
theorem dJ7_rangeCheck_23922_58 : decode cJ7_rangeCheck_23922 58 = .ok (.athrow, 1) := by decide +kernel
theorem dJ7_rangeCheck_23922_59 : decode cJ7_rangeCheck_23922 59 = .ok (.iload_n 2, 1) := by decide +kernel
theorem dJ7_rangeCheck_23922_60 : decode cJ7_rangeCheck_23922 60 = .ok (.iload_n 0, 1) := by decide +kernel
theorem dJ7_rangeCheck_23922_61 : decode cJ7_rangeCheck_23922 61 = .ok (.if_icmp .le 12, 3) := by decide +kernel
theorem dJ7_rangeCheck_23922_64 : decode cJ7_rangeCheck_23922 64 = .ok (.new 68, 3) := by decide +kernel
theorem dJ7_rangeCheck_23922_67 : decode cJ7_rangeCheck_23922 67 = .ok (.dup, 1) := by decide +kernel
theorem dJ7_rangeCheck_23922_68 : decode cJ7_rangeCheck_23922 68 = .ok (.iload_n 2, 1) := by decide +kernel
theorem dJ7_rangeCheck_23922_69 : decode cJ7_rangeCheck_23922 69 = .ok (.invokespecial 70, 3) := by decide +kernel
theorem dJ7_rangeCheck_23922_72 : decode cJ7_rangeCheck_23922 72 = .ok (.athrow, 1) := by decide +kernel
theorem dJ7_rangeCheck_23922_73 : decode cJ7_rangeCheck_23922 73 = .ok (.return_, 1) := by decide +kernel
theorem dJ7_fill_eb02e_0 : decode cJ7_fill_eb02e 0 = .ok (.aload_n 0, 1) := by decide +kernel
theorem dJ7_fill_eb02e_1 : decode cJ7_fill_eb02e 1 = .ok (.arraylength, 1) := by decide +kernel
theorem dJ7_fill_eb02e_2 : decode cJ7_fill_eb02e 2 = .ok (.iload_n 1, 1) := by decide +kernel
theorem dJ7_fill_eb02e_3 : decode cJ7_fill_eb02e 3 = .ok (.iload_n 2, 1) := by decide +kernel
theorem dJ7_fill_eb02e_4 : decode cJ7_fill_eb02e 4 = .ok (.invokestatic 13, 3) := by decide +kernel
theorem dJ7_fill_eb02e_7 : decode cJ7_fill_eb02e 7 = .ok (.iload_n 1, 1) := by decide +kernel
theorem dJ7_fill_eb02e_8 : decode cJ7_fill_eb02e 8 = .ok (.istore 4, 2) := by decide +kernel
theorem dJ7_fill_eb02e_10 : decode cJ7_fill_eb02e 10 = .ok (.iload 4, 2) := by decide +kernel
theorem dJ7_fill_eb02e_12 : decode cJ7_fill_eb02e 12 = .ok (.iload_n 2, 1) := by decide +kernel
theorem dJ7_fill_eb02e_13 : decode cJ7_fill_eb02e 13 = .ok (.if_icmp .ge 14, 3) := by decide +kernel
theorem dJ7_fill_eb02e_16 : decode cJ7_fill_eb02e 16 = .ok (.aload_n 0, 1) := by decide +kernel
theorem dJ7_fill_eb02e_17 : decode cJ7_fill_eb02e 17 = .ok (.iload 4, 2) := by decide +kernel
theorem dJ7_fill_eb02e_19 : decode cJ7_fill_eb02e 19 = .ok (.iload_n 3, 1) := by decide +kernel
theorem dJ7_fill_eb02e_20 : decode cJ7_fill_eb02e 20 = .ok (.bastore, 1) := by decide +kernel
theorem dJ7_fill_eb02e_21 : decode cJ7_fill_eb02e 21 = .ok (.iinc 4 1, 3) := by decide +kernel
theorem dJ7_fill_eb02e_24 : decode cJ7_fill_eb02e 24 = .ok (.goto (-14), 3) := by decide +kernel
theorem dJ7_fill_eb02e_27 : decode cJ7_fill_eb02e 27 = .ok (.return_, 1) := by decide +kernel
theorem dJ7_copyOf_9075b_0 : decode cJ7_copyOf_9075b 0 = .ok (.iload_n 1, 1) := by decide +kernel
theorem dJ7_copyOf_9075b_1 : decode cJ7_copyOf_9075b 1 = .ok (.aload_n 0, 1) := by decide +kernel
theorem dJ7_copyOf_9075b_2 : decode cJ7_copyOf_9075b 2 = .ok (.arraylength, 1) := by decide +kernel
theorem dJ7_copyOf_9075b_3 : decode cJ7_copyOf_9075b 3 = .ok (.if_icmp .ne 11, 3) := by decide +kernel
theorem dJ7_copyOf_9075b_6 : decode cJ7_copyOf_9075b 6 = .ok (.aload_n 0, 1) := by decide +kernel
theorem dJ7_copyOf_9075b_7 : decode cJ7_copyOf_9075b 7 = .ok (.invokevirtual 310, 3) := by decide +kernel
theorem dJ7_copyOf_9075b_10 : decode cJ7_copyOf_9075b 10 = .ok (.checkcast 311, 3) := by decide +kernel
theorem dJ7_copyOf_9075b_13 : decode cJ7_copyOf_9075b 13 = .ok (.areturn, 1) := by decide +kernel
theorem dJ7_copyOf_9075b_14 : decode cJ7_copyOf_9075b 14 = .ok (.iload_n 1, 1) := by decide +kernel
theorem dJ7_copyOf_9075b_15 : decode cJ7_copyOf_9075b 15 = .ok (.newarray .byte, 2) := by decide +kernel
theorem dJ7_copyOf_9075b_17 : decode cJ7_copyOf_9075b 17 = .ok (.astore_n 2, 1) := by decide +kernel
theorem dJ7_copyOf_9075b_18 : decode cJ7_copyOf_9075b 18 = .ok (.aload_n 0, 1) := by decide +kernel
theorem dJ7_copyOf_9075b_19 : decode cJ7_copyOf_9075b 19 = .ok (.iconst 0, 1) := by decide +kernel
theorem dJ7_copyOf_9075b_20 : decode cJ7_copyOf_9075b 20 = .ok (.aload_n 2, 1) := by decide +kernel
theorem dJ7_copyOf_9075b_21 : decode cJ7_copyOf_9075b 21 = .ok (.iconst 0, 1) := by decide +kernel
theorem dJ7_copyOf_9075b_22 : decode cJ7_copyOf_9075b 22 = .ok (.aload_n 0, 1) := by decide +kernel
theorem dJ7_copyOf_9075b_23 : decode cJ7_copyOf_9075b 23 = .ok (.arraylength, 1) := by decide +kernel
theorem dJ7_copyOf_9075b_24 : decode cJ7_copyOf_9075b 24 = .ok (.iload_n 1, 1) := by decide +kernel
theorem dJ7_copyOf_9075b_25 : decode cJ7_copyOf_9075b 25 = .ok (.invokestatic 304, 3) := by decide +kernel
theorem dJ7_copyOf_9075b_28 : decode cJ7_copyOf_9075b 28 = .ok (.invokestatic 150, 3) := by decide +kernel
theorem dJ7_copyOf_9075b_31 : decode cJ7_copyOf_9075b 31 = .ok (.aload_n 2, 1) := by decide +kernel
theorem dJ7_copyOf_9075b_32 : decode cJ7_copyOf_9075b 32 = .ok (.areturn, 1) := by decide +kernel
theorem dJ7_checkLength_df160_0 : decode cJ7_checkLength_df160 0 = .ok (.iload_n 1, 1) := by decide +kernel
theorem dJ7_checkLength_df160_1 : decode cJ7_checkLength_df160 1 = .ok (.iload_n 0, 1) := by decide +kernel
theorem dJ7_checkLength_df160_2 : decode cJ7_checkLength_df160 2 = .ok (.if_icmp .ge 35, 3) := by decide +kernel
theorem dJ7_checkLength_df160_5 : decode cJ7_checkLength_df160 5 = .ok (.new 43, 3) := by decide +kernel
theorem dJ7_checkLength_df160_8 : decode cJ7_checkLength_df160 8 = .ok (.dup, 1) := by decide +kernel
theorem dJ7_checkLength_df160_9 : decode cJ7_checkLength_df160 9 = .ok (.new 45, 3) := by decide +kernel
theorem dJ7_checkLength_df160_12 : decode cJ7_checkLength_df160 12 = .ok (.dup, 1) := by decide +kernel
theorem dJ7_checkLength_df160_13 : decode cJ7_checkLength_df160 13 = .ok (.invokespecial 47, 3) := by decide +kernel
theorem dJ7_checkLength_df160_16 : decode cJ7_checkLength_df160 16 = .ok (.iload_n 0, 1) := by decide +kernel
theorem dJ7_checkLength_df160_17 : decode cJ7_checkLength_df160 17 = .ok (.invokevirtual 54, 3) := by decide +kernel
theorem dJ7_checkLength_df160_20 : decode cJ7_checkLength_df160 20 = .ok (.ldc_w 337, 3) := by decide +kernel
theorem dJ7_checkLength_df160_23 : decode cJ7_checkLength_df160 23 = .ok (.invokevirtual 50, 3) := by decide +kernel
theorem dJ7_checkLength_df160_26 : decode cJ7_checkLength_df160 26 = .ok (.iload_n 1, 1) := by decide +kernel
theorem dJ7_checkLength_df160_27 : decode cJ7_checkLength_df160 27 = .ok (.invokevirtual 54, 3) := by decide +kernel
theorem dJ7_checkLength_df160_30 : decode cJ7_checkLength_df160 30 = .ok (.invokevirtual 61, 3) := by decide +kernel
theorem dJ7_checkLength_df160_33 : decode cJ7_checkLength_df160 33 = .ok (.invokespecial 65, 3) := by decide +kernel
theorem dJ7_checkLength_df160_36 : decode cJ7_checkLength_df160 36 = .ok (.athrow, 1) := by decide +kernel
theorem dJ7_checkLength_df160_37 : decode cJ7_checkLength_df160 37 = .ok (.return_, 1) := by decide +kernel
theorem dJ7_copyOfRange_39247_0 : decode cJ7_copyOfRange_39247 0 = .ok (.iload_n 1, 1) := by decide +kernel
theorem dJ7_copyOfRange_39247_1 : decode cJ7_copyOfRange_39247 1 = .ok (.ifCond .ne 9, 3) := by decide +kernel
theorem dJ7_copyOfRange_39247_4 : decode cJ7_copyOfRange_39247 4 = .ok (.iload_n 2, 1) := by decide +kernel
theorem dJ7_copyOfRange_39247_5 : decode cJ7_copyOfRange_39247 5 = .ok (.aload_n 0, 1) := by decide +kernel
theorem dJ7_copyOfRange_39247_6 : decode cJ7_copyOfRange_39247 6 = .ok (.arraylength, 1) := by decide +kernel
theorem dJ7_copyOfRange_39247_7 : decode cJ7_copyOfRange_39247 7 = .ok (.if_icmp .eq 10, 3) := by decide +kernel
theorem dJ7_copyOfRange_39247_10 : decode cJ7_copyOfRange_39247 10 = .ok (.aload_n 0, 1) := by decide +kernel
theorem dJ7_copyOfRange_39247_11 : decode cJ7_copyOfRange_39247 11 = .ok (.iload_n 1, 1) := by decide +kernel
theorem dJ7_copyOfRange_39247_12 : decode cJ7_copyOfRange_39247 12 = .ok (.iload_n 2, 1) := by decide +kernel
theorem dJ7_copyOfRange_39247_13 : decode cJ7_copyOfRange_39247 13 = .ok (.invokestatic 339, 3) := by decide +kernel
theorem dJ7_copyOfRange_39247_16 : decode cJ7_copyOfRange_39247 16 = .ok (.areturn, 1) := by decide +kernel
theorem dJ7_copyOfRange_39247_17 : decode cJ7_copyOfRange_39247 17 = .ok (.aload_n 0, 1) := by decide +kernel
theorem dJ7_copyOfRange_39247_18 : decode cJ7_copyOfRange_39247 18 = .ok (.invokevirtual 310, 3) := by decide +kernel
theorem dJ7_copyOfRange_39247_21 : decode cJ7_copyOfRange_39247 21 = .ok (.checkcast 311, 3) := by decide +kernel
theorem dJ7_copyOfRange_39247_24 : decode cJ7_copyOfRange_39247 24 = .ok (.areturn, 1) := by decide +kernel
theorem dJ7_copyOfRangeByte_39247_0 : decode cJ7_copyOfRangeByte_39247 0 = .ok (.iload_n 1, 1) := by decide +kernel
theorem dJ7_copyOfRangeByte_39247_1 : decode cJ7_copyOfRangeByte_39247 1 = .ok (.iload_n 2, 1) := by decide +kernel
theorem dJ7_copyOfRangeByte_39247_2 : decode cJ7_copyOfRangeByte_39247 2 = .ok (.invokestatic 343, 3) := by decide +kernel
theorem dJ7_copyOfRangeByte_39247_5 : decode cJ7_copyOfRangeByte_39247 5 = .ok (.iload_n 2, 1) := by decide +kernel
theorem dJ7_copyOfRangeByte_39247_6 : decode cJ7_copyOfRangeByte_39247 6 = .ok (.iload_n 1, 1) := by decide +kernel
theorem dJ7_copyOfRangeByte_39247_7 : decode cJ7_copyOfRangeByte_39247 7 = .ok (.isub, 1) := by decide +kernel
theorem dJ7_copyOfRangeByte_39247_8 : decode cJ7_copyOfRangeByte_39247 8 = .ok (.istore_n 3, 1) := by decide +kernel
theorem dJ7_copyOfRangeByte_39247_9 : decode cJ7_copyOfRangeByte_39247 9 = .ok (.iload_n 3, 1) := by decide +kernel
theorem dJ7_copyOfRangeByte_39247_10 : decode cJ7_copyOfRangeByte_39247 10 = .ok (.newarray .byte, 2) := by decide +kernel
theorem dJ7_copyOfRangeByte_39247_12 : decode cJ7_copyOfRangeByte_39247 12 = .ok (.astore 4, 2) := by decide +kernel
theorem dJ7_copyOfRangeByte_39247_14 : decode cJ7_copyOfRangeByte_39247 14 = .ok (.aload_n 0, 1) := by decide +kernel
theorem dJ7_copyOfRangeByte_39247_15 : decode cJ7_copyOfRangeByte_39247 15 = .ok (.iload_n 1, 1) := by decide +kernel
theorem dJ7_copyOfRangeByte_39247_16 : decode cJ7_copyOfRangeByte_39247 16 = .ok (.aload 4, 2) := by decide +kernel
theorem dJ7_copyOfRangeByte_39247_18 : decode cJ7_copyOfRangeByte_39247 18 = .ok (.iconst 0, 1) := by decide +kernel
theorem dJ7_copyOfRangeByte_39247_19 : decode cJ7_copyOfRangeByte_39247 19 = .ok (.aload_n 0, 1) := by decide +kernel
theorem dJ7_copyOfRangeByte_39247_20 : decode cJ7_copyOfRangeByte_39247 20 = .ok (.arraylength, 1) := by decide +kernel
theorem dJ7_copyOfRangeByte_39247_21 : decode cJ7_copyOfRangeByte_39247 21 = .ok (.iload_n 1, 1) := by decide +kernel
theorem dJ7_copyOfRangeByte_39247_22 : decode cJ7_copyOfRangeByte_39247 22 = .ok (.isub, 1) := by decide +kernel
theorem dJ7_copyOfRangeByte_39247_23 : decode cJ7_copyOfRangeByte_39247 23 = .ok (.iload_n 3, 1) := by decide +kernel
theorem dJ7_copyOfRangeByte_39247_24 : decode cJ7_copyOfRangeByte_39247 24 = .ok (.invokestatic 304, 3) := by decide +kernel
theorem dJ7_copyOfRangeByte_39247_27 : decode cJ7_copyOfRangeByte_39247 27 = .ok (.invokestatic 150, 3) := by decide +kernel
theorem dJ7_copyOfRangeByte_39247_30 : decode cJ7_copyOfRangeByte_39247 30 = .ok (.aload 4, 2) := by decide +kernel
theorem dJ7_copyOfRangeByte_39247_32 : decode cJ7_copyOfRangeByte_39247 32 = .ok (.areturn, 1) := by decide +kernel
theorem dJ8_newLength_cabcc_0 : decode cJ8_newLength_cabcc 0 = .ok (.iload_n 0, 1) := by decide +kernel
theorem dJ8_newLength_cabcc_1 : decode cJ8_newLength_cabcc 1 = .ok (.iload_n 1, 1) := by decide +kernel
theorem dJ8_newLength_cabcc_2 : decode cJ8_newLength_cabcc 2 = .ok (.iload_n 2, 1) := by decide +kernel
theorem dJ8_newLength_cabcc_3 : decode cJ8_newLength_cabcc 3 = .ok (.invokestatic 194, 3) := by decide +kernel
theorem dJ8_newLength_cabcc_6 : decode cJ8_newLength_cabcc 6 = .ok (.iadd, 1) := by decide +kernel
theorem dJ8_newLength_cabcc_7 : decode cJ8_newLength_cabcc 7 = .ok (.istore_n 3, 1) := by decide +kernel
theorem dJ8_newLength_cabcc_8 : decode cJ8_newLength_cabcc 8 = .ok (.iconst 0, 1) := by decide +kernel
theorem dJ8_newLength_cabcc_9 : decode cJ8_newLength_cabcc 9 = .ok (.iload_n 3, 1) := by decide +kernel
theorem dJ8_newLength_cabcc_10 : decode cJ8_newLength_cabcc 10 = .ok (.if_icmp .ge 11, 3) := by decide +kernel
theorem dJ8_newLength_cabcc_13 : decode cJ8_newLength_cabcc 13 = .ok (.iload_n 3, 1) := by decide +kernel
theorem dJ8_newLength_cabcc_14 : decode cJ8_newLength_cabcc 14 = .ok (.ldc 200, 2) := by decide +kernel
theorem dJ8_newLength_cabcc_16 : decode cJ8_newLength_cabcc 16 = .ok (.if_icmp .gt 5, 3) := by decide +kernel
theorem dJ8_newLength_cabcc_19 : decode cJ8_newLength_cabcc 19 = .ok (.iload_n 3, 1) := by decide +kernel
theorem dJ8_newLength_cabcc_20 : decode cJ8_newLength_cabcc 20 = .ok (.ireturn, 1) := by decide +kernel
theorem dJ8_newLength_cabcc_21 : decode cJ8_newLength_cabcc 21 = .ok (.iload_n 0, 1) := by decide +kernel
theorem dJ8_newLength_cabcc_22 : decode cJ8_newLength_cabcc 22 = .ok (.iload_n 1, 1) := by decide +kernel
theorem dJ8_newLength_cabcc_23 : decode cJ8_newLength_cabcc 23 = .ok (.invokestatic 201, 3) := by decide +kernel
theorem dJ8_newLength_cabcc_26 : decode cJ8_newLength_cabcc 26 = .ok (.ireturn, 1) := by decide +kernel
theorem dJ8_hugeLength_7cf53_0 : decode cJ8_hugeLength_7cf53 0 = .ok (.iload_n 0, 1) := by decide +kernel
theorem dJ8_hugeLength_7cf53_1 : decode cJ8_hugeLength_7cf53 1 = .ok (.iload_n 1, 1) := by decide +kernel
theorem dJ8_hugeLength_7cf53_2 : decode cJ8_hugeLength_7cf53 2 = .ok (.iadd, 1) := by decide +kernel
theorem dJ8_hugeLength_7cf53_3 : decode cJ8_hugeLength_7cf53 3 = .ok (.istore_n 2, 1) := by decide +kernel
theorem dJ8_hugeLength_7cf53_4 : decode cJ8_hugeLength_7cf53 4 = .ok (.iload_n 2, 1) := by decide +kernel
theorem dJ8_hugeLength_7cf53_5 : decode cJ8_hugeLength_7cf53 5 = .ok (.ifCond .ge 44, 3) := by decide +kernel
theorem dJ8_hugeLength_7cf53_8 : decode cJ8_hugeLength_7cf53 8 = .ok (.new 204, 3) := by decide +kernel
theorem dJ8_hugeLength_7cf53_11 : decode cJ8_hugeLength_7cf53 11 = .ok (.dup, 1) := by decide +kernel
theorem dJ8_hugeLength_7cf53_12 : decode cJ8_hugeLength_7cf53 12 = .ok (.new 89, 3) := by decide +kernel
theorem dJ8_hugeLength_7cf53_15 : decode cJ8_hugeLength_7cf53 15 = .ok (.dup, 1) := by decide +kernel
theorem dJ8_hugeLength_7cf53_16 : decode cJ8_hugeLength_7cf53 16 = .ok (.invokespecial 91, 3) := by decide +kernel
theorem dJ8_hugeLength_7cf53_19 : decode cJ8_hugeLength_7cf53 19 = .ok (.ldc 206, 2) := by decide +kernel
theorem dJ8_hugeLength_7cf53_21 : decode cJ8_hugeLength_7cf53 21 = .ok (.invokevirtual 94, 3) := by decide +kernel
theorem dJ8_hugeLength_7cf53_24 : decode cJ8_hugeLength_7cf53 24 = .ok (.iload_n 0, 1) := by decide +kernel
theorem dJ8_hugeLength_7cf53_25 : decode cJ8_hugeLength_7cf53 25 = .ok (.invokevirtual 98, 3) := by decide +kernel
theorem dJ8_hugeLength_7cf53_28 : decode cJ8_hugeLength_7cf53 28 = .ok (.ldc 208, 2) := by decide +kernel
theorem dJ8_hugeLength_7cf53_30 : decode cJ8_hugeLength_7cf53 30 = .ok (.invokevirtual 94, 3) := by decide +kernel
theorem dJ8_hugeLength_7cf53_33 : decode cJ8_hugeLength_7cf53 33 = .ok (.iload_n 1, 1) := by decide +kernel
theorem dJ8_hugeLength_7cf53_34 : decode cJ8_hugeLength_7cf53 34 = .ok (.invokevirtual 98, 3) := by decide +kernel
theorem dJ8_hugeLength_7cf53_37 : decode cJ8_hugeLength_7cf53 37 = .ok (.ldc 210, 2) := by decide +kernel
theorem dJ8_hugeLength_7cf53_39 : decode cJ8_hugeLength_7cf53 39 = .ok (.invokevirtual 94, 3) := by decide +kernel
theorem dJ8_hugeLength_7cf53_42 : decode cJ8_hugeLength_7cf53 42 = .ok (.invokevirtual 101, 3) := by decide +kernel
theorem dJ8_hugeLength_7cf53_45 : decode cJ8_hugeLength_7cf53 45 = .ok (.invokespecial 212, 3) := by decide +kernel
theorem dJ8_hugeLength_7cf53_48 : decode cJ8_hugeLength_7cf53 48 = .ok (.athrow, 1) := by decide +kernel
theorem dJ8_hugeLength_7cf53_49 : decode cJ8_hugeLength_7cf53 49 = .ok (.iload_n 2, 1) := by decide +kernel
theorem dJ8_hugeLength_7cf53_50 : decode cJ8_hugeLength_7cf53 50 = .ok (.ldc 200, 2) := by decide +kernel
theorem dJ8_hugeLength_7cf53_52 : decode cJ8_hugeLength_7cf53 52 = .ok (.if_icmp .gt 6, 3) := by decide +kernel
theorem dJ8_hugeLength_7cf53_55 : decode cJ8_hugeLength_7cf53 55 = .ok (.ldc 200, 2) := by decide +kernel
theorem dJ8_hugeLength_7cf53_57 : decode cJ8_hugeLength_7cf53 57 = .ok (.ireturn, 1) := by decide +kernel
theorem dJ8_hugeLength_7cf53_58 : decode cJ8_hugeLength_7cf53 58 = .ok (.iload_n 2, 1) := by decide +kernel
theorem dJ8_hugeLength_7cf53_59 : decode cJ8_hugeLength_7cf53 59 = .ok (.ireturn, 1) := by decide +kernel
theorem dJ3_checkIndex_8e157_0 : decode cJ3_checkIndex_8e157 0 = .ok (.iload_n 0, 1) := by decide +kernel
theorem dJ3_checkIndex_8e157_1 : decode cJ3_checkIndex_8e157 1 = .ok (.ifCond .lt 8, 3) := by decide +kernel
theorem dJ3_checkIndex_8e157_4 : decode cJ3_checkIndex_8e157 4 = .ok (.iload_n 0, 1) := by decide +kernel
theorem dJ3_checkIndex_8e157_5 : decode cJ3_checkIndex_8e157 5 = .ok (.iload_n 1, 1) := by decide +kernel
theorem dJ3_checkIndex_8e157_6 : decode cJ3_checkIndex_8e157 6 = .ok (.if_icmp .lt 10, 3) := by decide +kernel
theorem dJ3_checkIndex_8e157_9 : decode cJ3_checkIndex_8e157 9 = .ok (.aload_n 2, 1) := by decide +kernel
theorem dJ3_checkIndex_8e157_10 : decode cJ3_checkIndex_8e157 10 = .ok (.iload_n 0, 1) := by decide +kernel
theorem dJ3_checkIndex_8e157_11 : decode cJ3_checkIndex_8e157 11 = .ok (.iload_n 1, 1) := by decide +kernel
theorem dJ3_checkIndex_8e157_12 : decode cJ3_checkIndex_8e157 12 = .ok (.invokestatic 95, 3) := by decide +kernel
theorem dJ3_checkIndex_8e157_15 : decode cJ3_checkIndex_8e157 15 = .ok (.athrow, 1) := by decide +kernel
theorem dJ3_checkIndex_8e157_16 : decode cJ3_checkIndex_8e157 16 = .ok (.iload_n 0, 1) := by decide +kernel
theorem dJ3_checkIndex_8e157_17 : decode cJ3_checkIndex_8e157 17 = .ok (.ireturn, 1) := by decide +kernel
theorem dJ3_checkFromToIndex_8c36e_0 : decode cJ3_checkFromToIndex_8c36e 0 = .ok (.iload_n 0, 1) := by decide +kernel
theorem dJ3_checkFromToIndex_8c36e_1 : decode cJ3_checkFromToIndex_8c36e 1 = .ok (.ifCond .lt 13, 3) := by decide +kernel
theorem dJ3_checkFromToIndex_8c36e_4 : decode cJ3_checkFromToIndex_8c36e 4 = .ok (.iload_n 0, 1) := by decide +kernel
theorem dJ3_checkFromToIndex_8c36e_5 : decode cJ3_checkFromToIndex_8c36e 5 = .ok (.iload_n 1, 1) := by decide +kernel
theorem dJ3_checkFromToIndex_8c36e_6 : decode cJ3_checkFromToIndex_8c36e 6 = .ok (.if_icmp .gt 8, 3) := by decide +kernel
theorem dJ3_checkFromToIndex_8c36e_9 : decode cJ3_checkFromToIndex_8c36e 9 = .ok (.iload_n 1, 1) := by decide +kernel
theorem dJ3_checkFromToIndex_8c36e_10 : decode cJ3_checkFromToIndex_8c36e 10 = .ok (.iload_n 2, 1) := by decide +kernel
theorem dJ3_checkFromToIndex_8c36e_11 : decode cJ3_checkFromToIndex_8c36e 11 = .ok (.if_icmp .le 11, 3) := by decide +kernel
theorem dJ3_checkFromToIndex_8c36e_14 : decode cJ3_checkFromToIndex_8c36e 14 = .ok (.aload_n 3, 1) := by decide +kernel
theorem dJ3_checkFromToIndex_8c36e_15 : decode cJ3_checkFromToIndex_8c36e 15 = .ok (.iload_n 0, 1) := by decide +kernel
theorem dJ3_checkFromToIndex_8c36e_16 : decode cJ3_checkFromToIndex_8c36e 16 = .ok (.iload_n 1, 1) := by decide +kernel
theorem dJ3_checkFromToIndex_8c36e_17 : decode cJ3_checkFromToIndex_8c36e 17 = .ok (.iload_n 2, 1) := by decide +kernel
theorem dJ3_checkFromToIndex_8c36e_18 : decode cJ3_checkFromToIndex_8c36e 18 = .ok (.invokestatic 99, 3) := by decide +kernel
theorem dJ3_checkFromToIndex_8c36e_21 : decode cJ3_checkFromToIndex_8c36e 21 = .ok (.athrow, 1) := by decide +kernel
theorem dJ3_checkFromToIndex_8c36e_22 : decode cJ3_checkFromToIndex_8c36e 22 = .ok (.iload_n 0, 1) := by decide +kernel
theorem dJ3_checkFromToIndex_8c36e_23 : decode cJ3_checkFromToIndex_8c36e 23 = .ok (.ireturn, 1) := by decide +kernel
theorem dJ3_checkFromIndexSize_8c36e_0 : decode cJ3_checkFromIndexSize_8c36e 0 = .ok (.iload_n 2, 1) := by decide +kernel
theorem dJ3_checkFromIndexSize_8c36e_1 : decode cJ3_checkFromIndexSize_8c36e 1 = .ok (.iload_n 0, 1) := by decide +kernel
theorem dJ3_checkFromIndexSize_8c36e_2 : decode cJ3_checkFromIndexSize_8c36e 2 = .ok (.ior, 1) := by decide +kernel
theorem dJ3_checkFromIndexSize_8c36e_3 : decode cJ3_checkFromIndexSize_8c36e 3 = .ok (.iload_n 1, 1) := by decide +kernel
theorem dJ3_checkFromIndexSize_8c36e_4 : decode cJ3_checkFromIndexSize_8c36e 4 = .ok (.ior, 1) := by decide +kernel
theorem dJ3_checkFromIndexSize_8c36e_5 : decode cJ3_checkFromIndexSize_8c36e 5 = .ok (.ifCond .lt 10, 3) := by decide +kernel
theorem dJ3_checkFromIndexSize_8c36e_8 : decode cJ3_checkFromIndexSize_8c36e 8 = .ok (.iload_n 1, 1) := by decide +kernel
theorem dJ3_checkFromIndexSize_8c36e_9 : decode cJ3_checkFromIndexSize_8c36e 9 = .ok (.iload_n 2, 1) := by decide +kernel
theorem dJ3_checkFromIndexSize_8c36e_10 : decode cJ3_checkFromIndexSize_8c36e 10 = .ok (.iload_n 0, 1) := by decide +kernel
theorem dJ3_checkFromIndexSize_8c36e_11 : decode cJ3_checkFromIndexSize_8c36e 11 = .ok (.isub, 1) := by decide +kernel
theorem dJ3_checkFromIndexSize_8c36e_12 : decode cJ3_checkFromIndexSize_8c36e 12 = .ok (.if_icmp .le 11, 3) := by decide +kernel
theorem dJ3_checkFromIndexSize_8c36e_15 : decode cJ3_checkFromIndexSize_8c36e 15 = .ok (.aload_n 3, 1) := by decide +kernel
theorem dJ3_checkFromIndexSize_8c36e_16 : decode cJ3_checkFromIndexSize_8c36e 16 = .ok (.iload_n 0, 1) := by decide +kernel
theorem dJ3_checkFromIndexSize_8c36e_17 : decode cJ3_checkFromIndexSize_8c36e 17 = .ok (.iload_n 1, 1) := by decide +kernel
theorem dJ3_checkFromIndexSize_8c36e_18 : decode cJ3_checkFromIndexSize_8c36e 18 = .ok (.iload_n 2, 1) := by decide +kernel
theorem dJ3_checkFromIndexSize_8c36e_19 : decode cJ3_checkFromIndexSize_8c36e 19 = .ok (.invokestatic 103, 3) := by decide +kernel
theorem dJ3_checkFromIndexSize_8c36e_22 : decode cJ3_checkFromIndexSize_8c36e 22 = .ok (.athrow, 1) := by decide +kernel
theorem dJ3_checkFromIndexSize_8c36e_23 : decode cJ3_checkFromIndexSize_8c36e 23 = .ok (.iload_n 0, 1) := by decide +kernel
theorem dJ3_checkFromIndexSize_8c36e_24 : decode cJ3_checkFromIndexSize_8c36e 24 = .ok (.ireturn, 1) := by decide +kernel
theorem dL_addClause_0 : decode cL_addClause 0 = .ok (.aload_n 3, 1) := by decide +kernel
theorem dL_addClause_1 : decode cL_addClause 1 = .ok (.iconst 0, 1) := by decide +kernel
theorem dL_addClause_2 : decode cL_addClause 2 = .ok (.aload_n 0, 1) := by decide +kernel
theorem dL_addClause_3 : decode cL_addClause 3 = .ok (.iload_n 1, 1) := by decide +kernel
theorem dL_addClause_4 : decode cL_addClause 4 = .ok (.iload_n 2, 1) := by decide +kernel
theorem dL_addClause_5 : decode cL_addClause 5 = .ok (.invokevirtual 7, 3) := by decide +kernel
theorem dL_addClause_8 : decode cL_addClause 8 = .ok (.i2l, 1) := by decide +kernel
theorem dL_addClause_9 : decode cL_addClause 9 = .ok (.lastore, 1) := by decide +kernel
theorem dL_addClause_10 : decode cL_addClause 10 = .ok (.goto 15, 3) := by decide +kernel
theorem dL_addClause_13 : decode cL_addClause 13 = .ok (.astore 4, 2) := by decide +kernel
theorem dL_addClause_15 : decode cL_addClause 15 = .ok (.iconst 1, 1) := by decide +kernel
theorem dL_addClause_16 : decode cL_addClause 16 = .ok (.ireturn, 1) := by decide +kernel
theorem dL_addClause_17 : decode cL_addClause 17 = .ok (.astore 4, 2) := by decide +kernel
theorem dL_addClause_19 : decode cL_addClause 19 = .ok (.iconst 2, 1) := by decide +kernel
theorem dL_addClause_20 : decode cL_addClause 20 = .ok (.ireturn, 1) := by decide +kernel
theorem dL_addClause_21 : decode cL_addClause 21 = .ok (.astore 4, 2) := by decide +kernel
theorem dL_addClause_23 : decode cL_addClause 23 = .ok (.iconst 3, 1) := by decide +kernel
theorem dL_addClause_24 : decode cL_addClause 24 = .ok (.ireturn, 1) := by decide +kernel
theorem dL_addClause_25 : decode cL_addClause 25 = .ok (.iconst 0, 1) := by decide +kernel
theorem dL_addClause_26 : decode cL_addClause 26 = .ok (.ireturn, 1) := by decide +kernel
theorem dL_insertNote_0 : decode cL_insertNote 0 = .ok (.aload 4, 2) := by decide +kernel
theorem dL_insertNote_2 : decode cL_insertNote 2 = .ok (.iconst 0, 1) := by decide +kernel
theorem dL_insertNote_3 : decode cL_insertNote 3 = .ok (.aload_n 0, 1) := by decide +kernel
theorem dL_insertNote_4 : decode cL_insertNote 4 = .ok (.iload_n 1, 1) := by decide +kernel
theorem dL_insertNote_5 : decode cL_insertNote 5 = .ok (.iload_n 2, 1) := by decide +kernel
theorem dL_insertNote_6 : decode cL_insertNote 6 = .ok (.iload_n 3, 1) := by decide +kernel
theorem dL_insertNote_7 : decode cL_insertNote 7 = .ok (.invokevirtual 19, 3) := by decide +kernel
theorem dL_insertNote_10 : decode cL_insertNote 10 = .ok (.i2l, 1) := by decide +kernel
theorem dL_insertNote_11 : decode cL_insertNote 11 = .ok (.lastore, 1) := by decide +kernel
theorem dL_insertNote_12 : decode cL_insertNote 12 = .ok (.goto 23, 3) := by decide +kernel
theorem dL_insertNote_15 : decode cL_insertNote 15 = .ok (.astore 5, 2) := by decide +kernel
theorem dL_insertNote_17 : decode cL_insertNote 17 = .ok (.iconst 1, 1) := by decide +kernel
theorem dL_insertNote_18 : decode cL_insertNote 18 = .ok (.ireturn, 1) := by decide +kernel
theorem dL_insertNote_19 : decode cL_insertNote 19 = .ok (.astore 5, 2) := by decide +kernel
theorem dL_insertNote_21 : decode cL_insertNote 21 = .ok (.iconst 2, 1) := by decide +kernel
theorem dL_insertNote_22 : decode cL_insertNote 22 = .ok (.ireturn, 1) := by decide +kernel
theorem dL_insertNote_23 : decode cL_insertNote 23 = .ok (.astore 5, 2) := by decide +kernel
theorem dL_insertNote_25 : decode cL_insertNote 25 = .ok (.iconst 3, 1) := by decide +kernel
theorem dL_insertNote_26 : decode cL_insertNote 26 = .ok (.ireturn, 1) := by decide +kernel
theorem dL_insertNote_27 : decode cL_insertNote 27 = .ok (.astore 5, 2) := by decide +kernel
theorem dL_insertNote_29 : decode cL_insertNote 29 = .ok (.iconst 4, 1) := by decide +kernel
theorem dL_insertNote_30 : decode cL_insertNote 30 = .ok (.ireturn, 1) := by decide +kernel
theorem dL_insertNote_31 : decode cL_insertNote 31 = .ok (.astore 5, 2) := by decide +kernel
theorem dL_insertNote_33 : decode cL_insertNote 33 = .ok (.iconst 5, 1) := by decide +kernel
theorem dL_insertNote_34 : decode cL_insertNote 34 = .ok (.ireturn, 1) := by decide +kernel
theorem dL_insertNote_35 : decode cL_insertNote 35 = .ok (.iconst 0, 1) := by decide +kernel
theorem dL_insertNote_36 : decode cL_insertNote 36 = .ok (.ireturn, 1) := by decide +kernel
theorem dL_replaceNote_0 : decode cL_replaceNote 0 = .ok (.aload 4, 2) := by decide +kernel
theorem dL_replaceNote_2 : decode cL_replaceNote 2 = .ok (.iconst 0, 1) := by decide +kernel
theorem dL_replaceNote_3 : decode cL_replaceNote 3 = .ok (.aload_n 0, 1) := by decide +kernel
theorem dL_replaceNote_4 : decode cL_replaceNote 4 = .ok (.iload_n 1, 1) := by decide +kernel
theorem dL_replaceNote_5 : decode cL_replaceNote 5 = .ok (.iload_n 2, 1) := by decide +kernel
theorem dL_replaceNote_6 : decode cL_replaceNote 6 = .ok (.iload_n 3, 1) := by decide +kernel
theorem dL_replaceNote_7 : decode cL_replaceNote 7 = .ok (.invokevirtual 27, 3) := by decide +kernel
theorem dL_replaceNote_10 : decode cL_replaceNote 10 = .ok (.i2l, 1) := by decide +kernel
theorem dL_replaceNote_11 : decode cL_replaceNote 11 = .ok (.lastore, 1) := by decide +kernel
theorem dL_replaceNote_12 : decode cL_replaceNote 12 = .ok (.goto 19, 3) := by decide +kernel
theorem dL_replaceNote_15 : decode cL_replaceNote 15 = .ok (.astore 5, 2) := by decide +kernel
theorem dL_replaceNote_17 : decode cL_replaceNote 17 = .ok (.iconst 1, 1) := by decide +kernel
theorem dL_replaceNote_18 : decode cL_replaceNote 18 = .ok (.ireturn, 1) := by decide +kernel
theorem dL_replaceNote_19 : decode cL_replaceNote 19 = .ok (.astore 5, 2) := by decide +kernel
theorem dL_replaceNote_21 : decode cL_replaceNote 21 = .ok (.iconst 2, 1) := by decide +kernel
theorem dL_replaceNote_22 : decode cL_replaceNote 22 = .ok (.ireturn, 1) := by decide +kernel
theorem dL_replaceNote_23 : decode cL_replaceNote 23 = .ok (.astore 5, 2) := by decide +kernel
theorem dL_replaceNote_25 : decode cL_replaceNote 25 = .ok (.iconst 3, 1) := by decide +kernel
theorem dL_replaceNote_26 : decode cL_replaceNote 26 = .ok (.ireturn, 1) := by decide +kernel
theorem dL_replaceNote_27 : decode cL_replaceNote 27 = .ok (.astore 5, 2) := by decide +kernel
theorem dL_replaceNote_29 : decode cL_replaceNote 29 = .ok (.iconst 4, 1) := by decide +kernel
theorem dL_replaceNote_30 : decode cL_replaceNote 30 = .ok (.ireturn, 1) := by decide +kernel
theorem dL_replaceNote_31 : decode cL_replaceNote 31 = .ok (.iconst 0, 1) := by decide +kernel
theorem dL_replaceNote_32 : decode cL_replaceNote 32 = .ok (.ireturn, 1) := by decide +kernel
theorem dL_deleteNote_0 : decode cL_deleteNote 0 = .ok (.aload_n 3, 1) := by decide +kernel
theorem dL_deleteNote_1 : decode cL_deleteNote 1 = .ok (.iconst 0, 1) := by decide +kernel
theorem dL_deleteNote_2 : decode cL_deleteNote 2 = .ok (.aload_n 0, 1) := by decide +kernel
theorem dL_deleteNote_3 : decode cL_deleteNote 3 = .ok (.iload_n 1, 1) := by decide +kernel
theorem dL_deleteNote_4 : decode cL_deleteNote 4 = .ok (.iload_n 2, 1) := by decide +kernel
theorem dL_deleteNote_5 : decode cL_deleteNote 5 = .ok (.invokevirtual 30, 3) := by decide +kernel
theorem dL_deleteNote_8 : decode cL_deleteNote 8 = .ok (.i2l, 1) := by decide +kernel
theorem dL_deleteNote_9 : decode cL_deleteNote 9 = .ok (.lastore, 1) := by decide +kernel
theorem dL_deleteNote_10 : decode cL_deleteNote 10 = .ok (.goto 19, 3) := by decide +kernel
theorem dL_deleteNote_13 : decode cL_deleteNote 13 = .ok (.astore 4, 2) := by decide +kernel
theorem dL_deleteNote_15 : decode cL_deleteNote 15 = .ok (.iconst 1, 1) := by decide +kernel
theorem dL_deleteNote_16 : decode cL_deleteNote 16 = .ok (.ireturn, 1) := by decide +kernel
theorem dL_deleteNote_17 : decode cL_deleteNote 17 = .ok (.astore 4, 2) := by decide +kernel
theorem dL_deleteNote_19 : decode cL_deleteNote 19 = .ok (.iconst 2, 1) := by decide +kernel
theorem dL_deleteNote_20 : decode cL_deleteNote 20 = .ok (.ireturn, 1) := by decide +kernel
theorem dL_deleteNote_21 : decode cL_deleteNote 21 = .ok (.astore 4, 2) := by decide +kernel
theorem dL_deleteNote_23 : decode cL_deleteNote 23 = .ok (.iconst 3, 1) := by decide +kernel
theorem dL_deleteNote_24 : decode cL_deleteNote 24 = .ok (.ireturn, 1) := by decide +kernel
theorem dL_deleteNote_25 : decode cL_deleteNote 25 = .ok (.astore 4, 2) := by decide +kernel
theorem dL_deleteNote_27 : decode cL_deleteNote 27 = .ok (.iconst 4, 1) := by decide +kernel
theorem dL_deleteNote_28 : decode cL_deleteNote 28 = .ok (.ireturn, 1) := by decide +kernel
theorem dL_deleteNote_29 : decode cL_deleteNote 29 = .ok (.iconst 0, 1) := by decide +kernel
theorem dL_deleteNote_30 : decode cL_deleteNote 30 = .ok (.ireturn, 1) := by decide +kernel
theorem dL_setSunset_0 : decode cL_setSunset 0 = .ok (.aload_n 3, 1) := by decide +kernel
theorem dL_setSunset_1 : decode cL_setSunset 1 = .ok (.iconst 0, 1) := by decide +kernel
theorem dL_setSunset_2 : decode cL_setSunset 2 = .ok (.aload_n 0, 1) := by decide +kernel
theorem dL_setSunset_3 : decode cL_setSunset 3 = .ok (.iload_n 1, 1) := by decide +kernel
theorem dL_setSunset_4 : decode cL_setSunset 4 = .ok (.iload_n 2, 1) := by decide +kernel
theorem dL_setSunset_5 : decode cL_setSunset 5 = .ok (.invokevirtual 34, 3) := by decide +kernel
theorem dL_setSunset_8 : decode cL_setSunset 8 = .ok (.i2l, 1) := by decide +kernel
theorem dL_setSunset_9 : decode cL_setSunset 9 = .ok (.lastore, 1) := by decide +kernel
theorem dL_setSunset_10 : decode cL_setSunset 10 = .ok (.goto 15, 3) := by decide +kernel
theorem dL_setSunset_13 : decode cL_setSunset 13 = .ok (.astore 4, 2) := by decide +kernel
theorem dL_setSunset_15 : decode cL_setSunset 15 = .ok (.iconst 1, 1) := by decide +kernel
theorem dL_setSunset_16 : decode cL_setSunset 16 = .ok (.ireturn, 1) := by decide +kernel
theorem dL_setSunset_17 : decode cL_setSunset 17 = .ok (.astore 4, 2) := by decide +kernel
theorem dL_setSunset_19 : decode cL_setSunset 19 = .ok (.iconst 2, 1) := by decide +kernel
theorem dL_setSunset_20 : decode cL_setSunset 20 = .ok (.ireturn, 1) := by decide +kernel
theorem dL_setSunset_21 : decode cL_setSunset 21 = .ok (.astore 4, 2) := by decide +kernel
theorem dL_setSunset_23 : decode cL_setSunset 23 = .ok (.iconst 3, 1) := by decide +kernel
theorem dL_setSunset_24 : decode cL_setSunset 24 = .ok (.ireturn, 1) := by decide +kernel
theorem dL_setSunset_25 : decode cL_setSunset 25 = .ok (.iconst 0, 1) := by decide +kernel
theorem dL_setSunset_26 : decode cL_setSunset 26 = .ok (.ireturn, 1) := by decide +kernel
theorem dL_cite_0 : decode cL_cite 0 = .ok (.aload_n 3, 1) := by decide +kernel
theorem dL_cite_1 : decode cL_cite 1 = .ok (.iconst 0, 1) := by decide +kernel
theorem dL_cite_2 : decode cL_cite 2 = .ok (.aload_n 0, 1) := by decide +kernel
theorem dL_cite_3 : decode cL_cite 3 = .ok (.iload_n 1, 1) := by decide +kernel
theorem dL_cite_4 : decode cL_cite 4 = .ok (.iload_n 2, 1) := by decide +kernel
theorem dL_cite_5 : decode cL_cite 5 = .ok (.invokevirtual 37, 3) := by decide +kernel
theorem dL_cite_8 : decode cL_cite 8 = .ok (.i2l, 1) := by decide +kernel
theorem dL_cite_9 : decode cL_cite 9 = .ok (.lastore, 1) := by decide +kernel
theorem dL_cite_10 : decode cL_cite 10 = .ok (.goto 15, 3) := by decide +kernel
theorem dL_cite_13 : decode cL_cite 13 = .ok (.astore 4, 2) := by decide +kernel
theorem dL_cite_15 : decode cL_cite 15 = .ok (.iconst 1, 1) := by decide +kernel
theorem dL_cite_16 : decode cL_cite 16 = .ok (.ireturn, 1) := by decide +kernel
theorem dL_cite_17 : decode cL_cite 17 = .ok (.astore 4, 2) := by decide +kernel
theorem dL_cite_19 : decode cL_cite 19 = .ok (.iconst 2, 1) := by decide +kernel
theorem dL_cite_20 : decode cL_cite 20 = .ok (.ireturn, 1) := by decide +kernel
theorem dL_cite_21 : decode cL_cite 21 = .ok (.astore 4, 2) := by decide +kernel
theorem dL_cite_23 : decode cL_cite 23 = .ok (.iconst 3, 1) := by decide +kernel
theorem dL_cite_24 : decode cL_cite 24 = .ok (.ireturn, 1) := by decide +kernel
theorem dL_cite_25 : decode cL_cite 25 = .ok (.iconst 0, 1) := by decide +kernel
theorem dL_cite_26 : decode cL_cite 26 = .ok (.ireturn, 1) := by decide +kernel
theorem dL_uncite_0 : decode cL_uncite 0 = .ok (.aload_n 3, 1) := by decide +kernel
theorem dL_uncite_1 : decode cL_uncite 1 = .ok (.iconst 0, 1) := by decide +kernel
theorem dL_uncite_2 : decode cL_uncite 2 = .ok (.aload_n 0, 1) := by decide +kernel
theorem dL_uncite_3 : decode cL_uncite 3 = .ok (.iload_n 1, 1) := by decide +kernel
theorem dL_uncite_4 : decode cL_uncite 4 = .ok (.iload_n 2, 1) := by decide +kernel
theorem dL_uncite_5 : decode cL_uncite 5 = .ok (.invokevirtual 40, 3) := by decide +kernel
theorem dL_uncite_8 : decode cL_uncite 8 = .ok (.i2l, 1) := by decide +kernel
theorem dL_uncite_9 : decode cL_uncite 9 = .ok (.lastore, 1) := by decide +kernel
theorem dL_uncite_10 : decode cL_uncite 10 = .ok (.goto 7, 3) := by decide +kernel
theorem dL_uncite_13 : decode cL_uncite 13 = .ok (.astore 4, 2) := by decide +kernel
theorem dL_uncite_15 : decode cL_uncite 15 = .ok (.iconst 1, 1) := by decide +kernel
theorem dL_uncite_16 : decode cL_uncite 16 = .ok (.ireturn, 1) := by decide +kernel
theorem dL_uncite_17 : decode cL_uncite 17 = .ok (.iconst 0, 1) := by decide +kernel
theorem dL_uncite_18 : decode cL_uncite 18 = .ok (.ireturn, 1) := by decide +kernel
theorem dL_repeal_0 : decode cL_repeal 0 = .ok (.aload_n 2, 1) := by decide +kernel
theorem dL_repeal_1 : decode cL_repeal 1 = .ok (.iconst 0, 1) := by decide +kernel
theorem dL_repeal_2 : decode cL_repeal 2 = .ok (.aload_n 0, 1) := by decide +kernel
theorem dL_repeal_3 : decode cL_repeal 3 = .ok (.iload_n 1, 1) := by decide +kernel
theorem dL_repeal_4 : decode cL_repeal 4 = .ok (.invokevirtual 43, 3) := by decide +kernel
theorem dL_repeal_7 : decode cL_repeal 7 = .ok (.i2l, 1) := by decide +kernel
theorem dL_repeal_8 : decode cL_repeal 8 = .ok (.lastore, 1) := by decide +kernel
theorem dL_repeal_9 : decode cL_repeal 9 = .ok (.goto 6, 3) := by decide +kernel
theorem dL_repeal_12 : decode cL_repeal 12 = .ok (.astore_n 3, 1) := by decide +kernel
theorem dL_repeal_13 : decode cL_repeal 13 = .ok (.iconst 1, 1) := by decide +kernel
theorem dL_repeal_14 : decode cL_repeal 14 = .ok (.ireturn, 1) := by decide +kernel
theorem dL_repeal_15 : decode cL_repeal 15 = .ok (.iconst 0, 1) := by decide +kernel
theorem dL_repeal_16 : decode cL_repeal 16 = .ok (.ireturn, 1) := by decide +kernel
theorem dL_advance_0 : decode cL_advance 0 = .ok (.aload_n 2, 1) := by decide +kernel
theorem dL_advance_1 : decode cL_advance 1 = .ok (.iconst 0, 1) := by decide +kernel
theorem dL_advance_2 : decode cL_advance 2 = .ok (.aload_n 0, 1) := by decide +kernel
theorem dL_advance_3 : decode cL_advance 3 = .ok (.iload_n 1, 1) := by decide +kernel
theorem dL_advance_4 : decode cL_advance 4 = .ok (.invokevirtual 47, 3) := by decide +kernel
theorem dL_advance_7 : decode cL_advance 7 = .ok (.i2l, 1) := by decide +kernel
theorem dL_advance_8 : decode cL_advance 8 = .ok (.lastore, 1) := by decide +kernel
theorem dL_advance_9 : decode cL_advance 9 = .ok (.goto 6, 3) := by decide +kernel
theorem dL_advance_12 : decode cL_advance 12 = .ok (.astore_n 3, 1) := by decide +kernel
theorem dL_advance_13 : decode cL_advance 13 = .ok (.iconst 1, 1) := by decide +kernel
theorem dL_advance_14 : decode cL_advance 14 = .ok (.ireturn, 1) := by decide +kernel
theorem dL_advance_15 : decode cL_advance 15 = .ok (.iconst 0, 1) := by decide +kernel
theorem dL_advance_16 : decode cL_advance 16 = .ok (.ireturn, 1) := by decide +kernel
theorem dL_clauseAt_0 : decode cL_clauseAt 0 = .ok (.aload_n 2, 1) := by decide +kernel
theorem dL_clauseAt_1 : decode cL_clauseAt 1 = .ok (.iconst 0, 1) := by decide +kernel
theorem dL_clauseAt_2 : decode cL_clauseAt 2 = .ok (.aload_n 0, 1) := by decide +kernel
theorem dL_clauseAt_3 : decode cL_clauseAt 3 = .ok (.iload_n 1, 1) := by decide +kernel
theorem dL_clauseAt_4 : decode cL_clauseAt 4 = .ok (.invokevirtual 50, 3) := by decide +kernel
theorem dL_clauseAt_7 : decode cL_clauseAt 7 = .ok (.i2l, 1) := by decide +kernel
theorem dL_clauseAt_8 : decode cL_clauseAt 8 = .ok (.lastore, 1) := by decide +kernel
theorem dL_clauseAt_9 : decode cL_clauseAt 9 = .ok (.goto 6, 3) := by decide +kernel
theorem dL_clauseAt_12 : decode cL_clauseAt 12 = .ok (.astore_n 3, 1) := by decide +kernel
theorem dL_clauseAt_13 : decode cL_clauseAt 13 = .ok (.iconst 1, 1) := by decide +kernel
theorem dL_clauseAt_14 : decode cL_clauseAt 14 = .ok (.ireturn, 1) := by decide +kernel
theorem dL_clauseAt_15 : decode cL_clauseAt 15 = .ok (.iconst 0, 1) := by decide +kernel
theorem dL_clauseAt_16 : decode cL_clauseAt 16 = .ok (.ireturn, 1) := by decide +kernel
theorem dL_clauseOfSection_0 : decode cL_clauseOfSection 0 = .ok (.aload_n 2, 1) := by decide +kernel
theorem dL_clauseOfSection_1 : decode cL_clauseOfSection 1 = .ok (.iconst 0, 1) := by decide +kernel
theorem dL_clauseOfSection_2 : decode cL_clauseOfSection 2 = .ok (.aload_n 0, 1) := by decide +kernel
theorem dL_clauseOfSection_3 : decode cL_clauseOfSection 3 = .ok (.iload_n 1, 1) := by decide +kernel
theorem dL_clauseOfSection_4 : decode cL_clauseOfSection 4 = .ok (.invokevirtual 53, 3) := by decide +kernel
theorem dL_clauseOfSection_7 : decode cL_clauseOfSection 7 = .ok (.i2l, 1) := by decide +kernel
theorem dL_clauseOfSection_8 : decode cL_clauseOfSection 8 = .ok (.lastore, 1) := by decide +kernel
theorem dL_clauseOfSection_9 : decode cL_clauseOfSection 9 = .ok (.goto 6, 3) := by decide +kernel
theorem dL_clauseOfSection_12 : decode cL_clauseOfSection 12 = .ok (.astore_n 3, 1) := by decide +kernel
theorem dL_clauseOfSection_13 : decode cL_clauseOfSection 13 = .ok (.iconst 1, 1) := by decide +kernel
theorem dL_clauseOfSection_14 : decode cL_clauseOfSection 14 = .ok (.ireturn, 1) := by decide +kernel
theorem dL_clauseOfSection_15 : decode cL_clauseOfSection 15 = .ok (.iconst 0, 1) := by decide +kernel
theorem dL_clauseOfSection_16 : decode cL_clauseOfSection 16 = .ok (.ireturn, 1) := by decide +kernel
theorem dL_section_0 : decode cL_section 0 = .ok (.aload_n 2, 1) := by decide +kernel
theorem dL_section_1 : decode cL_section 1 = .ok (.iconst 0, 1) := by decide +kernel
theorem dL_section_2 : decode cL_section 2 = .ok (.aload_n 0, 1) := by decide +kernel
theorem dL_section_3 : decode cL_section 3 = .ok (.iload_n 1, 1) := by decide +kernel
theorem dL_section_4 : decode cL_section 4 = .ok (.invokevirtual 56, 3) := by decide +kernel
theorem dL_section_7 : decode cL_section 7 = .ok (.i2l, 1) := by decide +kernel
theorem dL_section_8 : decode cL_section 8 = .ok (.lastore, 1) := by decide +kernel
theorem dL_section_9 : decode cL_section 9 = .ok (.goto 6, 3) := by decide +kernel
theorem dL_section_12 : decode cL_section 12 = .ok (.astore_n 3, 1) := by decide +kernel
theorem dL_section_13 : decode cL_section 13 = .ok (.iconst 1, 1) := by decide +kernel
theorem dL_section_14 : decode cL_section 14 = .ok (.ireturn, 1) := by decide +kernel
theorem dL_section_15 : decode cL_section 15 = .ok (.iconst 0, 1) := by decide +kernel
theorem dL_section_16 : decode cL_section 16 = .ok (.ireturn, 1) := by decide +kernel
theorem dL_enactedOn_0 : decode cL_enactedOn 0 = .ok (.aload_n 2, 1) := by decide +kernel
theorem dL_enactedOn_1 : decode cL_enactedOn 1 = .ok (.iconst 0, 1) := by decide +kernel
theorem dL_enactedOn_2 : decode cL_enactedOn 2 = .ok (.aload_n 0, 1) := by decide +kernel
theorem dL_enactedOn_3 : decode cL_enactedOn 3 = .ok (.iload_n 1, 1) := by decide +kernel
theorem dL_enactedOn_4 : decode cL_enactedOn 4 = .ok (.invokevirtual 59, 3) := by decide +kernel
theorem dL_enactedOn_7 : decode cL_enactedOn 7 = .ok (.i2l, 1) := by decide +kernel
theorem dL_enactedOn_8 : decode cL_enactedOn 8 = .ok (.lastore, 1) := by decide +kernel
theorem dL_enactedOn_9 : decode cL_enactedOn 9 = .ok (.goto 6, 3) := by decide +kernel
theorem dL_enactedOn_12 : decode cL_enactedOn 12 = .ok (.astore_n 3, 1) := by decide +kernel
theorem dL_enactedOn_13 : decode cL_enactedOn 13 = .ok (.iconst 1, 1) := by decide +kernel
theorem dL_enactedOn_14 : decode cL_enactedOn 14 = .ok (.ireturn, 1) := by decide +kernel
theorem dL_enactedOn_15 : decode cL_enactedOn 15 = .ok (.iconst 0, 1) := by decide +kernel
theorem dL_enactedOn_16 : decode cL_enactedOn 16 = .ok (.ireturn, 1) := by decide +kernel
theorem dL_sunset_0 : decode cL_sunset 0 = .ok (.aload_n 2, 1) := by decide +kernel
theorem dL_sunset_1 : decode cL_sunset 1 = .ok (.iconst 0, 1) := by decide +kernel
theorem dL_sunset_2 : decode cL_sunset 2 = .ok (.aload_n 0, 1) := by decide +kernel
theorem dL_sunset_3 : decode cL_sunset 3 = .ok (.iload_n 1, 1) := by decide +kernel
theorem dL_sunset_4 : decode cL_sunset 4 = .ok (.invokevirtual 62, 3) := by decide +kernel
theorem dL_sunset_7 : decode cL_sunset 7 = .ok (.i2l, 1) := by decide +kernel
theorem dL_sunset_8 : decode cL_sunset 8 = .ok (.lastore, 1) := by decide +kernel
theorem dL_sunset_9 : decode cL_sunset 9 = .ok (.goto 6, 3) := by decide +kernel
theorem dL_sunset_12 : decode cL_sunset 12 = .ok (.astore_n 3, 1) := by decide +kernel
theorem dL_sunset_13 : decode cL_sunset 13 = .ok (.iconst 1, 1) := by decide +kernel
theorem dL_sunset_14 : decode cL_sunset 14 = .ok (.ireturn, 1) := by decide +kernel
theorem dL_sunset_15 : decode cL_sunset 15 = .ok (.iconst 0, 1) := by decide +kernel
theorem dL_sunset_16 : decode cL_sunset 16 = .ok (.ireturn, 1) := by decide +kernel
theorem dL_isInForce_0 : decode cL_isInForce 0 = .ok (.aload_n 3, 1) := by decide +kernel
theorem dL_isInForce_1 : decode cL_isInForce 1 = .ok (.iconst 0, 1) := by decide +kernel
theorem dL_isInForce_2 : decode cL_isInForce 2 = .ok (.aload_n 0, 1) := by decide +kernel
theorem dL_isInForce_3 : decode cL_isInForce 3 = .ok (.iload_n 1, 1) := by decide +kernel
theorem dL_isInForce_4 : decode cL_isInForce 4 = .ok (.iload_n 2, 1) := by decide +kernel
theorem dL_isInForce_5 : decode cL_isInForce 5 = .ok (.invokevirtual 65, 3) := by decide +kernel
theorem dL_isInForce_8 : decode cL_isInForce 8 = .ok (.ifCond .eq 7, 3) := by decide +kernel
theorem dL_isInForce_11 : decode cL_isInForce 11 = .ok (.lconst 1, 1) := by decide +kernel
theorem dL_isInForce_12 : decode cL_isInForce 12 = .ok (.goto 4, 3) := by decide +kernel
theorem dL_isInForce_15 : decode cL_isInForce 15 = .ok (.lconst 0, 1) := by decide +kernel
theorem dL_isInForce_16 : decode cL_isInForce 16 = .ok (.lastore, 1) := by decide +kernel
theorem dL_isInForce_17 : decode cL_isInForce 17 = .ok (.goto 7, 3) := by decide +kernel
theorem dL_isInForce_20 : decode cL_isInForce 20 = .ok (.astore 4, 2) := by decide +kernel
theorem dL_isInForce_22 : decode cL_isInForce 22 = .ok (.iconst 1, 1) := by decide +kernel
theorem dL_isInForce_23 : decode cL_isInForce 23 = .ok (.ireturn, 1) := by decide +kernel
theorem dL_isInForce_24 : decode cL_isInForce 24 = .ok (.iconst 0, 1) := by decide +kernel
theorem dL_isInForce_25 : decode cL_isInForce 25 = .ok (.ireturn, 1) := by decide +kernel
theorem dL_hasLapsed_0 : decode cL_hasLapsed 0 = .ok (.aload_n 2, 1) := by decide +kernel
theorem dL_hasLapsed_1 : decode cL_hasLapsed 1 = .ok (.iconst 0, 1) := by decide +kernel
theorem dL_hasLapsed_2 : decode cL_hasLapsed 2 = .ok (.aload_n 0, 1) := by decide +kernel
theorem dL_hasLapsed_3 : decode cL_hasLapsed 3 = .ok (.iload_n 1, 1) := by decide +kernel
theorem dL_hasLapsed_4 : decode cL_hasLapsed 4 = .ok (.invokevirtual 69, 3) := by decide +kernel
theorem dL_hasLapsed_7 : decode cL_hasLapsed 7 = .ok (.ifCond .eq 7, 3) := by decide +kernel
theorem dL_hasLapsed_10 : decode cL_hasLapsed 10 = .ok (.lconst 1, 1) := by decide +kernel
theorem dL_hasLapsed_11 : decode cL_hasLapsed 11 = .ok (.goto 4, 3) := by decide +kernel
theorem dL_hasLapsed_14 : decode cL_hasLapsed 14 = .ok (.lconst 0, 1) := by decide +kernel
theorem dL_hasLapsed_15 : decode cL_hasLapsed 15 = .ok (.lastore, 1) := by decide +kernel
theorem dL_hasLapsed_16 : decode cL_hasLapsed 16 = .ok (.goto 6, 3) := by decide +kernel
theorem dL_hasLapsed_19 : decode cL_hasLapsed 19 = .ok (.astore_n 3, 1) := by decide +kernel
theorem dL_hasLapsed_20 : decode cL_hasLapsed 20 = .ok (.iconst 1, 1) := by decide +kernel
theorem dL_hasLapsed_21 : decode cL_hasLapsed 21 = .ok (.ireturn, 1) := by decide +kernel
theorem dL_hasLapsed_22 : decode cL_hasLapsed 22 = .ok (.iconst 0, 1) := by decide +kernel
theorem dL_hasLapsed_23 : decode cL_hasLapsed 23 = .ok (.ireturn, 1) := by decide +kernel
theorem dL_daysUntilLapsed_0 : decode cL_daysUntilLapsed 0 = .ok (.aload_n 2, 1) := by decide +kernel
theorem dL_daysUntilLapsed_1 : decode cL_daysUntilLapsed 1 = .ok (.iconst 0, 1) := by decide +kernel
theorem dL_daysUntilLapsed_2 : decode cL_daysUntilLapsed 2 = .ok (.aload_n 0, 1) := by decide +kernel
theorem dL_daysUntilLapsed_3 : decode cL_daysUntilLapsed 3 = .ok (.iload_n 1, 1) := by decide +kernel
theorem dL_daysUntilLapsed_4 : decode cL_daysUntilLapsed 4 = .ok (.invokevirtual 73, 3) := by decide +kernel
theorem dL_daysUntilLapsed_7 : decode cL_daysUntilLapsed 7 = .ok (.i2l, 1) := by decide +kernel
theorem dL_daysUntilLapsed_8 : decode cL_daysUntilLapsed 8 = .ok (.lastore, 1) := by decide +kernel
theorem dL_daysUntilLapsed_9 : decode cL_daysUntilLapsed 9 = .ok (.goto 6, 3) := by decide +kernel
theorem dL_daysUntilLapsed_12 : decode cL_daysUntilLapsed 12 = .ok (.astore_n 3, 1) := by decide +kernel
theorem dL_daysUntilLapsed_13 : decode cL_daysUntilLapsed 13 = .ok (.iconst 1, 1) := by decide +kernel
theorem dL_daysUntilLapsed_14 : decode cL_daysUntilLapsed 14 = .ok (.ireturn, 1) := by decide +kernel
theorem dL_daysUntilLapsed_15 : decode cL_daysUntilLapsed 15 = .ok (.iconst 0, 1) := by decide +kernel
theorem dL_daysUntilLapsed_16 : decode cL_daysUntilLapsed 16 = .ok (.ireturn, 1) := by decide +kernel
theorem dL_length_0 : decode cL_length 0 = .ok (.aload_n 2, 1) := by decide +kernel
theorem dL_length_1 : decode cL_length 1 = .ok (.iconst 0, 1) := by decide +kernel
theorem dL_length_2 : decode cL_length 2 = .ok (.aload_n 0, 1) := by decide +kernel
theorem dL_length_3 : decode cL_length 3 = .ok (.iload_n 1, 1) := by decide +kernel
theorem dL_length_4 : decode cL_length 4 = .ok (.invokevirtual 76, 3) := by decide +kernel
theorem dL_length_7 : decode cL_length 7 = .ok (.i2l, 1) := by decide +kernel
theorem dL_length_8 : decode cL_length 8 = .ok (.lastore, 1) := by decide +kernel
theorem dL_length_9 : decode cL_length 9 = .ok (.goto 6, 3) := by decide +kernel
theorem dL_length_12 : decode cL_length 12 = .ok (.astore_n 3, 1) := by decide +kernel
theorem dL_length_13 : decode cL_length 13 = .ok (.iconst 1, 1) := by decide +kernel
theorem dL_length_14 : decode cL_length 14 = .ok (.ireturn, 1) := by decide +kernel
theorem dL_length_15 : decode cL_length 15 = .ok (.iconst 0, 1) := by decide +kernel
theorem dL_length_16 : decode cL_length 16 = .ok (.ireturn, 1) := by decide +kernel
theorem dL_noteAt_0 : decode cL_noteAt 0 = .ok (.aload_n 3, 1) := by decide +kernel
theorem dL_noteAt_1 : decode cL_noteAt 1 = .ok (.iconst 0, 1) := by decide +kernel
theorem dL_noteAt_2 : decode cL_noteAt 2 = .ok (.aload_n 0, 1) := by decide +kernel
theorem dL_noteAt_3 : decode cL_noteAt 3 = .ok (.iload_n 1, 1) := by decide +kernel
theorem dL_noteAt_4 : decode cL_noteAt 4 = .ok (.iload_n 2, 1) := by decide +kernel
theorem dL_noteAt_5 : decode cL_noteAt 5 = .ok (.invokevirtual 79, 3) := by decide +kernel
theorem dL_noteAt_8 : decode cL_noteAt 8 = .ok (.i2l, 1) := by decide +kernel
theorem dL_noteAt_9 : decode cL_noteAt 9 = .ok (.lastore, 1) := by decide +kernel
theorem dL_noteAt_10 : decode cL_noteAt 10 = .ok (.goto 11, 3) := by decide +kernel
theorem dL_noteAt_13 : decode cL_noteAt 13 = .ok (.astore 4, 2) := by decide +kernel
theorem dL_noteAt_15 : decode cL_noteAt 15 = .ok (.iconst 1, 1) := by decide +kernel
theorem dL_noteAt_16 : decode cL_noteAt 16 = .ok (.ireturn, 1) := by decide +kernel
theorem dL_noteAt_17 : decode cL_noteAt 17 = .ok (.astore 4, 2) := by decide +kernel
theorem dL_noteAt_19 : decode cL_noteAt 19 = .ok (.iconst 2, 1) := by decide +kernel
theorem dL_noteAt_20 : decode cL_noteAt 20 = .ok (.ireturn, 1) := by decide +kernel
theorem dL_noteAt_21 : decode cL_noteAt 21 = .ok (.iconst 0, 1) := by decide +kernel
theorem dL_noteAt_22 : decode cL_noteAt 22 = .ok (.ireturn, 1) := by decide +kernel
theorem dL_versionCount_0 : decode cL_versionCount 0 = .ok (.aload_n 2, 1) := by decide +kernel
theorem dL_versionCount_1 : decode cL_versionCount 1 = .ok (.iconst 0, 1) := by decide +kernel
theorem dL_versionCount_2 : decode cL_versionCount 2 = .ok (.aload_n 0, 1) := by decide +kernel
theorem dL_versionCount_3 : decode cL_versionCount 3 = .ok (.iload_n 1, 1) := by decide +kernel
theorem dL_versionCount_4 : decode cL_versionCount 4 = .ok (.invokevirtual 83, 3) := by decide +kernel
theorem dL_versionCount_7 : decode cL_versionCount 7 = .ok (.i2l, 1) := by decide +kernel
theorem dL_versionCount_8 : decode cL_versionCount 8 = .ok (.lastore, 1) := by decide +kernel
theorem dL_versionCount_9 : decode cL_versionCount 9 = .ok (.goto 6, 3) := by decide +kernel
theorem dL_versionCount_12 : decode cL_versionCount 12 = .ok (.astore_n 3, 1) := by decide +kernel
theorem dL_versionCount_13 : decode cL_versionCount 13 = .ok (.iconst 1, 1) := by decide +kernel
theorem dL_versionCount_14 : decode cL_versionCount 14 = .ok (.ireturn, 1) := by decide +kernel
theorem dL_versionCount_15 : decode cL_versionCount 15 = .ok (.iconst 0, 1) := by decide +kernel
theorem dL_versionCount_16 : decode cL_versionCount 16 = .ok (.ireturn, 1) := by decide +kernel
theorem dL_lengthOn_0 : decode cL_lengthOn 0 = .ok (.aload_n 3, 1) := by decide +kernel
theorem dL_lengthOn_1 : decode cL_lengthOn 1 = .ok (.iconst 0, 1) := by decide +kernel
theorem dL_lengthOn_2 : decode cL_lengthOn 2 = .ok (.aload_n 0, 1) := by decide +kernel
theorem dL_lengthOn_3 : decode cL_lengthOn 3 = .ok (.iload_n 1, 1) := by decide +kernel
theorem dL_lengthOn_4 : decode cL_lengthOn 4 = .ok (.iload_n 2, 1) := by decide +kernel
theorem dL_lengthOn_5 : decode cL_lengthOn 5 = .ok (.invokevirtual 86, 3) := by decide +kernel
theorem dL_lengthOn_8 : decode cL_lengthOn 8 = .ok (.i2l, 1) := by decide +kernel
theorem dL_lengthOn_9 : decode cL_lengthOn 9 = .ok (.lastore, 1) := by decide +kernel
theorem dL_lengthOn_10 : decode cL_lengthOn 10 = .ok (.goto 7, 3) := by decide +kernel
theorem dL_lengthOn_13 : decode cL_lengthOn 13 = .ok (.astore 4, 2) := by decide +kernel
theorem dL_lengthOn_15 : decode cL_lengthOn 15 = .ok (.iconst 1, 1) := by decide +kernel
theorem dL_lengthOn_16 : decode cL_lengthOn 16 = .ok (.ireturn, 1) := by decide +kernel
theorem dL_lengthOn_17 : decode cL_lengthOn 17 = .ok (.iconst 0, 1) := by decide +kernel
theorem dL_lengthOn_18 : decode cL_lengthOn 18 = .ok (.ireturn, 1) := by decide +kernel
theorem dL_noteOn_0 : decode cL_noteOn 0 = .ok (.aload 4, 2) := by decide +kernel
theorem dL_noteOn_2 : decode cL_noteOn 2 = .ok (.iconst 0, 1) := by decide +kernel
theorem dL_noteOn_3 : decode cL_noteOn 3 = .ok (.aload_n 0, 1) := by decide +kernel
theorem dL_noteOn_4 : decode cL_noteOn 4 = .ok (.iload_n 1, 1) := by decide +kernel
theorem dL_noteOn_5 : decode cL_noteOn 5 = .ok (.iload_n 2, 1) := by decide +kernel
theorem dL_noteOn_6 : decode cL_noteOn 6 = .ok (.iload_n 3, 1) := by decide +kernel
theorem dL_noteOn_7 : decode cL_noteOn 7 = .ok (.invokevirtual 89, 3) := by decide +kernel
theorem dL_noteOn_10 : decode cL_noteOn 10 = .ok (.i2l, 1) := by decide +kernel
theorem dL_noteOn_11 : decode cL_noteOn 11 = .ok (.lastore, 1) := by decide +kernel
theorem dL_noteOn_12 : decode cL_noteOn 12 = .ok (.goto 11, 3) := by decide +kernel
theorem dL_noteOn_15 : decode cL_noteOn 15 = .ok (.astore 5, 2) := by decide +kernel
theorem dL_noteOn_17 : decode cL_noteOn 17 = .ok (.iconst 1, 1) := by decide +kernel
theorem dL_noteOn_18 : decode cL_noteOn 18 = .ok (.ireturn, 1) := by decide +kernel
theorem dL_noteOn_19 : decode cL_noteOn 19 = .ok (.astore 5, 2) := by decide +kernel
theorem dL_noteOn_21 : decode cL_noteOn 21 = .ok (.iconst 2, 1) := by decide +kernel
theorem dL_noteOn_22 : decode cL_noteOn 22 = .ok (.ireturn, 1) := by decide +kernel
theorem dL_noteOn_23 : decode cL_noteOn 23 = .ok (.iconst 0, 1) := by decide +kernel
theorem dL_noteOn_24 : decode cL_noteOn 24 = .ok (.ireturn, 1) := by decide +kernel
theorem dL_difference_0 : decode cL_difference 0 = .ok (.aload 4, 2) := by decide +kernel
theorem dL_difference_2 : decode cL_difference 2 = .ok (.iconst 0, 1) := by decide +kernel
theorem dL_difference_3 : decode cL_difference 3 = .ok (.aload_n 0, 1) := by decide +kernel
theorem dL_difference_4 : decode cL_difference 4 = .ok (.iload_n 1, 1) := by decide +kernel
theorem dL_difference_5 : decode cL_difference 5 = .ok (.iload_n 2, 1) := by decide +kernel
theorem dL_difference_6 : decode cL_difference 6 = .ok (.iload_n 3, 1) := by decide +kernel
theorem dL_difference_7 : decode cL_difference 7 = .ok (.invokevirtual 93, 3) := by decide +kernel
theorem dL_difference_10 : decode cL_difference 10 = .ok (.i2l, 1) := by decide +kernel
theorem dL_difference_11 : decode cL_difference 11 = .ok (.lastore, 1) := by decide +kernel
theorem dL_difference_12 : decode cL_difference 12 = .ok (.goto 7, 3) := by decide +kernel
theorem dL_difference_15 : decode cL_difference 15 = .ok (.astore 5, 2) := by decide +kernel
theorem dL_difference_17 : decode cL_difference 17 = .ok (.iconst 1, 1) := by decide +kernel
theorem dL_difference_18 : decode cL_difference 18 = .ok (.ireturn, 1) := by decide +kernel
theorem dL_difference_19 : decode cL_difference 19 = .ok (.iconst 0, 1) := by decide +kernel
theorem dL_difference_20 : decode cL_difference 20 = .ok (.ireturn, 1) := by decide +kernel
theorem dL_differenceByEnds_0 : decode cL_differenceByEnds 0 = .ok (.aload 4, 2) := by decide +kernel
theorem dL_differenceByEnds_2 : decode cL_differenceByEnds 2 = .ok (.iconst 0, 1) := by decide +kernel
theorem dL_differenceByEnds_3 : decode cL_differenceByEnds 3 = .ok (.aload_n 0, 1) := by decide +kernel
theorem dL_differenceByEnds_4 : decode cL_differenceByEnds 4 = .ok (.iload_n 1, 1) := by decide +kernel
theorem dL_differenceByEnds_5 : decode cL_differenceByEnds 5 = .ok (.iload_n 2, 1) := by decide +kernel
theorem dL_differenceByEnds_6 : decode cL_differenceByEnds 6 = .ok (.iload_n 3, 1) := by decide +kernel
theorem dL_differenceByEnds_7 : decode cL_differenceByEnds 7 = .ok (.invokevirtual 97, 3) := by decide +kernel
theorem dL_differenceByEnds_10 : decode cL_differenceByEnds 10 = .ok (.i2l, 1) := by decide +kernel
theorem dL_differenceByEnds_11 : decode cL_differenceByEnds 11 = .ok (.lastore, 1) := by decide +kernel
theorem dL_differenceByEnds_12 : decode cL_differenceByEnds 12 = .ok (.goto 7, 3) := by decide +kernel
theorem dL_differenceByEnds_15 : decode cL_differenceByEnds 15 = .ok (.astore 5, 2) := by decide +kernel
theorem dL_differenceByEnds_17 : decode cL_differenceByEnds 17 = .ok (.iconst 1, 1) := by decide +kernel
theorem dL_differenceByEnds_18 : decode cL_differenceByEnds 18 = .ok (.ireturn, 1) := by decide +kernel
theorem dL_differenceByEnds_19 : decode cL_differenceByEnds 19 = .ok (.iconst 0, 1) := by decide +kernel
theorem dL_differenceByEnds_20 : decode cL_differenceByEnds 20 = .ok (.ireturn, 1) := by decide +kernel
theorem dL_citeCount_0 : decode cL_citeCount 0 = .ok (.aload_n 2, 1) := by decide +kernel
theorem dL_citeCount_1 : decode cL_citeCount 1 = .ok (.iconst 0, 1) := by decide +kernel
theorem dL_citeCount_2 : decode cL_citeCount 2 = .ok (.aload_n 0, 1) := by decide +kernel
theorem dL_citeCount_3 : decode cL_citeCount 3 = .ok (.iload_n 1, 1) := by decide +kernel
theorem dL_citeCount_4 : decode cL_citeCount 4 = .ok (.invokevirtual 100, 3) := by decide +kernel
theorem dL_citeCount_7 : decode cL_citeCount 7 = .ok (.i2l, 1) := by decide +kernel
theorem dL_citeCount_8 : decode cL_citeCount 8 = .ok (.lastore, 1) := by decide +kernel
theorem dL_citeCount_9 : decode cL_citeCount 9 = .ok (.goto 6, 3) := by decide +kernel
theorem dL_citeCount_12 : decode cL_citeCount 12 = .ok (.astore_n 3, 1) := by decide +kernel
theorem dL_citeCount_13 : decode cL_citeCount 13 = .ok (.iconst 1, 1) := by decide +kernel
theorem dL_citeCount_14 : decode cL_citeCount 14 = .ok (.ireturn, 1) := by decide +kernel
theorem dL_citeCount_15 : decode cL_citeCount 15 = .ok (.iconst 0, 1) := by decide +kernel
theorem dL_citeCount_16 : decode cL_citeCount 16 = .ok (.ireturn, 1) := by decide +kernel
theorem dL_citeAt_0 : decode cL_citeAt 0 = .ok (.aload_n 3, 1) := by decide +kernel
theorem dL_citeAt_1 : decode cL_citeAt 1 = .ok (.iconst 0, 1) := by decide +kernel
theorem dL_citeAt_2 : decode cL_citeAt 2 = .ok (.aload_n 0, 1) := by decide +kernel
theorem dL_citeAt_3 : decode cL_citeAt 3 = .ok (.iload_n 1, 1) := by decide +kernel
theorem dL_citeAt_4 : decode cL_citeAt 4 = .ok (.iload_n 2, 1) := by decide +kernel
theorem dL_citeAt_5 : decode cL_citeAt 5 = .ok (.invokevirtual 103, 3) := by decide +kernel
theorem dL_citeAt_8 : decode cL_citeAt 8 = .ok (.i2l, 1) := by decide +kernel
theorem dL_citeAt_9 : decode cL_citeAt 9 = .ok (.lastore, 1) := by decide +kernel
theorem dL_citeAt_10 : decode cL_citeAt 10 = .ok (.goto 11, 3) := by decide +kernel
theorem dL_citeAt_13 : decode cL_citeAt 13 = .ok (.astore 4, 2) := by decide +kernel
theorem dL_citeAt_15 : decode cL_citeAt 15 = .ok (.iconst 1, 1) := by decide +kernel
theorem dL_citeAt_16 : decode cL_citeAt 16 = .ok (.ireturn, 1) := by decide +kernel
theorem dL_citeAt_17 : decode cL_citeAt 17 = .ok (.astore 4, 2) := by decide +kernel
theorem dL_citeAt_19 : decode cL_citeAt 19 = .ok (.iconst 2, 1) := by decide +kernel
theorem dL_citeAt_20 : decode cL_citeAt 20 = .ok (.ireturn, 1) := by decide +kernel
theorem dL_citeAt_21 : decode cL_citeAt 21 = .ok (.iconst 0, 1) := by decide +kernel
theorem dL_citeAt_22 : decode cL_citeAt 22 = .ok (.ireturn, 1) := by decide +kernel
theorem dL_citesIndirectly_0 : decode cL_citesIndirectly 0 = .ok (.aload_n 3, 1) := by decide +kernel
theorem dL_citesIndirectly_1 : decode cL_citesIndirectly 1 = .ok (.iconst 0, 1) := by decide +kernel
theorem dL_citesIndirectly_2 : decode cL_citesIndirectly 2 = .ok (.aload_n 0, 1) := by decide +kernel
theorem dL_citesIndirectly_3 : decode cL_citesIndirectly 3 = .ok (.iload_n 1, 1) := by decide +kernel
theorem dL_citesIndirectly_4 : decode cL_citesIndirectly 4 = .ok (.iload_n 2, 1) := by decide +kernel
theorem dL_citesIndirectly_5 : decode cL_citesIndirectly 5 = .ok (.invokevirtual 106, 3) := by decide +kernel
theorem dL_citesIndirectly_8 : decode cL_citesIndirectly 8 = .ok (.ifCond .eq 7, 3) := by decide +kernel
theorem dL_citesIndirectly_11 : decode cL_citesIndirectly 11 = .ok (.lconst 1, 1) := by decide +kernel
theorem dL_citesIndirectly_12 : decode cL_citesIndirectly 12 = .ok (.goto 4, 3) := by decide +kernel
theorem dL_citesIndirectly_15 : decode cL_citesIndirectly 15 = .ok (.lconst 0, 1) := by decide +kernel
theorem dL_citesIndirectly_16 : decode cL_citesIndirectly 16 = .ok (.lastore, 1) := by decide +kernel
theorem dL_citesIndirectly_17 : decode cL_citesIndirectly 17 = .ok (.goto 7, 3) := by decide +kernel
theorem dL_citesIndirectly_20 : decode cL_citesIndirectly 20 = .ok (.astore 4, 2) := by decide +kernel
theorem dL_citesIndirectly_22 : decode cL_citesIndirectly 22 = .ok (.iconst 1, 1) := by decide +kernel
theorem dL_citesIndirectly_23 : decode cL_citesIndirectly 23 = .ok (.ireturn, 1) := by decide +kernel
theorem dL_citesIndirectly_24 : decode cL_citesIndirectly 24 = .ok (.iconst 0, 1) := by decide +kernel
theorem dL_citesIndirectly_25 : decode cL_citesIndirectly 25 = .ok (.ireturn, 1) := by decide +kernel
theorem dL_citesByClosure_0 : decode cL_citesByClosure 0 = .ok (.aload_n 3, 1) := by decide +kernel
theorem dL_citesByClosure_1 : decode cL_citesByClosure 1 = .ok (.iconst 0, 1) := by decide +kernel
theorem dL_citesByClosure_2 : decode cL_citesByClosure 2 = .ok (.aload_n 0, 1) := by decide +kernel
theorem dL_citesByClosure_3 : decode cL_citesByClosure 3 = .ok (.iload_n 1, 1) := by decide +kernel
theorem dL_citesByClosure_4 : decode cL_citesByClosure 4 = .ok (.iload_n 2, 1) := by decide +kernel
theorem dL_citesByClosure_5 : decode cL_citesByClosure 5 = .ok (.invokevirtual 109, 3) := by decide +kernel
theorem dL_citesByClosure_8 : decode cL_citesByClosure 8 = .ok (.ifCond .eq 7, 3) := by decide +kernel
theorem dL_citesByClosure_11 : decode cL_citesByClosure 11 = .ok (.lconst 1, 1) := by decide +kernel
theorem dL_citesByClosure_12 : decode cL_citesByClosure 12 = .ok (.goto 4, 3) := by decide +kernel
theorem dL_citesByClosure_15 : decode cL_citesByClosure 15 = .ok (.lconst 0, 1) := by decide +kernel
theorem dL_citesByClosure_16 : decode cL_citesByClosure 16 = .ok (.lastore, 1) := by decide +kernel
theorem dL_citesByClosure_17 : decode cL_citesByClosure 17 = .ok (.goto 7, 3) := by decide +kernel
theorem dL_citesByClosure_20 : decode cL_citesByClosure 20 = .ok (.astore 4, 2) := by decide +kernel
theorem dL_citesByClosure_22 : decode cL_citesByClosure 22 = .ok (.iconst 1, 1) := by decide +kernel
theorem dL_citesByClosure_23 : decode cL_citesByClosure 23 = .ok (.ireturn, 1) := by decide +kernel
theorem dL_citesByClosure_24 : decode cL_citesByClosure 24 = .ok (.iconst 0, 1) := by decide +kernel
theorem dL_citesByClosure_25 : decode cL_citesByClosure 25 = .ok (.ireturn, 1) := by decide +kernel
theorem dL_clauseByCites_0 : decode cL_clauseByCites 0 = .ok (.aload_n 2, 1) := by decide +kernel
theorem dL_clauseByCites_1 : decode cL_clauseByCites 1 = .ok (.iconst 0, 1) := by decide +kernel
theorem dL_clauseByCites_2 : decode cL_clauseByCites 2 = .ok (.aload_n 0, 1) := by decide +kernel
theorem dL_clauseByCites_3 : decode cL_clauseByCites 3 = .ok (.iload_n 1, 1) := by decide +kernel
theorem dL_clauseByCites_4 : decode cL_clauseByCites 4 = .ok (.invokevirtual 112, 3) := by decide +kernel
theorem dL_clauseByCites_7 : decode cL_clauseByCites 7 = .ok (.i2l, 1) := by decide +kernel
theorem dL_clauseByCites_8 : decode cL_clauseByCites 8 = .ok (.lastore, 1) := by decide +kernel
theorem dL_clauseByCites_9 : decode cL_clauseByCites 9 = .ok (.goto 6, 3) := by decide +kernel
theorem dL_clauseByCites_12 : decode cL_clauseByCites 12 = .ok (.astore_n 3, 1) := by decide +kernel
theorem dL_clauseByCites_13 : decode cL_clauseByCites 13 = .ok (.iconst 1, 1) := by decide +kernel
theorem dL_clauseByCites_14 : decode cL_clauseByCites 14 = .ok (.ireturn, 1) := by decide +kernel
theorem dL_clauseByCites_15 : decode cL_clauseByCites 15 = .ok (.iconst 0, 1) := by decide +kernel
theorem dL_clauseByCites_16 : decode cL_clauseByCites 16 = .ok (.ireturn, 1) := by decide +kernel
theorem dL_editionDay_0 : decode cL_editionDay 0 = .ok (.aload_n 2, 1) := by decide +kernel
theorem dL_editionDay_1 : decode cL_editionDay 1 = .ok (.iconst 0, 1) := by decide +kernel
theorem dL_editionDay_2 : decode cL_editionDay 2 = .ok (.aload_n 0, 1) := by decide +kernel
theorem dL_editionDay_3 : decode cL_editionDay 3 = .ok (.iload_n 1, 1) := by decide +kernel
theorem dL_editionDay_4 : decode cL_editionDay 4 = .ok (.invokevirtual 115, 3) := by decide +kernel
theorem dL_editionDay_7 : decode cL_editionDay 7 = .ok (.i2l, 1) := by decide +kernel
theorem dL_editionDay_8 : decode cL_editionDay 8 = .ok (.lastore, 1) := by decide +kernel
theorem dL_editionDay_9 : decode cL_editionDay 9 = .ok (.goto 6, 3) := by decide +kernel
theorem dL_editionDay_12 : decode cL_editionDay 12 = .ok (.astore_n 3, 1) := by decide +kernel
theorem dL_editionDay_13 : decode cL_editionDay 13 = .ok (.iconst 1, 1) := by decide +kernel
theorem dL_editionDay_14 : decode cL_editionDay 14 = .ok (.ireturn, 1) := by decide +kernel
theorem dL_editionDay_15 : decode cL_editionDay 15 = .ok (.iconst 0, 1) := by decide +kernel
theorem dL_editionDay_16 : decode cL_editionDay 16 = .ok (.ireturn, 1) := by decide +kernel
theorem dL_meanLength_0 : decode cL_meanLength 0 = .ok (.aload_n 1, 1) := by decide +kernel
theorem dL_meanLength_1 : decode cL_meanLength 1 = .ok (.iconst 0, 1) := by decide +kernel
theorem dL_meanLength_2 : decode cL_meanLength 2 = .ok (.aload_n 0, 1) := by decide +kernel
theorem dL_meanLength_3 : decode cL_meanLength 3 = .ok (.invokevirtual 118, 3) := by decide +kernel
theorem dL_meanLength_6 : decode cL_meanLength 6 = .ok (.dastore, 1) := by decide +kernel
theorem dL_meanLength_7 : decode cL_meanLength 7 = .ok (.goto 6, 3) := by decide +kernel
theorem dL_meanLength_10 : decode cL_meanLength 10 = .ok (.astore_n 2, 1) := by decide +kernel
theorem dL_meanLength_11 : decode cL_meanLength 11 = .ok (.iconst 1, 1) := by decide +kernel
theorem dL_meanLength_12 : decode cL_meanLength 12 = .ok (.ireturn, 1) := by decide +kernel
theorem dL_meanLength_13 : decode cL_meanLength 13 = .ok (.iconst 0, 1) := by decide +kernel
theorem dL_meanLength_14 : decode cL_meanLength 14 = .ok (.ireturn, 1) := by decide +kernel
theorem dL_inForceShare_0 : decode cL_inForceShare 0 = .ok (.aload_n 1, 1) := by decide +kernel
theorem dL_inForceShare_1 : decode cL_inForceShare 1 = .ok (.iconst 0, 1) := by decide +kernel
theorem dL_inForceShare_2 : decode cL_inForceShare 2 = .ok (.aload_n 0, 1) := by decide +kernel
theorem dL_inForceShare_3 : decode cL_inForceShare 3 = .ok (.invokevirtual 124, 3) := by decide +kernel
theorem dL_inForceShare_6 : decode cL_inForceShare 6 = .ok (.f2d, 1) := by decide +kernel
theorem dL_inForceShare_7 : decode cL_inForceShare 7 = .ok (.dastore, 1) := by decide +kernel
theorem dL_inForceShare_8 : decode cL_inForceShare 8 = .ok (.goto 6, 3) := by decide +kernel
theorem dL_inForceShare_11 : decode cL_inForceShare 11 = .ok (.astore_n 2, 1) := by decide +kernel
theorem dL_inForceShare_12 : decode cL_inForceShare 12 = .ok (.iconst 1, 1) := by decide +kernel
theorem dL_inForceShare_13 : decode cL_inForceShare 13 = .ok (.ireturn, 1) := by decide +kernel
theorem dL_inForceShare_14 : decode cL_inForceShare 14 = .ok (.iconst 0, 1) := by decide +kernel
theorem dL_inForceShare_15 : decode cL_inForceShare 15 = .ok (.ireturn, 1) := by decide +kernel
theorem dL_renderClause_0 : decode cL_renderClause 0 = .ok (.aload_n 2, 1) := by decide +kernel
theorem dL_renderClause_1 : decode cL_renderClause 1 = .ok (.iconst 0, 1) := by decide +kernel
theorem dL_renderClause_2 : decode cL_renderClause 2 = .ok (.aload_n 0, 1) := by decide +kernel
theorem dL_renderClause_3 : decode cL_renderClause 3 = .ok (.iload_n 1, 1) := by decide +kernel
theorem dL_renderClause_4 : decode cL_renderClause 4 = .ok (.invokevirtual 128, 3) := by decide +kernel
theorem dL_renderClause_7 : decode cL_renderClause 7 = .ok (.i2l, 1) := by decide +kernel
theorem dL_renderClause_8 : decode cL_renderClause 8 = .ok (.lastore, 1) := by decide +kernel
theorem dL_renderClause_9 : decode cL_renderClause 9 = .ok (.goto 6, 3) := by decide +kernel
theorem dL_renderClause_12 : decode cL_renderClause 12 = .ok (.astore_n 3, 1) := by decide +kernel
theorem dL_renderClause_13 : decode cL_renderClause 13 = .ok (.iconst 1, 1) := by decide +kernel
theorem dL_renderClause_14 : decode cL_renderClause 14 = .ok (.ireturn, 1) := by decide +kernel
theorem dL_renderClause_15 : decode cL_renderClause 15 = .ok (.iconst 0, 1) := by decide +kernel
theorem dL_renderClause_16 : decode cL_renderClause 16 = .ok (.ireturn, 1) := by decide +kernel
theorem dL_outputAt_0 : decode cL_outputAt 0 = .ok (.aload_n 2, 1) := by decide +kernel
theorem dL_outputAt_1 : decode cL_outputAt 1 = .ok (.iconst 0, 1) := by decide +kernel
theorem dL_outputAt_2 : decode cL_outputAt 2 = .ok (.aload_n 0, 1) := by decide +kernel
theorem dL_outputAt_3 : decode cL_outputAt 3 = .ok (.iload_n 1, 1) := by decide +kernel
theorem dL_outputAt_4 : decode cL_outputAt 4 = .ok (.invokevirtual 131, 3) := by decide +kernel
theorem dL_outputAt_7 : decode cL_outputAt 7 = .ok (.i2l, 1) := by decide +kernel
theorem dL_outputAt_8 : decode cL_outputAt 8 = .ok (.lastore, 1) := by decide +kernel
theorem dL_outputAt_9 : decode cL_outputAt 9 = .ok (.goto 6, 3) := by decide +kernel
theorem dL_outputAt_12 : decode cL_outputAt 12 = .ok (.astore_n 3, 1) := by decide +kernel
theorem dL_outputAt_13 : decode cL_outputAt 13 = .ok (.iconst 1, 1) := by decide +kernel
theorem dL_outputAt_14 : decode cL_outputAt 14 = .ok (.ireturn, 1) := by decide +kernel
theorem dL_outputAt_15 : decode cL_outputAt 15 = .ok (.iconst 0, 1) := by decide +kernel
theorem dL_outputAt_16 : decode cL_outputAt 16 = .ok (.ireturn, 1) := by decide +kernel
theorem dL_type_0 : decode cL_type 0 = .ok (.aload_n 2, 1) := by decide +kernel
theorem dL_type_1 : decode cL_type 1 = .ok (.iconst 0, 1) := by decide +kernel
theorem dL_type_2 : decode cL_type 2 = .ok (.aload_n 0, 1) := by decide +kernel
theorem dL_type_3 : decode cL_type 3 = .ok (.iload_n 1, 1) := by decide +kernel
theorem dL_type_4 : decode cL_type 4 = .ok (.invokevirtual 135, 3) := by decide +kernel
theorem dL_type_7 : decode cL_type 7 = .ok (.i2l, 1) := by decide +kernel
theorem dL_type_8 : decode cL_type 8 = .ok (.lastore, 1) := by decide +kernel
theorem dL_type_9 : decode cL_type 9 = .ok (.goto 9, 3) := by decide +kernel
theorem dL_type_12 : decode cL_type 12 = .ok (.astore_n 3, 1) := by decide +kernel
theorem dL_type_13 : decode cL_type 13 = .ok (.iconst 1, 1) := by decide +kernel
theorem dL_type_14 : decode cL_type 14 = .ok (.ireturn, 1) := by decide +kernel
theorem dL_type_15 : decode cL_type 15 = .ok (.astore_n 3, 1) := by decide +kernel
theorem dL_type_16 : decode cL_type 16 = .ok (.iconst 2, 1) := by decide +kernel
theorem dL_type_17 : decode cL_type 17 = .ok (.ireturn, 1) := by decide +kernel
theorem dL_type_18 : decode cL_type 18 = .ok (.iconst 0, 1) := by decide +kernel
theorem dL_type_19 : decode cL_type 19 = .ok (.ireturn, 1) := by decide +kernel
theorem dL_runScript_0 : decode cL_runScript 0 = .ok (.aload_n 1, 1) := by decide +kernel
theorem dL_runScript_1 : decode cL_runScript 1 = .ok (.iconst 0, 1) := by decide +kernel
theorem dL_runScript_2 : decode cL_runScript 2 = .ok (.aload_n 0, 1) := by decide +kernel
theorem dL_runScript_3 : decode cL_runScript 3 = .ok (.invokevirtual 139, 3) := by decide +kernel
theorem dL_runScript_6 : decode cL_runScript 6 = .ok (.i2l, 1) := by decide +kernel
theorem dL_runScript_7 : decode cL_runScript 7 = .ok (.lastore, 1) := by decide +kernel
theorem dL_runScript_8 : decode cL_runScript 8 = .ok (.goto 9, 3) := by decide +kernel
theorem dL_runScript_11 : decode cL_runScript 11 = .ok (.astore_n 2, 1) := by decide +kernel
theorem dL_runScript_12 : decode cL_runScript 12 = .ok (.iconst 1, 1) := by decide +kernel
theorem dL_runScript_13 : decode cL_runScript 13 = .ok (.ireturn, 1) := by decide +kernel
theorem dL_runScript_14 : decode cL_runScript 14 = .ok (.astore_n 2, 1) := by decide +kernel
theorem dL_runScript_15 : decode cL_runScript 15 = .ok (.iconst 2, 1) := by decide +kernel
theorem dL_runScript_16 : decode cL_runScript 16 = .ok (.ireturn, 1) := by decide +kernel
theorem dL_runScript_17 : decode cL_runScript 17 = .ok (.iconst 0, 1) := by decide +kernel
theorem dL_runScript_18 : decode cL_runScript 18 = .ok (.ireturn, 1) := by decide +kernel
theorem dL_errorPosition_0 : decode cL_errorPosition 0 = .ok (.aload_n 1, 1) := by decide +kernel
theorem dL_errorPosition_1 : decode cL_errorPosition 1 = .ok (.iconst 0, 1) := by decide +kernel
theorem dL_errorPosition_2 : decode cL_errorPosition 2 = .ok (.aload_n 0, 1) := by decide +kernel
theorem dL_errorPosition_3 : decode cL_errorPosition 3 = .ok (.invokevirtual 143, 3) := by decide +kernel
theorem dL_errorPosition_6 : decode cL_errorPosition 6 = .ok (.i2l, 1) := by decide +kernel
theorem dL_errorPosition_7 : decode cL_errorPosition 7 = .ok (.lastore, 1) := by decide +kernel
theorem dL_errorPosition_8 : decode cL_errorPosition 8 = .ok (.goto 6, 3) := by decide +kernel
theorem dL_errorPosition_11 : decode cL_errorPosition 11 = .ok (.astore_n 2, 1) := by decide +kernel
theorem dL_errorPosition_12 : decode cL_errorPosition 12 = .ok (.iconst 1, 1) := by decide +kernel
theorem dL_errorPosition_13 : decode cL_errorPosition 13 = .ok (.ireturn, 1) := by decide +kernel
theorem dL_errorPosition_14 : decode cL_errorPosition 14 = .ok (.iconst 0, 1) := by decide +kernel
theorem dL_errorPosition_15 : decode cL_errorPosition 15 = .ok (.ireturn, 1) := by decide +kernel
theorem dL_failedCommand_0 : decode cL_failedCommand 0 = .ok (.aload_n 1, 1) := by decide +kernel
theorem dL_failedCommand_1 : decode cL_failedCommand 1 = .ok (.iconst 0, 1) := by decide +kernel
theorem dL_failedCommand_2 : decode cL_failedCommand 2 = .ok (.aload_n 0, 1) := by decide +kernel
theorem dL_failedCommand_3 : decode cL_failedCommand 3 = .ok (.invokevirtual 146, 3) := by decide +kernel
theorem dL_failedCommand_6 : decode cL_failedCommand 6 = .ok (.i2l, 1) := by decide +kernel
theorem dL_failedCommand_7 : decode cL_failedCommand 7 = .ok (.lastore, 1) := by decide +kernel
theorem dL_failedCommand_8 : decode cL_failedCommand 8 = .ok (.goto 6, 3) := by decide +kernel
theorem dL_failedCommand_11 : decode cL_failedCommand 11 = .ok (.astore_n 2, 1) := by decide +kernel
theorem dL_failedCommand_12 : decode cL_failedCommand 12 = .ok (.iconst 1, 1) := by decide +kernel
theorem dL_failedCommand_13 : decode cL_failedCommand 13 = .ok (.ireturn, 1) := by decide +kernel
theorem dL_failedCommand_14 : decode cL_failedCommand 14 = .ok (.iconst 0, 1) := by decide +kernel
theorem dL_failedCommand_15 : decode cL_failedCommand 15 = .ok (.ireturn, 1) := by decide +kernel
theorem dL_undo_0 : decode cL_undo 0 = .ok (.aload_n 1, 1) := by decide +kernel
theorem dL_undo_1 : decode cL_undo 1 = .ok (.iconst 0, 1) := by decide +kernel
theorem dL_undo_2 : decode cL_undo 2 = .ok (.aload_n 0, 1) := by decide +kernel
theorem dL_undo_3 : decode cL_undo 3 = .ok (.invokevirtual 149, 3) := by decide +kernel
theorem dL_undo_6 : decode cL_undo 6 = .ok (.i2l, 1) := by decide +kernel
theorem dL_undo_7 : decode cL_undo 7 = .ok (.lastore, 1) := by decide +kernel
theorem dL_undo_8 : decode cL_undo 8 = .ok (.goto 6, 3) := by decide +kernel
theorem dL_undo_11 : decode cL_undo 11 = .ok (.astore_n 2, 1) := by decide +kernel
theorem dL_undo_12 : decode cL_undo 12 = .ok (.iconst 1, 1) := by decide +kernel
theorem dL_undo_13 : decode cL_undo 13 = .ok (.ireturn, 1) := by decide +kernel
theorem dL_undo_14 : decode cL_undo 14 = .ok (.iconst 0, 1) := by decide +kernel
theorem dL_undo_15 : decode cL_undo 15 = .ok (.ireturn, 1) := by decide +kernel
theorem dL_restore_0 : decode cL_restore 0 = .ok (.aload_n 1, 1) := by decide +kernel
theorem dL_restore_1 : decode cL_restore 1 = .ok (.iconst 0, 1) := by decide +kernel
theorem dL_restore_2 : decode cL_restore 2 = .ok (.aload_n 0, 1) := by decide +kernel
theorem dL_restore_3 : decode cL_restore 3 = .ok (.invokevirtual 152, 3) := by decide +kernel
theorem dL_restore_6 : decode cL_restore 6 = .ok (.i2l, 1) := by decide +kernel
theorem dL_restore_7 : decode cL_restore 7 = .ok (.lastore, 1) := by decide +kernel
theorem dL_restore_8 : decode cL_restore 8 = .ok (.goto 6, 3) := by decide +kernel
theorem dL_restore_11 : decode cL_restore 11 = .ok (.astore_n 2, 1) := by decide +kernel
theorem dL_restore_12 : decode cL_restore 12 = .ok (.iconst 1, 1) := by decide +kernel
theorem dL_restore_13 : decode cL_restore 13 = .ok (.ireturn, 1) := by decide +kernel
theorem dL_restore_14 : decode cL_restore 14 = .ok (.iconst 0, 1) := by decide +kernel
theorem dL_restore_15 : decode cL_restore 15 = .ok (.ireturn, 1) := by decide +kernel
theorem dL_law_0 : decode cL_law 0 = .ok (.new 8, 3) := by decide +kernel
theorem dL_law_3 : decode cL_law 3 = .ok (.dup, 1) := by decide +kernel
theorem dL_law_4 : decode cL_law 4 = .ok (.invokespecial 155, 3) := by decide +kernel
theorem dL_law_7 : decode cL_law 7 = .ok (.astore_n 1, 1) := by decide +kernel
theorem dL_law_8 : decode cL_law 8 = .ok (.new 156, 3) := by decide +kernel
theorem dL_law_11 : decode cL_law 11 = .ok (.dup, 1) := by decide +kernel
theorem dL_law_12 : decode cL_law 12 = .ok (.invokespecial 158, 3) := by decide +kernel
theorem dL_law_15 : decode cL_law 15 = .ok (.astore_n 2, 1) := by decide +kernel
theorem dL_law_16 : decode cL_law 16 = .ok (.iconst 1, 1) := by decide +kernel
theorem dL_law_17 : decode cL_law 17 = .ok (.newarray .long, 2) := by decide +kernel
theorem dL_law_19 : decode cL_law 19 = .ok (.astore_n 3, 1) := by decide +kernel
theorem dL_law_20 : decode cL_law 20 = .ok (.iconst 1, 1) := by decide +kernel
theorem dL_law_21 : decode cL_law 21 = .ok (.newarray .double, 2) := by decide +kernel
theorem dL_law_23 : decode cL_law 23 = .ok (.astore 4, 2) := by decide +kernel
theorem dL_law_25 : decode cL_law 25 = .ok (.iconst 0, 1) := by decide +kernel
theorem dL_law_26 : decode cL_law 26 = .ok (.istore 5, 2) := by decide +kernel
theorem dL_law_28 : decode cL_law 28 = .ok (.iload 5, 2) := by decide +kernel
theorem dL_law_30 : decode cL_law 30 = .ok (.aload_n 0, 1) := by decide +kernel
theorem dL_law_31 : decode cL_law 31 = .ok (.arraylength, 1) := by decide +kernel
theorem dL_law_32 : decode cL_law 32 = .ok (.iconst 4, 1) := by decide +kernel
theorem dL_law_33 : decode cL_law 33 = .ok (.isub, 1) := by decide +kernel
theorem dL_law_34 : decode cL_law 34 = .ok (.if_icmp .gt 2929, 3) := by decide +kernel
theorem dL_law_37 : decode cL_law 37 = .ok (.aload_n 0, 1) := by decide +kernel
theorem dL_law_38 : decode cL_law 38 = .ok (.iload 5, 2) := by decide +kernel
theorem dL_law_40 : decode cL_law 40 = .ok (.iaload, 1) := by decide +kernel
theorem dL_law_41 : decode cL_law 41 = .ok (.bipush 63, 2) := by decide +kernel
theorem dL_law_43 : decode cL_law 43 = .ok (.iand, 1) := by decide +kernel
theorem dL_law_44 : decode cL_law 44 = .ok (.tableswitch 2913 0 53 #[232, 302, 384, 466, 534, 602, 670, 738, 794, 807, 863, 876, 889, 945, 1001, 1057, 1113, 1169, 1244, 1307, 1332, 1388, 1444, 1512, 1568, 1636, 1716, 1796, 1876, 1889, 1902, 1958, 2026, 2039, 2114, 2189, 2245, 2258, 2271, 2284, 2297, 2310, 2366, 2431, 2497, 2510, 2566, 2622, 2680, 2724, 2768, 2812, 2856, 2869], 232) := by decide +kernel
theorem dL_law_276 : decode cL_law 276 = .ok (.aload_n 1, 1) := by decide +kernel
theorem dL_law_277 : decode cL_law 277 = .ok (.aload_n 0, 1) := by decide +kernel
theorem dL_law_278 : decode cL_law 278 = .ok (.iload 5, 2) := by decide +kernel
theorem dL_law_280 : decode cL_law 280 = .ok (.iconst 1, 1) := by decide +kernel
theorem dL_law_281 : decode cL_law 281 = .ok (.iadd, 1) := by decide +kernel
theorem dL_law_282 : decode cL_law 282 = .ok (.iaload, 1) := by decide +kernel
theorem dL_law_283 : decode cL_law 283 = .ok (.aload_n 0, 1) := by decide +kernel
theorem dL_law_284 : decode cL_law 284 = .ok (.iload 5, 2) := by decide +kernel
theorem dL_law_286 : decode cL_law 286 = .ok (.iconst 2, 1) := by decide +kernel
theorem dL_law_287 : decode cL_law 287 = .ok (.iadd, 1) := by decide +kernel
theorem dL_law_288 : decode cL_law 288 = .ok (.iaload, 1) := by decide +kernel
theorem dL_law_289 : decode cL_law 289 = .ok (.i2c, 1) := by decide +kernel
theorem dL_law_290 : decode cL_law 290 = .ok (.aload_n 3, 1) := by decide +kernel
theorem dL_law_291 : decode cL_law 291 = .ok (.invokestatic 159, 3) := by decide +kernel
theorem dL_law_294 : decode cL_law 294 = .ok (.istore 6, 2) := by decide +kernel
theorem dL_law_296 : decode cL_law 296 = .ok (.aload_n 2, 1) := by decide +kernel
theorem dL_law_297 : decode cL_law 297 = .ok (.aload_n 0, 1) := by decide +kernel
theorem dL_law_298 : decode cL_law 298 = .ok (.iload 5, 2) := by decide +kernel
theorem dL_law_300 : decode cL_law 300 = .ok (.iconst 1, 1) := by decide +kernel
theorem dL_law_301 : decode cL_law 301 = .ok (.iadd, 1) := by decide +kernel
theorem dL_law_302 : decode cL_law 302 = .ok (.iaload, 1) := by decide +kernel
theorem dL_law_303 : decode cL_law 303 = .ok (.aload_n 0, 1) := by decide +kernel
theorem dL_law_304 : decode cL_law 304 = .ok (.iload 5, 2) := by decide +kernel
theorem dL_law_306 : decode cL_law 306 = .ok (.iconst 2, 1) := by decide +kernel
theorem dL_law_307 : decode cL_law 307 = .ok (.iadd, 1) := by decide +kernel
theorem dL_law_308 : decode cL_law 308 = .ok (.iaload, 1) := by decide +kernel
theorem dL_law_309 : decode cL_law 309 = .ok (.i2c, 1) := by decide +kernel
theorem dL_law_310 : decode cL_law 310 = .ok (.invokevirtual 164, 3) := by decide +kernel
theorem dL_law_313 : decode cL_law 313 = .ok (.istore 7, 2) := by decide +kernel
theorem dL_law_315 : decode cL_law 315 = .ok (.aload_n 2, 1) := by decide +kernel
theorem dL_law_316 : decode cL_law 316 = .ok (.invokevirtual 165, 3) := by decide +kernel
theorem dL_law_319 : decode cL_law 319 = .ok (.iload 6, 2) := by decide +kernel
theorem dL_law_321 : decode cL_law 321 = .ok (.if_icmp .eq 5, 3) := by decide +kernel
theorem dL_law_324 : decode cL_law 324 = .ok (.iconst 0, 1) := by decide +kernel
theorem dL_law_325 : decode cL_law 325 = .ok (.ireturn, 1) := by decide +kernel
theorem dL_law_326 : decode cL_law 326 = .ok (.iload 6, 2) := by decide +kernel
theorem dL_law_328 : decode cL_law 328 = .ok (.ifCond .ne 15, 3) := by decide +kernel
theorem dL_law_331 : decode cL_law 331 = .ok (.aload_n 3, 1) := by decide +kernel
theorem dL_law_332 : decode cL_law 332 = .ok (.iconst 0, 1) := by decide +kernel
theorem dL_law_333 : decode cL_law 333 = .ok (.laload, 1) := by decide +kernel
theorem dL_law_334 : decode cL_law 334 = .ok (.iload 7, 2) := by decide +kernel
theorem dL_law_336 : decode cL_law 336 = .ok (.i2l, 1) := by decide +kernel
theorem dL_law_337 : decode cL_law 337 = .ok (.lcmp, 1) := by decide +kernel
theorem dL_law_338 : decode cL_law 338 = .ok (.ifCond .eq 5, 3) := by decide +kernel
theorem dL_law_341 : decode cL_law 341 = .ok (.iconst 0, 1) := by decide +kernel
theorem dL_law_342 : decode cL_law 342 = .ok (.ireturn, 1) := by decide +kernel
theorem dL_law_343 : decode cL_law 343 = .ok (.goto 2614, 3) := by decide +kernel
theorem dL_law_346 : decode cL_law 346 = .ok (.aload_n 1, 1) := by decide +kernel
theorem dL_law_347 : decode cL_law 347 = .ok (.aload_n 0, 1) := by decide +kernel
theorem dL_law_348 : decode cL_law 348 = .ok (.iload 5, 2) := by decide +kernel
theorem dL_law_350 : decode cL_law 350 = .ok (.iconst 1, 1) := by decide +kernel
theorem dL_law_351 : decode cL_law 351 = .ok (.iadd, 1) := by decide +kernel
theorem dL_law_352 : decode cL_law 352 = .ok (.iaload, 1) := by decide +kernel
theorem dL_law_353 : decode cL_law 353 = .ok (.aload_n 0, 1) := by decide +kernel
theorem dL_law_354 : decode cL_law 354 = .ok (.iload 5, 2) := by decide +kernel
theorem dL_law_356 : decode cL_law 356 = .ok (.iconst 2, 1) := by decide +kernel
theorem dL_law_357 : decode cL_law 357 = .ok (.iadd, 1) := by decide +kernel
theorem dL_law_358 : decode cL_law 358 = .ok (.iaload, 1) := by decide +kernel
theorem dL_law_359 : decode cL_law 359 = .ok (.aload_n 0, 1) := by decide +kernel
theorem dL_law_360 : decode cL_law 360 = .ok (.iload 5, 2) := by decide +kernel
theorem dL_law_362 : decode cL_law 362 = .ok (.iconst 3, 1) := by decide +kernel
theorem dL_law_363 : decode cL_law 363 = .ok (.iadd, 1) := by decide +kernel
theorem dL_law_364 : decode cL_law 364 = .ok (.iaload, 1) := by decide +kernel
theorem dL_law_365 : decode cL_law 365 = .ok (.i2c, 1) := by decide +kernel
theorem dL_law_366 : decode cL_law 366 = .ok (.aload_n 3, 1) := by decide +kernel
theorem dL_law_367 : decode cL_law 367 = .ok (.invokestatic 168, 3) := by decide +kernel
theorem dL_law_370 : decode cL_law 370 = .ok (.istore 6, 2) := by decide +kernel
theorem dL_law_372 : decode cL_law 372 = .ok (.aload_n 2, 1) := by decide +kernel
theorem dL_law_373 : decode cL_law 373 = .ok (.aload_n 0, 1) := by decide +kernel
theorem dL_law_374 : decode cL_law 374 = .ok (.iload 5, 2) := by decide +kernel
theorem dL_law_376 : decode cL_law 376 = .ok (.iconst 1, 1) := by decide +kernel
theorem dL_law_377 : decode cL_law 377 = .ok (.iadd, 1) := by decide +kernel
theorem dL_law_378 : decode cL_law 378 = .ok (.iaload, 1) := by decide +kernel
theorem dL_law_379 : decode cL_law 379 = .ok (.aload_n 0, 1) := by decide +kernel
theorem dL_law_380 : decode cL_law 380 = .ok (.iload 5, 2) := by decide +kernel
theorem dL_law_382 : decode cL_law 382 = .ok (.iconst 2, 1) := by decide +kernel
theorem dL_law_383 : decode cL_law 383 = .ok (.iadd, 1) := by decide +kernel
theorem dL_law_384 : decode cL_law 384 = .ok (.iaload, 1) := by decide +kernel
theorem dL_law_385 : decode cL_law 385 = .ok (.aload_n 0, 1) := by decide +kernel
theorem dL_law_386 : decode cL_law 386 = .ok (.iload 5, 2) := by decide +kernel
theorem dL_law_388 : decode cL_law 388 = .ok (.iconst 3, 1) := by decide +kernel
theorem dL_law_389 : decode cL_law 389 = .ok (.iadd, 1) := by decide +kernel
theorem dL_law_390 : decode cL_law 390 = .ok (.iaload, 1) := by decide +kernel
theorem dL_law_391 : decode cL_law 391 = .ok (.i2c, 1) := by decide +kernel
theorem dL_law_392 : decode cL_law 392 = .ok (.invokevirtual 171, 3) := by decide +kernel
theorem dL_law_395 : decode cL_law 395 = .ok (.istore 7, 2) := by decide +kernel
theorem dL_law_397 : decode cL_law 397 = .ok (.aload_n 2, 1) := by decide +kernel
theorem dL_law_398 : decode cL_law 398 = .ok (.invokevirtual 165, 3) := by decide +kernel
theorem dL_law_401 : decode cL_law 401 = .ok (.iload 6, 2) := by decide +kernel
theorem dL_law_403 : decode cL_law 403 = .ok (.if_icmp .eq 5, 3) := by decide +kernel
theorem dL_law_406 : decode cL_law 406 = .ok (.iconst 0, 1) := by decide +kernel
theorem dL_law_407 : decode cL_law 407 = .ok (.ireturn, 1) := by decide +kernel
theorem dL_law_408 : decode cL_law 408 = .ok (.iload 6, 2) := by decide +kernel
theorem dL_law_410 : decode cL_law 410 = .ok (.ifCond .ne 15, 3) := by decide +kernel
theorem dL_law_413 : decode cL_law 413 = .ok (.aload_n 3, 1) := by decide +kernel
theorem dL_law_414 : decode cL_law 414 = .ok (.iconst 0, 1) := by decide +kernel
theorem dL_law_415 : decode cL_law 415 = .ok (.laload, 1) := by decide +kernel
theorem dL_law_416 : decode cL_law 416 = .ok (.iload 7, 2) := by decide +kernel
theorem dL_law_418 : decode cL_law 418 = .ok (.i2l, 1) := by decide +kernel
theorem dL_law_419 : decode cL_law 419 = .ok (.lcmp, 1) := by decide +kernel
theorem dL_law_420 : decode cL_law 420 = .ok (.ifCond .eq 5, 3) := by decide +kernel
theorem dL_law_423 : decode cL_law 423 = .ok (.iconst 0, 1) := by decide +kernel
theorem dL_law_424 : decode cL_law 424 = .ok (.ireturn, 1) := by decide +kernel
theorem dL_law_425 : decode cL_law 425 = .ok (.goto 2532, 3) := by decide +kernel
theorem dL_law_428 : decode cL_law 428 = .ok (.aload_n 1, 1) := by decide +kernel
theorem dL_law_429 : decode cL_law 429 = .ok (.aload_n 0, 1) := by decide +kernel
theorem dL_law_430 : decode cL_law 430 = .ok (.iload 5, 2) := by decide +kernel
theorem dL_law_432 : decode cL_law 432 = .ok (.iconst 1, 1) := by decide +kernel
theorem dL_law_433 : decode cL_law 433 = .ok (.iadd, 1) := by decide +kernel
theorem dL_law_434 : decode cL_law 434 = .ok (.iaload, 1) := by decide +kernel
theorem dL_law_435 : decode cL_law 435 = .ok (.aload_n 0, 1) := by decide +kernel
theorem dL_law_436 : decode cL_law 436 = .ok (.iload 5, 2) := by decide +kernel
theorem dL_law_438 : decode cL_law 438 = .ok (.iconst 2, 1) := by decide +kernel
theorem dL_law_439 : decode cL_law 439 = .ok (.iadd, 1) := by decide +kernel
theorem dL_law_440 : decode cL_law 440 = .ok (.iaload, 1) := by decide +kernel
theorem dL_law_441 : decode cL_law 441 = .ok (.aload_n 0, 1) := by decide +kernel
theorem dL_law_442 : decode cL_law 442 = .ok (.iload 5, 2) := by decide +kernel
theorem dL_law_444 : decode cL_law 444 = .ok (.iconst 3, 1) := by decide +kernel
theorem dL_law_445 : decode cL_law 445 = .ok (.iadd, 1) := by decide +kernel
theorem dL_law_446 : decode cL_law 446 = .ok (.iaload, 1) := by decide +kernel
theorem dL_law_447 : decode cL_law 447 = .ok (.i2c, 1) := by decide +kernel
theorem dL_law_448 : decode cL_law 448 = .ok (.aload_n 3, 1) := by decide +kernel
theorem dL_law_449 : decode cL_law 449 = .ok (.invokestatic 172, 3) := by decide +kernel
theorem dL_law_452 : decode cL_law 452 = .ok (.istore 6, 2) := by decide +kernel
theorem dL_law_454 : decode cL_law 454 = .ok (.aload_n 2, 1) := by decide +kernel
theorem dL_law_455 : decode cL_law 455 = .ok (.aload_n 0, 1) := by decide +kernel
theorem dL_law_456 : decode cL_law 456 = .ok (.iload 5, 2) := by decide +kernel
theorem dL_law_458 : decode cL_law 458 = .ok (.iconst 1, 1) := by decide +kernel
theorem dL_law_459 : decode cL_law 459 = .ok (.iadd, 1) := by decide +kernel
theorem dL_law_460 : decode cL_law 460 = .ok (.iaload, 1) := by decide +kernel
theorem dL_law_461 : decode cL_law 461 = .ok (.aload_n 0, 1) := by decide +kernel
theorem dL_law_462 : decode cL_law 462 = .ok (.iload 5, 2) := by decide +kernel
theorem dL_law_464 : decode cL_law 464 = .ok (.iconst 2, 1) := by decide +kernel
theorem dL_law_465 : decode cL_law 465 = .ok (.iadd, 1) := by decide +kernel
theorem dL_law_466 : decode cL_law 466 = .ok (.iaload, 1) := by decide +kernel
theorem dL_law_467 : decode cL_law 467 = .ok (.aload_n 0, 1) := by decide +kernel
theorem dL_law_468 : decode cL_law 468 = .ok (.iload 5, 2) := by decide +kernel
theorem dL_law_470 : decode cL_law 470 = .ok (.iconst 3, 1) := by decide +kernel
theorem dL_law_471 : decode cL_law 471 = .ok (.iadd, 1) := by decide +kernel
theorem dL_law_472 : decode cL_law 472 = .ok (.iaload, 1) := by decide +kernel
theorem dL_law_473 : decode cL_law 473 = .ok (.i2c, 1) := by decide +kernel
theorem dL_law_474 : decode cL_law 474 = .ok (.invokevirtual 174, 3) := by decide +kernel
theorem dL_law_477 : decode cL_law 477 = .ok (.istore 7, 2) := by decide +kernel
theorem dL_law_479 : decode cL_law 479 = .ok (.aload_n 2, 1) := by decide +kernel
theorem dL_law_480 : decode cL_law 480 = .ok (.invokevirtual 165, 3) := by decide +kernel
theorem dL_law_483 : decode cL_law 483 = .ok (.iload 6, 2) := by decide +kernel
theorem dL_law_485 : decode cL_law 485 = .ok (.if_icmp .eq 5, 3) := by decide +kernel
theorem dL_law_488 : decode cL_law 488 = .ok (.iconst 0, 1) := by decide +kernel
theorem dL_law_489 : decode cL_law 489 = .ok (.ireturn, 1) := by decide +kernel
theorem dL_law_490 : decode cL_law 490 = .ok (.iload 6, 2) := by decide +kernel
theorem dL_law_492 : decode cL_law 492 = .ok (.ifCond .ne 15, 3) := by decide +kernel
theorem dL_law_495 : decode cL_law 495 = .ok (.aload_n 3, 1) := by decide +kernel
theorem dL_law_496 : decode cL_law 496 = .ok (.iconst 0, 1) := by decide +kernel
theorem dL_law_497 : decode cL_law 497 = .ok (.laload, 1) := by decide +kernel
theorem dL_law_498 : decode cL_law 498 = .ok (.iload 7, 2) := by decide +kernel
theorem dL_law_500 : decode cL_law 500 = .ok (.i2l, 1) := by decide +kernel
theorem dL_law_501 : decode cL_law 501 = .ok (.lcmp, 1) := by decide +kernel
theorem dL_law_502 : decode cL_law 502 = .ok (.ifCond .eq 5, 3) := by decide +kernel
theorem dL_law_505 : decode cL_law 505 = .ok (.iconst 0, 1) := by decide +kernel
theorem dL_law_506 : decode cL_law 506 = .ok (.ireturn, 1) := by decide +kernel
theorem dL_law_507 : decode cL_law 507 = .ok (.goto 2450, 3) := by decide +kernel
theorem dL_law_510 : decode cL_law 510 = .ok (.aload_n 1, 1) := by decide +kernel
theorem dL_law_511 : decode cL_law 511 = .ok (.aload_n 0, 1) := by decide +kernel
theorem dL_law_512 : decode cL_law 512 = .ok (.iload 5, 2) := by decide +kernel
theorem dL_law_514 : decode cL_law 514 = .ok (.iconst 1, 1) := by decide +kernel
theorem dL_law_515 : decode cL_law 515 = .ok (.iadd, 1) := by decide +kernel
theorem dL_law_516 : decode cL_law 516 = .ok (.iaload, 1) := by decide +kernel
theorem dL_law_517 : decode cL_law 517 = .ok (.aload_n 0, 1) := by decide +kernel
theorem dL_law_518 : decode cL_law 518 = .ok (.iload 5, 2) := by decide +kernel
theorem dL_law_520 : decode cL_law 520 = .ok (.iconst 2, 1) := by decide +kernel
theorem dL_law_521 : decode cL_law 521 = .ok (.iadd, 1) := by decide +kernel
theorem dL_law_522 : decode cL_law 522 = .ok (.iaload, 1) := by decide +kernel
theorem dL_law_523 : decode cL_law 523 = .ok (.aload_n 3, 1) := by decide +kernel
theorem dL_law_524 : decode cL_law 524 = .ok (.invokestatic 175, 3) := by decide +kernel
theorem dL_law_527 : decode cL_law 527 = .ok (.istore 6, 2) := by decide +kernel
theorem dL_law_529 : decode cL_law 529 = .ok (.aload_n 2, 1) := by decide +kernel
theorem dL_law_530 : decode cL_law 530 = .ok (.aload_n 0, 1) := by decide +kernel
theorem dL_law_531 : decode cL_law 531 = .ok (.iload 5, 2) := by decide +kernel
theorem dL_law_533 : decode cL_law 533 = .ok (.iconst 1, 1) := by decide +kernel
theorem dL_law_534 : decode cL_law 534 = .ok (.iadd, 1) := by decide +kernel
theorem dL_law_535 : decode cL_law 535 = .ok (.iaload, 1) := by decide +kernel
theorem dL_law_536 : decode cL_law 536 = .ok (.aload_n 0, 1) := by decide +kernel
theorem dL_law_537 : decode cL_law 537 = .ok (.iload 5, 2) := by decide +kernel
theorem dL_law_539 : decode cL_law 539 = .ok (.iconst 2, 1) := by decide +kernel
theorem dL_law_540 : decode cL_law 540 = .ok (.iadd, 1) := by decide +kernel
theorem dL_law_541 : decode cL_law 541 = .ok (.iaload, 1) := by decide +kernel
theorem dL_law_542 : decode cL_law 542 = .ok (.invokevirtual 178, 3) := by decide +kernel
theorem dL_law_545 : decode cL_law 545 = .ok (.istore 7, 2) := by decide +kernel
theorem dL_law_547 : decode cL_law 547 = .ok (.aload_n 2, 1) := by decide +kernel
theorem dL_law_548 : decode cL_law 548 = .ok (.invokevirtual 165, 3) := by decide +kernel
theorem dL_law_551 : decode cL_law 551 = .ok (.iload 6, 2) := by decide +kernel
theorem dL_law_553 : decode cL_law 553 = .ok (.if_icmp .eq 5, 3) := by decide +kernel
theorem dL_law_556 : decode cL_law 556 = .ok (.iconst 0, 1) := by decide +kernel
theorem dL_law_557 : decode cL_law 557 = .ok (.ireturn, 1) := by decide +kernel
theorem dL_law_558 : decode cL_law 558 = .ok (.iload 6, 2) := by decide +kernel
theorem dL_law_560 : decode cL_law 560 = .ok (.ifCond .ne 15, 3) := by decide +kernel
theorem dL_law_563 : decode cL_law 563 = .ok (.aload_n 3, 1) := by decide +kernel
theorem dL_law_564 : decode cL_law 564 = .ok (.iconst 0, 1) := by decide +kernel
theorem dL_law_565 : decode cL_law 565 = .ok (.laload, 1) := by decide +kernel
theorem dL_law_566 : decode cL_law 566 = .ok (.iload 7, 2) := by decide +kernel
theorem dL_law_568 : decode cL_law 568 = .ok (.i2l, 1) := by decide +kernel
theorem dL_law_569 : decode cL_law 569 = .ok (.lcmp, 1) := by decide +kernel
theorem dL_law_570 : decode cL_law 570 = .ok (.ifCond .eq 5, 3) := by decide +kernel
theorem dL_law_573 : decode cL_law 573 = .ok (.iconst 0, 1) := by decide +kernel
theorem dL_law_574 : decode cL_law 574 = .ok (.ireturn, 1) := by decide +kernel
theorem dL_law_575 : decode cL_law 575 = .ok (.goto 2382, 3) := by decide +kernel
theorem dL_law_578 : decode cL_law 578 = .ok (.aload_n 1, 1) := by decide +kernel
theorem dL_law_579 : decode cL_law 579 = .ok (.aload_n 0, 1) := by decide +kernel
theorem dL_law_580 : decode cL_law 580 = .ok (.iload 5, 2) := by decide +kernel
theorem dL_law_582 : decode cL_law 582 = .ok (.iconst 1, 1) := by decide +kernel
theorem dL_law_583 : decode cL_law 583 = .ok (.iadd, 1) := by decide +kernel
theorem dL_law_584 : decode cL_law 584 = .ok (.iaload, 1) := by decide +kernel
theorem dL_law_585 : decode cL_law 585 = .ok (.aload_n 0, 1) := by decide +kernel
theorem dL_law_586 : decode cL_law 586 = .ok (.iload 5, 2) := by decide +kernel
theorem dL_law_588 : decode cL_law 588 = .ok (.iconst 2, 1) := by decide +kernel
theorem dL_law_589 : decode cL_law 589 = .ok (.iadd, 1) := by decide +kernel
theorem dL_law_590 : decode cL_law 590 = .ok (.iaload, 1) := by decide +kernel
theorem dL_law_591 : decode cL_law 591 = .ok (.aload_n 3, 1) := by decide +kernel
theorem dL_law_592 : decode cL_law 592 = .ok (.invokestatic 179, 3) := by decide +kernel
theorem dL_law_595 : decode cL_law 595 = .ok (.istore 6, 2) := by decide +kernel
theorem dL_law_597 : decode cL_law 597 = .ok (.aload_n 2, 1) := by decide +kernel
theorem dL_law_598 : decode cL_law 598 = .ok (.aload_n 0, 1) := by decide +kernel
theorem dL_law_599 : decode cL_law 599 = .ok (.iload 5, 2) := by decide +kernel
theorem dL_law_601 : decode cL_law 601 = .ok (.iconst 1, 1) := by decide +kernel
theorem dL_law_602 : decode cL_law 602 = .ok (.iadd, 1) := by decide +kernel
theorem dL_law_603 : decode cL_law 603 = .ok (.iaload, 1) := by decide +kernel
theorem dL_law_604 : decode cL_law 604 = .ok (.aload_n 0, 1) := by decide +kernel
theorem dL_law_605 : decode cL_law 605 = .ok (.iload 5, 2) := by decide +kernel
theorem dL_law_607 : decode cL_law 607 = .ok (.iconst 2, 1) := by decide +kernel
theorem dL_law_608 : decode cL_law 608 = .ok (.iadd, 1) := by decide +kernel
theorem dL_law_609 : decode cL_law 609 = .ok (.iaload, 1) := by decide +kernel
theorem dL_law_610 : decode cL_law 610 = .ok (.invokevirtual 181, 3) := by decide +kernel
theorem dL_law_613 : decode cL_law 613 = .ok (.istore 7, 2) := by decide +kernel
theorem dL_law_615 : decode cL_law 615 = .ok (.aload_n 2, 1) := by decide +kernel
theorem dL_law_616 : decode cL_law 616 = .ok (.invokevirtual 165, 3) := by decide +kernel
theorem dL_law_619 : decode cL_law 619 = .ok (.iload 6, 2) := by decide +kernel
theorem dL_law_621 : decode cL_law 621 = .ok (.if_icmp .eq 5, 3) := by decide +kernel
theorem dL_law_624 : decode cL_law 624 = .ok (.iconst 0, 1) := by decide +kernel
theorem dL_law_625 : decode cL_law 625 = .ok (.ireturn, 1) := by decide +kernel
theorem dL_law_626 : decode cL_law 626 = .ok (.iload 6, 2) := by decide +kernel
theorem dL_law_628 : decode cL_law 628 = .ok (.ifCond .ne 15, 3) := by decide +kernel
theorem dL_law_631 : decode cL_law 631 = .ok (.aload_n 3, 1) := by decide +kernel
theorem dL_law_632 : decode cL_law 632 = .ok (.iconst 0, 1) := by decide +kernel
theorem dL_law_633 : decode cL_law 633 = .ok (.laload, 1) := by decide +kernel
theorem dL_law_634 : decode cL_law 634 = .ok (.iload 7, 2) := by decide +kernel
theorem dL_law_636 : decode cL_law 636 = .ok (.i2l, 1) := by decide +kernel
theorem dL_law_637 : decode cL_law 637 = .ok (.lcmp, 1) := by decide +kernel
theorem dL_law_638 : decode cL_law 638 = .ok (.ifCond .eq 5, 3) := by decide +kernel
theorem dL_law_641 : decode cL_law 641 = .ok (.iconst 0, 1) := by decide +kernel
theorem dL_law_642 : decode cL_law 642 = .ok (.ireturn, 1) := by decide +kernel
theorem dL_law_643 : decode cL_law 643 = .ok (.goto 2314, 3) := by decide +kernel
theorem dL_law_646 : decode cL_law 646 = .ok (.aload_n 1, 1) := by decide +kernel
theorem dL_law_647 : decode cL_law 647 = .ok (.aload_n 0, 1) := by decide +kernel
theorem dL_law_648 : decode cL_law 648 = .ok (.iload 5, 2) := by decide +kernel
theorem dL_law_650 : decode cL_law 650 = .ok (.iconst 1, 1) := by decide +kernel
theorem dL_law_651 : decode cL_law 651 = .ok (.iadd, 1) := by decide +kernel
theorem dL_law_652 : decode cL_law 652 = .ok (.iaload, 1) := by decide +kernel
theorem dL_law_653 : decode cL_law 653 = .ok (.aload_n 0, 1) := by decide +kernel
theorem dL_law_654 : decode cL_law 654 = .ok (.iload 5, 2) := by decide +kernel
theorem dL_law_656 : decode cL_law 656 = .ok (.iconst 2, 1) := by decide +kernel
theorem dL_law_657 : decode cL_law 657 = .ok (.iadd, 1) := by decide +kernel
theorem dL_law_658 : decode cL_law 658 = .ok (.iaload, 1) := by decide +kernel
theorem dL_law_659 : decode cL_law 659 = .ok (.aload_n 3, 1) := by decide +kernel
theorem dL_law_660 : decode cL_law 660 = .ok (.invokestatic 182, 3) := by decide +kernel
theorem dL_law_663 : decode cL_law 663 = .ok (.istore 6, 2) := by decide +kernel
theorem dL_law_665 : decode cL_law 665 = .ok (.aload_n 2, 1) := by decide +kernel
theorem dL_law_666 : decode cL_law 666 = .ok (.aload_n 0, 1) := by decide +kernel
theorem dL_law_667 : decode cL_law 667 = .ok (.iload 5, 2) := by decide +kernel
theorem dL_law_669 : decode cL_law 669 = .ok (.iconst 1, 1) := by decide +kernel
theorem dL_law_670 : decode cL_law 670 = .ok (.iadd, 1) := by decide +kernel
theorem dL_law_671 : decode cL_law 671 = .ok (.iaload, 1) := by decide +kernel
theorem dL_law_672 : decode cL_law 672 = .ok (.aload_n 0, 1) := by decide +kernel
theorem dL_law_673 : decode cL_law 673 = .ok (.iload 5, 2) := by decide +kernel
theorem dL_law_675 : decode cL_law 675 = .ok (.iconst 2, 1) := by decide +kernel
theorem dL_law_676 : decode cL_law 676 = .ok (.iadd, 1) := by decide +kernel
theorem dL_law_677 : decode cL_law 677 = .ok (.iaload, 1) := by decide +kernel
theorem dL_law_678 : decode cL_law 678 = .ok (.invokevirtual 184, 3) := by decide +kernel
theorem dL_law_681 : decode cL_law 681 = .ok (.istore 7, 2) := by decide +kernel
theorem dL_law_683 : decode cL_law 683 = .ok (.aload_n 2, 1) := by decide +kernel
theorem dL_law_684 : decode cL_law 684 = .ok (.invokevirtual 165, 3) := by decide +kernel
theorem dL_law_687 : decode cL_law 687 = .ok (.iload 6, 2) := by decide +kernel
theorem dL_law_689 : decode cL_law 689 = .ok (.if_icmp .eq 5, 3) := by decide +kernel
theorem dL_law_692 : decode cL_law 692 = .ok (.iconst 0, 1) := by decide +kernel
theorem dL_law_693 : decode cL_law 693 = .ok (.ireturn, 1) := by decide +kernel
theorem dL_law_694 : decode cL_law 694 = .ok (.iload 6, 2) := by decide +kernel
theorem dL_law_696 : decode cL_law 696 = .ok (.ifCond .ne 15, 3) := by decide +kernel
theorem dL_law_699 : decode cL_law 699 = .ok (.aload_n 3, 1) := by decide +kernel
theorem dL_law_700 : decode cL_law 700 = .ok (.iconst 0, 1) := by decide +kernel
theorem dL_law_701 : decode cL_law 701 = .ok (.laload, 1) := by decide +kernel
theorem dL_law_702 : decode cL_law 702 = .ok (.iload 7, 2) := by decide +kernel
theorem dL_law_704 : decode cL_law 704 = .ok (.i2l, 1) := by decide +kernel
theorem dL_law_705 : decode cL_law 705 = .ok (.lcmp, 1) := by decide +kernel
theorem dL_law_706 : decode cL_law 706 = .ok (.ifCond .eq 5, 3) := by decide +kernel
theorem dL_law_709 : decode cL_law 709 = .ok (.iconst 0, 1) := by decide +kernel
theorem dL_law_710 : decode cL_law 710 = .ok (.ireturn, 1) := by decide +kernel
theorem dL_law_711 : decode cL_law 711 = .ok (.goto 2246, 3) := by decide +kernel
theorem dL_law_714 : decode cL_law 714 = .ok (.aload_n 1, 1) := by decide +kernel
theorem dL_law_715 : decode cL_law 715 = .ok (.aload_n 0, 1) := by decide +kernel
theorem dL_law_716 : decode cL_law 716 = .ok (.iload 5, 2) := by decide +kernel
theorem dL_law_718 : decode cL_law 718 = .ok (.iconst 1, 1) := by decide +kernel
theorem dL_law_719 : decode cL_law 719 = .ok (.iadd, 1) := by decide +kernel
theorem dL_law_720 : decode cL_law 720 = .ok (.iaload, 1) := by decide +kernel
theorem dL_law_721 : decode cL_law 721 = .ok (.aload_n 0, 1) := by decide +kernel
theorem dL_law_722 : decode cL_law 722 = .ok (.iload 5, 2) := by decide +kernel
theorem dL_law_724 : decode cL_law 724 = .ok (.iconst 2, 1) := by decide +kernel
theorem dL_law_725 : decode cL_law 725 = .ok (.iadd, 1) := by decide +kernel
theorem dL_law_726 : decode cL_law 726 = .ok (.iaload, 1) := by decide +kernel
theorem dL_law_727 : decode cL_law 727 = .ok (.aload_n 3, 1) := by decide +kernel
theorem dL_law_728 : decode cL_law 728 = .ok (.invokestatic 185, 3) := by decide +kernel
theorem dL_law_731 : decode cL_law 731 = .ok (.istore 6, 2) := by decide +kernel
theorem dL_law_733 : decode cL_law 733 = .ok (.aload_n 2, 1) := by decide +kernel
theorem dL_law_734 : decode cL_law 734 = .ok (.aload_n 0, 1) := by decide +kernel
theorem dL_law_735 : decode cL_law 735 = .ok (.iload 5, 2) := by decide +kernel
theorem dL_law_737 : decode cL_law 737 = .ok (.iconst 1, 1) := by decide +kernel
theorem dL_law_738 : decode cL_law 738 = .ok (.iadd, 1) := by decide +kernel
theorem dL_law_739 : decode cL_law 739 = .ok (.iaload, 1) := by decide +kernel
theorem dL_law_740 : decode cL_law 740 = .ok (.aload_n 0, 1) := by decide +kernel
theorem dL_law_741 : decode cL_law 741 = .ok (.iload 5, 2) := by decide +kernel
theorem dL_law_743 : decode cL_law 743 = .ok (.iconst 2, 1) := by decide +kernel
theorem dL_law_744 : decode cL_law 744 = .ok (.iadd, 1) := by decide +kernel
theorem dL_law_745 : decode cL_law 745 = .ok (.iaload, 1) := by decide +kernel
theorem dL_law_746 : decode cL_law 746 = .ok (.invokevirtual 187, 3) := by decide +kernel
theorem dL_law_749 : decode cL_law 749 = .ok (.istore 7, 2) := by decide +kernel
theorem dL_law_751 : decode cL_law 751 = .ok (.aload_n 2, 1) := by decide +kernel
theorem dL_law_752 : decode cL_law 752 = .ok (.invokevirtual 165, 3) := by decide +kernel
theorem dL_law_755 : decode cL_law 755 = .ok (.iload 6, 2) := by decide +kernel
theorem dL_law_757 : decode cL_law 757 = .ok (.if_icmp .eq 5, 3) := by decide +kernel
theorem dL_law_760 : decode cL_law 760 = .ok (.iconst 0, 1) := by decide +kernel
theorem dL_law_761 : decode cL_law 761 = .ok (.ireturn, 1) := by decide +kernel
theorem dL_law_762 : decode cL_law 762 = .ok (.iload 6, 2) := by decide +kernel
theorem dL_law_764 : decode cL_law 764 = .ok (.ifCond .ne 15, 3) := by decide +kernel
theorem dL_law_767 : decode cL_law 767 = .ok (.aload_n 3, 1) := by decide +kernel
theorem dL_law_768 : decode cL_law 768 = .ok (.iconst 0, 1) := by decide +kernel
theorem dL_law_769 : decode cL_law 769 = .ok (.laload, 1) := by decide +kernel
theorem dL_law_770 : decode cL_law 770 = .ok (.iload 7, 2) := by decide +kernel
theorem dL_law_772 : decode cL_law 772 = .ok (.i2l, 1) := by decide +kernel
theorem dL_law_773 : decode cL_law 773 = .ok (.lcmp, 1) := by decide +kernel
theorem dL_law_774 : decode cL_law 774 = .ok (.ifCond .eq 5, 3) := by decide +kernel
theorem dL_law_777 : decode cL_law 777 = .ok (.iconst 0, 1) := by decide +kernel
theorem dL_law_778 : decode cL_law 778 = .ok (.ireturn, 1) := by decide +kernel
theorem dL_law_779 : decode cL_law 779 = .ok (.goto 2178, 3) := by decide +kernel
theorem dL_law_782 : decode cL_law 782 = .ok (.aload_n 1, 1) := by decide +kernel
theorem dL_law_783 : decode cL_law 783 = .ok (.aload_n 0, 1) := by decide +kernel
theorem dL_law_784 : decode cL_law 784 = .ok (.iload 5, 2) := by decide +kernel
theorem dL_law_786 : decode cL_law 786 = .ok (.iconst 1, 1) := by decide +kernel
theorem dL_law_787 : decode cL_law 787 = .ok (.iadd, 1) := by decide +kernel
theorem dL_law_788 : decode cL_law 788 = .ok (.iaload, 1) := by decide +kernel
theorem dL_law_789 : decode cL_law 789 = .ok (.aload_n 3, 1) := by decide +kernel
theorem dL_law_790 : decode cL_law 790 = .ok (.invokestatic 188, 3) := by decide +kernel
theorem dL_law_793 : decode cL_law 793 = .ok (.istore 6, 2) := by decide +kernel
theorem dL_law_795 : decode cL_law 795 = .ok (.aload_n 2, 1) := by decide +kernel
theorem dL_law_796 : decode cL_law 796 = .ok (.aload_n 0, 1) := by decide +kernel
theorem dL_law_797 : decode cL_law 797 = .ok (.iload 5, 2) := by decide +kernel
theorem dL_law_799 : decode cL_law 799 = .ok (.iconst 1, 1) := by decide +kernel
theorem dL_law_800 : decode cL_law 800 = .ok (.iadd, 1) := by decide +kernel
theorem dL_law_801 : decode cL_law 801 = .ok (.iaload, 1) := by decide +kernel
theorem dL_law_802 : decode cL_law 802 = .ok (.invokevirtual 191, 3) := by decide +kernel
theorem dL_law_805 : decode cL_law 805 = .ok (.istore 7, 2) := by decide +kernel
theorem dL_law_807 : decode cL_law 807 = .ok (.aload_n 2, 1) := by decide +kernel
theorem dL_law_808 : decode cL_law 808 = .ok (.invokevirtual 165, 3) := by decide +kernel
theorem dL_law_811 : decode cL_law 811 = .ok (.iload 6, 2) := by decide +kernel
theorem dL_law_813 : decode cL_law 813 = .ok (.if_icmp .eq 5, 3) := by decide +kernel
theorem dL_law_816 : decode cL_law 816 = .ok (.iconst 0, 1) := by decide +kernel
theorem dL_law_817 : decode cL_law 817 = .ok (.ireturn, 1) := by decide +kernel
theorem dL_law_818 : decode cL_law 818 = .ok (.iload 6, 2) := by decide +kernel
theorem dL_law_820 : decode cL_law 820 = .ok (.ifCond .ne 15, 3) := by decide +kernel
theorem dL_law_823 : decode cL_law 823 = .ok (.aload_n 3, 1) := by decide +kernel
theorem dL_law_824 : decode cL_law 824 = .ok (.iconst 0, 1) := by decide +kernel
theorem dL_law_825 : decode cL_law 825 = .ok (.laload, 1) := by decide +kernel
theorem dL_law_826 : decode cL_law 826 = .ok (.iload 7, 2) := by decide +kernel
theorem dL_law_828 : decode cL_law 828 = .ok (.i2l, 1) := by decide +kernel
theorem dL_law_829 : decode cL_law 829 = .ok (.lcmp, 1) := by decide +kernel
theorem dL_law_830 : decode cL_law 830 = .ok (.ifCond .eq 5, 3) := by decide +kernel
theorem dL_law_833 : decode cL_law 833 = .ok (.iconst 0, 1) := by decide +kernel
theorem dL_law_834 : decode cL_law 834 = .ok (.ireturn, 1) := by decide +kernel
theorem dL_law_835 : decode cL_law 835 = .ok (.goto 2122, 3) := by decide +kernel
theorem dL_law_838 : decode cL_law 838 = .ok (.aload_n 1, 1) := by decide +kernel
theorem dL_law_839 : decode cL_law 839 = .ok (.invokevirtual 192, 3) := by decide +kernel
theorem dL_law_842 : decode cL_law 842 = .ok (.aload_n 2, 1) := by decide +kernel
theorem dL_law_843 : decode cL_law 843 = .ok (.invokevirtual 195, 3) := by decide +kernel
theorem dL_law_846 : decode cL_law 846 = .ok (.if_icmp .eq 2111, 3) := by decide +kernel
theorem dL_law_849 : decode cL_law 849 = .ok (.iconst 0, 1) := by decide +kernel
theorem dL_law_850 : decode cL_law 850 = .ok (.ireturn, 1) := by decide +kernel
theorem dL_law_851 : decode cL_law 851 = .ok (.aload_n 1, 1) := by decide +kernel
theorem dL_law_852 : decode cL_law 852 = .ok (.aload_n 0, 1) := by decide +kernel
theorem dL_law_853 : decode cL_law 853 = .ok (.iload 5, 2) := by decide +kernel
theorem dL_law_855 : decode cL_law 855 = .ok (.iconst 1, 1) := by decide +kernel
theorem dL_law_856 : decode cL_law 856 = .ok (.iadd, 1) := by decide +kernel
theorem dL_law_857 : decode cL_law 857 = .ok (.iaload, 1) := by decide +kernel
theorem dL_law_858 : decode cL_law 858 = .ok (.aload_n 3, 1) := by decide +kernel
theorem dL_law_859 : decode cL_law 859 = .ok (.invokestatic 196, 3) := by decide +kernel
theorem dL_law_862 : decode cL_law 862 = .ok (.istore 6, 2) := by decide +kernel
theorem dL_law_864 : decode cL_law 864 = .ok (.aload_n 2, 1) := by decide +kernel
theorem dL_law_865 : decode cL_law 865 = .ok (.aload_n 0, 1) := by decide +kernel
theorem dL_law_866 : decode cL_law 866 = .ok (.iload 5, 2) := by decide +kernel
theorem dL_law_868 : decode cL_law 868 = .ok (.iconst 1, 1) := by decide +kernel
theorem dL_law_869 : decode cL_law 869 = .ok (.iadd, 1) := by decide +kernel
theorem dL_law_870 : decode cL_law 870 = .ok (.iaload, 1) := by decide +kernel
theorem dL_law_871 : decode cL_law 871 = .ok (.invokevirtual 198, 3) := by decide +kernel
theorem dL_law_874 : decode cL_law 874 = .ok (.istore 7, 2) := by decide +kernel
theorem dL_law_876 : decode cL_law 876 = .ok (.aload_n 2, 1) := by decide +kernel
theorem dL_law_877 : decode cL_law 877 = .ok (.invokevirtual 165, 3) := by decide +kernel
theorem dL_law_880 : decode cL_law 880 = .ok (.iload 6, 2) := by decide +kernel
theorem dL_law_882 : decode cL_law 882 = .ok (.if_icmp .eq 5, 3) := by decide +kernel
theorem dL_law_885 : decode cL_law 885 = .ok (.iconst 0, 1) := by decide +kernel
theorem dL_law_886 : decode cL_law 886 = .ok (.ireturn, 1) := by decide +kernel
theorem dL_law_887 : decode cL_law 887 = .ok (.iload 6, 2) := by decide +kernel
theorem dL_law_889 : decode cL_law 889 = .ok (.ifCond .ne 15, 3) := by decide +kernel
theorem dL_law_892 : decode cL_law 892 = .ok (.aload_n 3, 1) := by decide +kernel
theorem dL_law_893 : decode cL_law 893 = .ok (.iconst 0, 1) := by decide +kernel
theorem dL_law_894 : decode cL_law 894 = .ok (.laload, 1) := by decide +kernel
theorem dL_law_895 : decode cL_law 895 = .ok (.iload 7, 2) := by decide +kernel
theorem dL_law_897 : decode cL_law 897 = .ok (.i2l, 1) := by decide +kernel
theorem dL_law_898 : decode cL_law 898 = .ok (.lcmp, 1) := by decide +kernel
theorem dL_law_899 : decode cL_law 899 = .ok (.ifCond .eq 5, 3) := by decide +kernel
theorem dL_law_902 : decode cL_law 902 = .ok (.iconst 0, 1) := by decide +kernel
theorem dL_law_903 : decode cL_law 903 = .ok (.ireturn, 1) := by decide +kernel
theorem dL_law_904 : decode cL_law 904 = .ok (.goto 2053, 3) := by decide +kernel
theorem dL_law_907 : decode cL_law 907 = .ok (.aload_n 1, 1) := by decide +kernel
theorem dL_law_908 : decode cL_law 908 = .ok (.invokevirtual 199, 3) := by decide +kernel
theorem dL_law_911 : decode cL_law 911 = .ok (.aload_n 2, 1) := by decide +kernel
theorem dL_law_912 : decode cL_law 912 = .ok (.invokevirtual 202, 3) := by decide +kernel
theorem dL_law_915 : decode cL_law 915 = .ok (.if_icmp .eq 2042, 3) := by decide +kernel
theorem dL_law_918 : decode cL_law 918 = .ok (.iconst 0, 1) := by decide +kernel
theorem dL_law_919 : decode cL_law 919 = .ok (.ireturn, 1) := by decide +kernel
theorem dL_law_920 : decode cL_law 920 = .ok (.aload_n 1, 1) := by decide +kernel
theorem dL_law_921 : decode cL_law 921 = .ok (.invokevirtual 203, 3) := by decide +kernel
theorem dL_law_924 : decode cL_law 924 = .ok (.aload_n 2, 1) := by decide +kernel
theorem dL_law_925 : decode cL_law 925 = .ok (.invokevirtual 206, 3) := by decide +kernel
theorem dL_law_928 : decode cL_law 928 = .ok (.if_icmp .eq 2029, 3) := by decide +kernel
theorem dL_law_931 : decode cL_law 931 = .ok (.iconst 0, 1) := by decide +kernel
theorem dL_law_932 : decode cL_law 932 = .ok (.ireturn, 1) := by decide +kernel
theorem dL_law_933 : decode cL_law 933 = .ok (.aload_n 1, 1) := by decide +kernel
theorem dL_law_934 : decode cL_law 934 = .ok (.aload_n 0, 1) := by decide +kernel
theorem dL_law_935 : decode cL_law 935 = .ok (.iload 5, 2) := by decide +kernel
theorem dL_law_937 : decode cL_law 937 = .ok (.iconst 1, 1) := by decide +kernel
theorem dL_law_938 : decode cL_law 938 = .ok (.iadd, 1) := by decide +kernel
theorem dL_law_939 : decode cL_law 939 = .ok (.iaload, 1) := by decide +kernel
theorem dL_law_940 : decode cL_law 940 = .ok (.aload_n 3, 1) := by decide +kernel
theorem dL_law_941 : decode cL_law 941 = .ok (.invokestatic 207, 3) := by decide +kernel
theorem dL_law_944 : decode cL_law 944 = .ok (.istore 6, 2) := by decide +kernel
theorem dL_law_946 : decode cL_law 946 = .ok (.aload_n 2, 1) := by decide +kernel
theorem dL_law_947 : decode cL_law 947 = .ok (.aload_n 0, 1) := by decide +kernel
theorem dL_law_948 : decode cL_law 948 = .ok (.iload 5, 2) := by decide +kernel
theorem dL_law_950 : decode cL_law 950 = .ok (.iconst 1, 1) := by decide +kernel
theorem dL_law_951 : decode cL_law 951 = .ok (.iadd, 1) := by decide +kernel
theorem dL_law_952 : decode cL_law 952 = .ok (.iaload, 1) := by decide +kernel
theorem dL_law_953 : decode cL_law 953 = .ok (.invokevirtual 209, 3) := by decide +kernel
theorem dL_law_956 : decode cL_law 956 = .ok (.istore 7, 2) := by decide +kernel
theorem dL_law_958 : decode cL_law 958 = .ok (.aload_n 2, 1) := by decide +kernel
theorem dL_law_959 : decode cL_law 959 = .ok (.invokevirtual 165, 3) := by decide +kernel
theorem dL_law_962 : decode cL_law 962 = .ok (.iload 6, 2) := by decide +kernel
theorem dL_law_964 : decode cL_law 964 = .ok (.if_icmp .eq 5, 3) := by decide +kernel
theorem dL_law_967 : decode cL_law 967 = .ok (.iconst 0, 1) := by decide +kernel
theorem dL_law_968 : decode cL_law 968 = .ok (.ireturn, 1) := by decide +kernel
theorem dL_law_969 : decode cL_law 969 = .ok (.iload 6, 2) := by decide +kernel
theorem dL_law_971 : decode cL_law 971 = .ok (.ifCond .ne 15, 3) := by decide +kernel
theorem dL_law_974 : decode cL_law 974 = .ok (.aload_n 3, 1) := by decide +kernel
theorem dL_law_975 : decode cL_law 975 = .ok (.iconst 0, 1) := by decide +kernel
theorem dL_law_976 : decode cL_law 976 = .ok (.laload, 1) := by decide +kernel
theorem dL_law_977 : decode cL_law 977 = .ok (.iload 7, 2) := by decide +kernel
theorem dL_law_979 : decode cL_law 979 = .ok (.i2l, 1) := by decide +kernel
theorem dL_law_980 : decode cL_law 980 = .ok (.lcmp, 1) := by decide +kernel
theorem dL_law_981 : decode cL_law 981 = .ok (.ifCond .eq 5, 3) := by decide +kernel
theorem dL_law_984 : decode cL_law 984 = .ok (.iconst 0, 1) := by decide +kernel
theorem dL_law_985 : decode cL_law 985 = .ok (.ireturn, 1) := by decide +kernel
theorem dL_law_986 : decode cL_law 986 = .ok (.goto 1971, 3) := by decide +kernel
theorem dL_law_989 : decode cL_law 989 = .ok (.aload_n 1, 1) := by decide +kernel
theorem dL_law_990 : decode cL_law 990 = .ok (.aload_n 0, 1) := by decide +kernel
theorem dL_law_991 : decode cL_law 991 = .ok (.iload 5, 2) := by decide +kernel
theorem dL_law_993 : decode cL_law 993 = .ok (.iconst 1, 1) := by decide +kernel
theorem dL_law_994 : decode cL_law 994 = .ok (.iadd, 1) := by decide +kernel
theorem dL_law_995 : decode cL_law 995 = .ok (.iaload, 1) := by decide +kernel
theorem dL_law_996 : decode cL_law 996 = .ok (.aload_n 3, 1) := by decide +kernel
theorem dL_law_997 : decode cL_law 997 = .ok (.invokestatic 210, 3) := by decide +kernel
theorem dL_law_1000 : decode cL_law 1000 = .ok (.istore 6, 2) := by decide +kernel
theorem dL_law_1002 : decode cL_law 1002 = .ok (.aload_n 2, 1) := by decide +kernel
theorem dL_law_1003 : decode cL_law 1003 = .ok (.aload_n 0, 1) := by decide +kernel
theorem dL_law_1004 : decode cL_law 1004 = .ok (.iload 5, 2) := by decide +kernel
theorem dL_law_1006 : decode cL_law 1006 = .ok (.iconst 1, 1) := by decide +kernel
theorem dL_law_1007 : decode cL_law 1007 = .ok (.iadd, 1) := by decide +kernel
theorem dL_law_1008 : decode cL_law 1008 = .ok (.iaload, 1) := by decide +kernel
theorem dL_law_1009 : decode cL_law 1009 = .ok (.invokevirtual 212, 3) := by decide +kernel
theorem dL_law_1012 : decode cL_law 1012 = .ok (.istore 7, 2) := by decide +kernel
theorem dL_law_1014 : decode cL_law 1014 = .ok (.aload_n 2, 1) := by decide +kernel
theorem dL_law_1015 : decode cL_law 1015 = .ok (.invokevirtual 165, 3) := by decide +kernel
theorem dL_law_1018 : decode cL_law 1018 = .ok (.iload 6, 2) := by decide +kernel
theorem dL_law_1020 : decode cL_law 1020 = .ok (.if_icmp .eq 5, 3) := by decide +kernel
theorem dL_law_1023 : decode cL_law 1023 = .ok (.iconst 0, 1) := by decide +kernel
theorem dL_law_1024 : decode cL_law 1024 = .ok (.ireturn, 1) := by decide +kernel
theorem dL_law_1025 : decode cL_law 1025 = .ok (.iload 6, 2) := by decide +kernel
theorem dL_law_1027 : decode cL_law 1027 = .ok (.ifCond .ne 15, 3) := by decide +kernel
theorem dL_law_1030 : decode cL_law 1030 = .ok (.aload_n 3, 1) := by decide +kernel
theorem dL_law_1031 : decode cL_law 1031 = .ok (.iconst 0, 1) := by decide +kernel
theorem dL_law_1032 : decode cL_law 1032 = .ok (.laload, 1) := by decide +kernel
theorem dL_law_1033 : decode cL_law 1033 = .ok (.iload 7, 2) := by decide +kernel
theorem dL_law_1035 : decode cL_law 1035 = .ok (.i2l, 1) := by decide +kernel
theorem dL_law_1036 : decode cL_law 1036 = .ok (.lcmp, 1) := by decide +kernel
theorem dL_law_1037 : decode cL_law 1037 = .ok (.ifCond .eq 5, 3) := by decide +kernel
theorem dL_law_1040 : decode cL_law 1040 = .ok (.iconst 0, 1) := by decide +kernel
theorem dL_law_1041 : decode cL_law 1041 = .ok (.ireturn, 1) := by decide +kernel
theorem dL_law_1042 : decode cL_law 1042 = .ok (.goto 1915, 3) := by decide +kernel
theorem dL_law_1045 : decode cL_law 1045 = .ok (.aload_n 1, 1) := by decide +kernel
theorem dL_law_1046 : decode cL_law 1046 = .ok (.aload_n 0, 1) := by decide +kernel
theorem dL_law_1047 : decode cL_law 1047 = .ok (.iload 5, 2) := by decide +kernel
theorem dL_law_1049 : decode cL_law 1049 = .ok (.iconst 1, 1) := by decide +kernel
theorem dL_law_1050 : decode cL_law 1050 = .ok (.iadd, 1) := by decide +kernel
theorem dL_law_1051 : decode cL_law 1051 = .ok (.iaload, 1) := by decide +kernel
theorem dL_law_1052 : decode cL_law 1052 = .ok (.aload_n 3, 1) := by decide +kernel
theorem dL_law_1053 : decode cL_law 1053 = .ok (.invokestatic 213, 3) := by decide +kernel
theorem dL_law_1056 : decode cL_law 1056 = .ok (.istore 6, 2) := by decide +kernel
theorem dL_law_1058 : decode cL_law 1058 = .ok (.aload_n 2, 1) := by decide +kernel
theorem dL_law_1059 : decode cL_law 1059 = .ok (.aload_n 0, 1) := by decide +kernel
theorem dL_law_1060 : decode cL_law 1060 = .ok (.iload 5, 2) := by decide +kernel
theorem dL_law_1062 : decode cL_law 1062 = .ok (.iconst 1, 1) := by decide +kernel
theorem dL_law_1063 : decode cL_law 1063 = .ok (.iadd, 1) := by decide +kernel
theorem dL_law_1064 : decode cL_law 1064 = .ok (.iaload, 1) := by decide +kernel
theorem dL_law_1065 : decode cL_law 1065 = .ok (.invokevirtual 215, 3) := by decide +kernel
theorem dL_law_1068 : decode cL_law 1068 = .ok (.istore 7, 2) := by decide +kernel
theorem dL_law_1070 : decode cL_law 1070 = .ok (.aload_n 2, 1) := by decide +kernel
theorem dL_law_1071 : decode cL_law 1071 = .ok (.invokevirtual 165, 3) := by decide +kernel
theorem dL_law_1074 : decode cL_law 1074 = .ok (.iload 6, 2) := by decide +kernel
theorem dL_law_1076 : decode cL_law 1076 = .ok (.if_icmp .eq 5, 3) := by decide +kernel
theorem dL_law_1079 : decode cL_law 1079 = .ok (.iconst 0, 1) := by decide +kernel
theorem dL_law_1080 : decode cL_law 1080 = .ok (.ireturn, 1) := by decide +kernel
theorem dL_law_1081 : decode cL_law 1081 = .ok (.iload 6, 2) := by decide +kernel
theorem dL_law_1083 : decode cL_law 1083 = .ok (.ifCond .ne 15, 3) := by decide +kernel
theorem dL_law_1086 : decode cL_law 1086 = .ok (.aload_n 3, 1) := by decide +kernel
theorem dL_law_1087 : decode cL_law 1087 = .ok (.iconst 0, 1) := by decide +kernel
theorem dL_law_1088 : decode cL_law 1088 = .ok (.laload, 1) := by decide +kernel
theorem dL_law_1089 : decode cL_law 1089 = .ok (.iload 7, 2) := by decide +kernel
theorem dL_law_1091 : decode cL_law 1091 = .ok (.i2l, 1) := by decide +kernel
theorem dL_law_1092 : decode cL_law 1092 = .ok (.lcmp, 1) := by decide +kernel
theorem dL_law_1093 : decode cL_law 1093 = .ok (.ifCond .eq 5, 3) := by decide +kernel
theorem dL_law_1096 : decode cL_law 1096 = .ok (.iconst 0, 1) := by decide +kernel
theorem dL_law_1097 : decode cL_law 1097 = .ok (.ireturn, 1) := by decide +kernel
theorem dL_law_1098 : decode cL_law 1098 = .ok (.goto 1859, 3) := by decide +kernel
theorem dL_law_1101 : decode cL_law 1101 = .ok (.aload_n 1, 1) := by decide +kernel
theorem dL_law_1102 : decode cL_law 1102 = .ok (.aload_n 0, 1) := by decide +kernel
theorem dL_law_1103 : decode cL_law 1103 = .ok (.iload 5, 2) := by decide +kernel
theorem dL_law_1105 : decode cL_law 1105 = .ok (.iconst 1, 1) := by decide +kernel
theorem dL_law_1106 : decode cL_law 1106 = .ok (.iadd, 1) := by decide +kernel
theorem dL_law_1107 : decode cL_law 1107 = .ok (.iaload, 1) := by decide +kernel
theorem dL_law_1108 : decode cL_law 1108 = .ok (.aload_n 3, 1) := by decide +kernel
theorem dL_law_1109 : decode cL_law 1109 = .ok (.invokestatic 216, 3) := by decide +kernel
theorem dL_law_1112 : decode cL_law 1112 = .ok (.istore 6, 2) := by decide +kernel
theorem dL_law_1114 : decode cL_law 1114 = .ok (.aload_n 2, 1) := by decide +kernel
theorem dL_law_1115 : decode cL_law 1115 = .ok (.aload_n 0, 1) := by decide +kernel
theorem dL_law_1116 : decode cL_law 1116 = .ok (.iload 5, 2) := by decide +kernel
theorem dL_law_1118 : decode cL_law 1118 = .ok (.iconst 1, 1) := by decide +kernel
theorem dL_law_1119 : decode cL_law 1119 = .ok (.iadd, 1) := by decide +kernel
theorem dL_law_1120 : decode cL_law 1120 = .ok (.iaload, 1) := by decide +kernel
theorem dL_law_1121 : decode cL_law 1121 = .ok (.invokevirtual 218, 3) := by decide +kernel
theorem dL_law_1124 : decode cL_law 1124 = .ok (.istore 7, 2) := by decide +kernel
theorem dL_law_1126 : decode cL_law 1126 = .ok (.aload_n 2, 1) := by decide +kernel
theorem dL_law_1127 : decode cL_law 1127 = .ok (.invokevirtual 165, 3) := by decide +kernel
theorem dL_law_1130 : decode cL_law 1130 = .ok (.iload 6, 2) := by decide +kernel
theorem dL_law_1132 : decode cL_law 1132 = .ok (.if_icmp .eq 5, 3) := by decide +kernel
theorem dL_law_1135 : decode cL_law 1135 = .ok (.iconst 0, 1) := by decide +kernel
theorem dL_law_1136 : decode cL_law 1136 = .ok (.ireturn, 1) := by decide +kernel
theorem dL_law_1137 : decode cL_law 1137 = .ok (.iload 6, 2) := by decide +kernel
theorem dL_law_1139 : decode cL_law 1139 = .ok (.ifCond .ne 15, 3) := by decide +kernel
theorem dL_law_1142 : decode cL_law 1142 = .ok (.aload_n 3, 1) := by decide +kernel
theorem dL_law_1143 : decode cL_law 1143 = .ok (.iconst 0, 1) := by decide +kernel
theorem dL_law_1144 : decode cL_law 1144 = .ok (.laload, 1) := by decide +kernel
theorem dL_law_1145 : decode cL_law 1145 = .ok (.iload 7, 2) := by decide +kernel
theorem dL_law_1147 : decode cL_law 1147 = .ok (.i2l, 1) := by decide +kernel
theorem dL_law_1148 : decode cL_law 1148 = .ok (.lcmp, 1) := by decide +kernel
theorem dL_law_1149 : decode cL_law 1149 = .ok (.ifCond .eq 5, 3) := by decide +kernel
theorem dL_law_1152 : decode cL_law 1152 = .ok (.iconst 0, 1) := by decide +kernel
theorem dL_law_1153 : decode cL_law 1153 = .ok (.ireturn, 1) := by decide +kernel
theorem dL_law_1154 : decode cL_law 1154 = .ok (.goto 1803, 3) := by decide +kernel
theorem dL_law_1157 : decode cL_law 1157 = .ok (.aload_n 1, 1) := by decide +kernel
theorem dL_law_1158 : decode cL_law 1158 = .ok (.aload_n 0, 1) := by decide +kernel
theorem dL_law_1159 : decode cL_law 1159 = .ok (.iload 5, 2) := by decide +kernel
theorem dL_law_1161 : decode cL_law 1161 = .ok (.iconst 1, 1) := by decide +kernel
theorem dL_law_1162 : decode cL_law 1162 = .ok (.iadd, 1) := by decide +kernel
theorem dL_law_1163 : decode cL_law 1163 = .ok (.iaload, 1) := by decide +kernel
theorem dL_law_1164 : decode cL_law 1164 = .ok (.aload_n 3, 1) := by decide +kernel
theorem dL_law_1165 : decode cL_law 1165 = .ok (.invokestatic 219, 3) := by decide +kernel
theorem dL_law_1168 : decode cL_law 1168 = .ok (.istore 6, 2) := by decide +kernel
theorem dL_law_1170 : decode cL_law 1170 = .ok (.aload_n 2, 1) := by decide +kernel
theorem dL_law_1171 : decode cL_law 1171 = .ok (.aload_n 0, 1) := by decide +kernel
theorem dL_law_1172 : decode cL_law 1172 = .ok (.iload 5, 2) := by decide +kernel
theorem dL_law_1174 : decode cL_law 1174 = .ok (.iconst 1, 1) := by decide +kernel
theorem dL_law_1175 : decode cL_law 1175 = .ok (.iadd, 1) := by decide +kernel
theorem dL_law_1176 : decode cL_law 1176 = .ok (.iaload, 1) := by decide +kernel
theorem dL_law_1177 : decode cL_law 1177 = .ok (.invokevirtual 221, 3) := by decide +kernel
theorem dL_law_1180 : decode cL_law 1180 = .ok (.istore 7, 2) := by decide +kernel
theorem dL_law_1182 : decode cL_law 1182 = .ok (.aload_n 2, 1) := by decide +kernel
theorem dL_law_1183 : decode cL_law 1183 = .ok (.invokevirtual 165, 3) := by decide +kernel
theorem dL_law_1186 : decode cL_law 1186 = .ok (.iload 6, 2) := by decide +kernel
theorem dL_law_1188 : decode cL_law 1188 = .ok (.if_icmp .eq 5, 3) := by decide +kernel
theorem dL_law_1191 : decode cL_law 1191 = .ok (.iconst 0, 1) := by decide +kernel
theorem dL_law_1192 : decode cL_law 1192 = .ok (.ireturn, 1) := by decide +kernel
theorem dL_law_1193 : decode cL_law 1193 = .ok (.iload 6, 2) := by decide +kernel
theorem dL_law_1195 : decode cL_law 1195 = .ok (.ifCond .ne 15, 3) := by decide +kernel
theorem dL_law_1198 : decode cL_law 1198 = .ok (.aload_n 3, 1) := by decide +kernel
theorem dL_law_1199 : decode cL_law 1199 = .ok (.iconst 0, 1) := by decide +kernel
theorem dL_law_1200 : decode cL_law 1200 = .ok (.laload, 1) := by decide +kernel
theorem dL_law_1201 : decode cL_law 1201 = .ok (.iload 7, 2) := by decide +kernel
theorem dL_law_1203 : decode cL_law 1203 = .ok (.i2l, 1) := by decide +kernel
theorem dL_law_1204 : decode cL_law 1204 = .ok (.lcmp, 1) := by decide +kernel
theorem dL_law_1205 : decode cL_law 1205 = .ok (.ifCond .eq 5, 3) := by decide +kernel
theorem dL_law_1208 : decode cL_law 1208 = .ok (.iconst 0, 1) := by decide +kernel
theorem dL_law_1209 : decode cL_law 1209 = .ok (.ireturn, 1) := by decide +kernel
theorem dL_law_1210 : decode cL_law 1210 = .ok (.goto 1747, 3) := by decide +kernel
theorem dL_law_1213 : decode cL_law 1213 = .ok (.aload_n 1, 1) := by decide +kernel
theorem dL_law_1214 : decode cL_law 1214 = .ok (.aload_n 0, 1) := by decide +kernel
theorem dL_law_1215 : decode cL_law 1215 = .ok (.iload 5, 2) := by decide +kernel
theorem dL_law_1217 : decode cL_law 1217 = .ok (.iconst 1, 1) := by decide +kernel
theorem dL_law_1218 : decode cL_law 1218 = .ok (.iadd, 1) := by decide +kernel
theorem dL_law_1219 : decode cL_law 1219 = .ok (.iaload, 1) := by decide +kernel
theorem dL_law_1220 : decode cL_law 1220 = .ok (.aload_n 0, 1) := by decide +kernel
theorem dL_law_1221 : decode cL_law 1221 = .ok (.iload 5, 2) := by decide +kernel
theorem dL_law_1223 : decode cL_law 1223 = .ok (.iconst 2, 1) := by decide +kernel
theorem dL_law_1224 : decode cL_law 1224 = .ok (.iadd, 1) := by decide +kernel
theorem dL_law_1225 : decode cL_law 1225 = .ok (.iaload, 1) := by decide +kernel
theorem dL_law_1226 : decode cL_law 1226 = .ok (.aload_n 3, 1) := by decide +kernel
theorem dL_law_1227 : decode cL_law 1227 = .ok (.invokestatic 222, 3) := by decide +kernel
theorem dL_law_1230 : decode cL_law 1230 = .ok (.istore 6, 2) := by decide +kernel
theorem dL_law_1232 : decode cL_law 1232 = .ok (.aload_n 2, 1) := by decide +kernel
theorem dL_law_1233 : decode cL_law 1233 = .ok (.aload_n 0, 1) := by decide +kernel
theorem dL_law_1234 : decode cL_law 1234 = .ok (.iload 5, 2) := by decide +kernel
theorem dL_law_1236 : decode cL_law 1236 = .ok (.iconst 1, 1) := by decide +kernel
theorem dL_law_1237 : decode cL_law 1237 = .ok (.iadd, 1) := by decide +kernel
theorem dL_law_1238 : decode cL_law 1238 = .ok (.iaload, 1) := by decide +kernel
theorem dL_law_1239 : decode cL_law 1239 = .ok (.aload_n 0, 1) := by decide +kernel
theorem dL_law_1240 : decode cL_law 1240 = .ok (.iload 5, 2) := by decide +kernel
theorem dL_law_1242 : decode cL_law 1242 = .ok (.iconst 2, 1) := by decide +kernel
theorem dL_law_1243 : decode cL_law 1243 = .ok (.iadd, 1) := by decide +kernel
theorem dL_law_1244 : decode cL_law 1244 = .ok (.iaload, 1) := by decide +kernel
theorem dL_law_1245 : decode cL_law 1245 = .ok (.invokevirtual 224, 3) := by decide +kernel
theorem dL_law_1248 : decode cL_law 1248 = .ok (.istore 7, 2) := by decide +kernel
theorem dL_law_1250 : decode cL_law 1250 = .ok (.aload_n 2, 1) := by decide +kernel
theorem dL_law_1251 : decode cL_law 1251 = .ok (.invokevirtual 165, 3) := by decide +kernel
theorem dL_law_1254 : decode cL_law 1254 = .ok (.iload 6, 2) := by decide +kernel
theorem dL_law_1256 : decode cL_law 1256 = .ok (.if_icmp .eq 5, 3) := by decide +kernel
theorem dL_law_1259 : decode cL_law 1259 = .ok (.iconst 0, 1) := by decide +kernel
theorem dL_law_1260 : decode cL_law 1260 = .ok (.ireturn, 1) := by decide +kernel
theorem dL_law_1261 : decode cL_law 1261 = .ok (.iload 6, 2) := by decide +kernel
theorem dL_law_1263 : decode cL_law 1263 = .ok (.ifCond .ne 22, 3) := by decide +kernel
theorem dL_law_1266 : decode cL_law 1266 = .ok (.aload_n 3, 1) := by decide +kernel
theorem dL_law_1267 : decode cL_law 1267 = .ok (.iconst 0, 1) := by decide +kernel
theorem dL_law_1268 : decode cL_law 1268 = .ok (.laload, 1) := by decide +kernel
theorem dL_law_1269 : decode cL_law 1269 = .ok (.iload 7, 2) := by decide +kernel
theorem dL_law_1271 : decode cL_law 1271 = .ok (.ifCond .eq 7, 3) := by decide +kernel
theorem dL_law_1274 : decode cL_law 1274 = .ok (.lconst 1, 1) := by decide +kernel
theorem dL_law_1275 : decode cL_law 1275 = .ok (.goto 4, 3) := by decide +kernel
theorem dL_law_1278 : decode cL_law 1278 = .ok (.lconst 0, 1) := by decide +kernel
theorem dL_law_1279 : decode cL_law 1279 = .ok (.lcmp, 1) := by decide +kernel
theorem dL_law_1280 : decode cL_law 1280 = .ok (.ifCond .eq 5, 3) := by decide +kernel
theorem dL_law_1283 : decode cL_law 1283 = .ok (.iconst 0, 1) := by decide +kernel
theorem dL_law_1284 : decode cL_law 1284 = .ok (.ireturn, 1) := by decide +kernel
theorem dL_law_1285 : decode cL_law 1285 = .ok (.goto 1672, 3) := by decide +kernel
theorem dL_law_1288 : decode cL_law 1288 = .ok (.aload_n 1, 1) := by decide +kernel
theorem dL_law_1289 : decode cL_law 1289 = .ok (.aload_n 0, 1) := by decide +kernel
theorem dL_law_1290 : decode cL_law 1290 = .ok (.iload 5, 2) := by decide +kernel
theorem dL_law_1292 : decode cL_law 1292 = .ok (.iconst 1, 1) := by decide +kernel
theorem dL_law_1293 : decode cL_law 1293 = .ok (.iadd, 1) := by decide +kernel
theorem dL_law_1294 : decode cL_law 1294 = .ok (.iaload, 1) := by decide +kernel
theorem dL_law_1295 : decode cL_law 1295 = .ok (.aload_n 3, 1) := by decide +kernel
theorem dL_law_1296 : decode cL_law 1296 = .ok (.invokestatic 225, 3) := by decide +kernel
theorem dL_law_1299 : decode cL_law 1299 = .ok (.istore 6, 2) := by decide +kernel
theorem dL_law_1301 : decode cL_law 1301 = .ok (.aload_n 2, 1) := by decide +kernel
theorem dL_law_1302 : decode cL_law 1302 = .ok (.aload_n 0, 1) := by decide +kernel
theorem dL_law_1303 : decode cL_law 1303 = .ok (.iload 5, 2) := by decide +kernel
theorem dL_law_1305 : decode cL_law 1305 = .ok (.iconst 1, 1) := by decide +kernel
theorem dL_law_1306 : decode cL_law 1306 = .ok (.iadd, 1) := by decide +kernel
theorem dL_law_1307 : decode cL_law 1307 = .ok (.iaload, 1) := by decide +kernel
theorem dL_law_1308 : decode cL_law 1308 = .ok (.invokevirtual 227, 3) := by decide +kernel
theorem dL_law_1311 : decode cL_law 1311 = .ok (.istore 7, 2) := by decide +kernel
theorem dL_law_1313 : decode cL_law 1313 = .ok (.aload_n 2, 1) := by decide +kernel
theorem dL_law_1314 : decode cL_law 1314 = .ok (.invokevirtual 165, 3) := by decide +kernel
theorem dL_law_1317 : decode cL_law 1317 = .ok (.iload 6, 2) := by decide +kernel
theorem dL_law_1319 : decode cL_law 1319 = .ok (.if_icmp .eq 5, 3) := by decide +kernel
theorem dL_law_1322 : decode cL_law 1322 = .ok (.iconst 0, 1) := by decide +kernel
theorem dL_law_1323 : decode cL_law 1323 = .ok (.ireturn, 1) := by decide +kernel
theorem dL_law_1324 : decode cL_law 1324 = .ok (.iload 6, 2) := by decide +kernel
theorem dL_law_1326 : decode cL_law 1326 = .ok (.ifCond .ne 22, 3) := by decide +kernel
theorem dL_law_1329 : decode cL_law 1329 = .ok (.aload_n 3, 1) := by decide +kernel
theorem dL_law_1330 : decode cL_law 1330 = .ok (.iconst 0, 1) := by decide +kernel
theorem dL_law_1331 : decode cL_law 1331 = .ok (.laload, 1) := by decide +kernel
theorem dL_law_1332 : decode cL_law 1332 = .ok (.iload 7, 2) := by decide +kernel
theorem dL_law_1334 : decode cL_law 1334 = .ok (.ifCond .eq 7, 3) := by decide +kernel
theorem dL_law_1337 : decode cL_law 1337 = .ok (.lconst 1, 1) := by decide +kernel
theorem dL_law_1338 : decode cL_law 1338 = .ok (.goto 4, 3) := by decide +kernel
theorem dL_law_1341 : decode cL_law 1341 = .ok (.lconst 0, 1) := by decide +kernel
theorem dL_law_1342 : decode cL_law 1342 = .ok (.lcmp, 1) := by decide +kernel
theorem dL_law_1343 : decode cL_law 1343 = .ok (.ifCond .eq 5, 3) := by decide +kernel
theorem dL_law_1346 : decode cL_law 1346 = .ok (.iconst 0, 1) := by decide +kernel
theorem dL_law_1347 : decode cL_law 1347 = .ok (.ireturn, 1) := by decide +kernel
theorem dL_law_1348 : decode cL_law 1348 = .ok (.goto 1609, 3) := by decide +kernel
theorem dL_law_1351 : decode cL_law 1351 = .ok (.aload_n 1, 1) := by decide +kernel
theorem dL_law_1352 : decode cL_law 1352 = .ok (.aload_n 0, 1) := by decide +kernel
theorem dL_law_1353 : decode cL_law 1353 = .ok (.iload 5, 2) := by decide +kernel
theorem dL_law_1355 : decode cL_law 1355 = .ok (.iconst 1, 1) := by decide +kernel
theorem dL_law_1356 : decode cL_law 1356 = .ok (.iadd, 1) := by decide +kernel
theorem dL_law_1357 : decode cL_law 1357 = .ok (.iaload, 1) := by decide +kernel
theorem dL_law_1358 : decode cL_law 1358 = .ok (.invokevirtual 228, 3) := by decide +kernel
theorem dL_law_1361 : decode cL_law 1361 = .ok (.aload_n 2, 1) := by decide +kernel
theorem dL_law_1362 : decode cL_law 1362 = .ok (.aload_n 0, 1) := by decide +kernel
theorem dL_law_1363 : decode cL_law 1363 = .ok (.iload 5, 2) := by decide +kernel
theorem dL_law_1365 : decode cL_law 1365 = .ok (.iconst 1, 1) := by decide +kernel
theorem dL_law_1366 : decode cL_law 1366 = .ok (.iadd, 1) := by decide +kernel
theorem dL_law_1367 : decode cL_law 1367 = .ok (.iaload, 1) := by decide +kernel
theorem dL_law_1368 : decode cL_law 1368 = .ok (.invokevirtual 231, 3) := by decide +kernel
theorem dL_law_1371 : decode cL_law 1371 = .ok (.if_icmp .eq 1586, 3) := by decide +kernel
theorem dL_law_1374 : decode cL_law 1374 = .ok (.iconst 0, 1) := by decide +kernel
theorem dL_law_1375 : decode cL_law 1375 = .ok (.ireturn, 1) := by decide +kernel
theorem dL_law_1376 : decode cL_law 1376 = .ok (.aload_n 1, 1) := by decide +kernel
theorem dL_law_1377 : decode cL_law 1377 = .ok (.aload_n 0, 1) := by decide +kernel
theorem dL_law_1378 : decode cL_law 1378 = .ok (.iload 5, 2) := by decide +kernel
theorem dL_law_1380 : decode cL_law 1380 = .ok (.iconst 1, 1) := by decide +kernel
theorem dL_law_1381 : decode cL_law 1381 = .ok (.iadd, 1) := by decide +kernel
theorem dL_law_1382 : decode cL_law 1382 = .ok (.iaload, 1) := by decide +kernel
theorem dL_law_1383 : decode cL_law 1383 = .ok (.aload_n 3, 1) := by decide +kernel
theorem dL_law_1384 : decode cL_law 1384 = .ok (.invokestatic 232, 3) := by decide +kernel
theorem dL_law_1387 : decode cL_law 1387 = .ok (.istore 6, 2) := by decide +kernel
theorem dL_law_1389 : decode cL_law 1389 = .ok (.aload_n 2, 1) := by decide +kernel
theorem dL_law_1390 : decode cL_law 1390 = .ok (.aload_n 0, 1) := by decide +kernel
theorem dL_law_1391 : decode cL_law 1391 = .ok (.iload 5, 2) := by decide +kernel
theorem dL_law_1393 : decode cL_law 1393 = .ok (.iconst 1, 1) := by decide +kernel
theorem dL_law_1394 : decode cL_law 1394 = .ok (.iadd, 1) := by decide +kernel
theorem dL_law_1395 : decode cL_law 1395 = .ok (.iaload, 1) := by decide +kernel
theorem dL_law_1396 : decode cL_law 1396 = .ok (.invokevirtual 234, 3) := by decide +kernel
theorem dL_law_1399 : decode cL_law 1399 = .ok (.istore 7, 2) := by decide +kernel
theorem dL_law_1401 : decode cL_law 1401 = .ok (.aload_n 2, 1) := by decide +kernel
theorem dL_law_1402 : decode cL_law 1402 = .ok (.invokevirtual 165, 3) := by decide +kernel
theorem dL_law_1405 : decode cL_law 1405 = .ok (.iload 6, 2) := by decide +kernel
theorem dL_law_1407 : decode cL_law 1407 = .ok (.if_icmp .eq 5, 3) := by decide +kernel
theorem dL_law_1410 : decode cL_law 1410 = .ok (.iconst 0, 1) := by decide +kernel
theorem dL_law_1411 : decode cL_law 1411 = .ok (.ireturn, 1) := by decide +kernel
theorem dL_law_1412 : decode cL_law 1412 = .ok (.iload 6, 2) := by decide +kernel
theorem dL_law_1414 : decode cL_law 1414 = .ok (.ifCond .ne 15, 3) := by decide +kernel
theorem dL_law_1417 : decode cL_law 1417 = .ok (.aload_n 3, 1) := by decide +kernel
theorem dL_law_1418 : decode cL_law 1418 = .ok (.iconst 0, 1) := by decide +kernel
theorem dL_law_1419 : decode cL_law 1419 = .ok (.laload, 1) := by decide +kernel
theorem dL_law_1420 : decode cL_law 1420 = .ok (.iload 7, 2) := by decide +kernel
theorem dL_law_1422 : decode cL_law 1422 = .ok (.i2l, 1) := by decide +kernel
theorem dL_law_1423 : decode cL_law 1423 = .ok (.lcmp, 1) := by decide +kernel
theorem dL_law_1424 : decode cL_law 1424 = .ok (.ifCond .eq 5, 3) := by decide +kernel
theorem dL_law_1427 : decode cL_law 1427 = .ok (.iconst 0, 1) := by decide +kernel
theorem dL_law_1428 : decode cL_law 1428 = .ok (.ireturn, 1) := by decide +kernel
theorem dL_law_1429 : decode cL_law 1429 = .ok (.goto 1528, 3) := by decide +kernel
theorem dL_law_1432 : decode cL_law 1432 = .ok (.aload_n 1, 1) := by decide +kernel
theorem dL_law_1433 : decode cL_law 1433 = .ok (.aload_n 0, 1) := by decide +kernel
theorem dL_law_1434 : decode cL_law 1434 = .ok (.iload 5, 2) := by decide +kernel
theorem dL_law_1436 : decode cL_law 1436 = .ok (.iconst 1, 1) := by decide +kernel
theorem dL_law_1437 : decode cL_law 1437 = .ok (.iadd, 1) := by decide +kernel
theorem dL_law_1438 : decode cL_law 1438 = .ok (.iaload, 1) := by decide +kernel
theorem dL_law_1439 : decode cL_law 1439 = .ok (.aload_n 3, 1) := by decide +kernel
theorem dL_law_1440 : decode cL_law 1440 = .ok (.invokestatic 235, 3) := by decide +kernel
theorem dL_law_1443 : decode cL_law 1443 = .ok (.istore 6, 2) := by decide +kernel
theorem dL_law_1445 : decode cL_law 1445 = .ok (.aload_n 2, 1) := by decide +kernel
theorem dL_law_1446 : decode cL_law 1446 = .ok (.aload_n 0, 1) := by decide +kernel
theorem dL_law_1447 : decode cL_law 1447 = .ok (.iload 5, 2) := by decide +kernel
theorem dL_law_1449 : decode cL_law 1449 = .ok (.iconst 1, 1) := by decide +kernel
theorem dL_law_1450 : decode cL_law 1450 = .ok (.iadd, 1) := by decide +kernel
theorem dL_law_1451 : decode cL_law 1451 = .ok (.iaload, 1) := by decide +kernel
theorem dL_law_1452 : decode cL_law 1452 = .ok (.invokevirtual 237, 3) := by decide +kernel
theorem dL_law_1455 : decode cL_law 1455 = .ok (.istore 7, 2) := by decide +kernel
theorem dL_law_1457 : decode cL_law 1457 = .ok (.aload_n 2, 1) := by decide +kernel
theorem dL_law_1458 : decode cL_law 1458 = .ok (.invokevirtual 165, 3) := by decide +kernel
theorem dL_law_1461 : decode cL_law 1461 = .ok (.iload 6, 2) := by decide +kernel
theorem dL_law_1463 : decode cL_law 1463 = .ok (.if_icmp .eq 5, 3) := by decide +kernel
theorem dL_law_1466 : decode cL_law 1466 = .ok (.iconst 0, 1) := by decide +kernel
theorem dL_law_1467 : decode cL_law 1467 = .ok (.ireturn, 1) := by decide +kernel
theorem dL_law_1468 : decode cL_law 1468 = .ok (.iload 6, 2) := by decide +kernel
theorem dL_law_1470 : decode cL_law 1470 = .ok (.ifCond .ne 15, 3) := by decide +kernel
theorem dL_law_1473 : decode cL_law 1473 = .ok (.aload_n 3, 1) := by decide +kernel
theorem dL_law_1474 : decode cL_law 1474 = .ok (.iconst 0, 1) := by decide +kernel
theorem dL_law_1475 : decode cL_law 1475 = .ok (.laload, 1) := by decide +kernel
theorem dL_law_1476 : decode cL_law 1476 = .ok (.iload 7, 2) := by decide +kernel
theorem dL_law_1478 : decode cL_law 1478 = .ok (.i2l, 1) := by decide +kernel
theorem dL_law_1479 : decode cL_law 1479 = .ok (.lcmp, 1) := by decide +kernel
theorem dL_law_1480 : decode cL_law 1480 = .ok (.ifCond .eq 5, 3) := by decide +kernel
theorem dL_law_1483 : decode cL_law 1483 = .ok (.iconst 0, 1) := by decide +kernel
theorem dL_law_1484 : decode cL_law 1484 = .ok (.ireturn, 1) := by decide +kernel
theorem dL_law_1485 : decode cL_law 1485 = .ok (.goto 1472, 3) := by decide +kernel
theorem dL_law_1488 : decode cL_law 1488 = .ok (.aload_n 1, 1) := by decide +kernel
theorem dL_law_1489 : decode cL_law 1489 = .ok (.aload_n 0, 1) := by decide +kernel
theorem dL_law_1490 : decode cL_law 1490 = .ok (.iload 5, 2) := by decide +kernel
theorem dL_law_1492 : decode cL_law 1492 = .ok (.iconst 1, 1) := by decide +kernel
theorem dL_law_1493 : decode cL_law 1493 = .ok (.iadd, 1) := by decide +kernel
theorem dL_law_1494 : decode cL_law 1494 = .ok (.iaload, 1) := by decide +kernel
theorem dL_law_1495 : decode cL_law 1495 = .ok (.aload_n 0, 1) := by decide +kernel
theorem dL_law_1496 : decode cL_law 1496 = .ok (.iload 5, 2) := by decide +kernel
theorem dL_law_1498 : decode cL_law 1498 = .ok (.iconst 2, 1) := by decide +kernel
theorem dL_law_1499 : decode cL_law 1499 = .ok (.iadd, 1) := by decide +kernel
theorem dL_law_1500 : decode cL_law 1500 = .ok (.iaload, 1) := by decide +kernel
theorem dL_law_1501 : decode cL_law 1501 = .ok (.aload_n 3, 1) := by decide +kernel
theorem dL_law_1502 : decode cL_law 1502 = .ok (.invokestatic 238, 3) := by decide +kernel
theorem dL_law_1505 : decode cL_law 1505 = .ok (.istore 6, 2) := by decide +kernel
theorem dL_law_1507 : decode cL_law 1507 = .ok (.aload_n 2, 1) := by decide +kernel
theorem dL_law_1508 : decode cL_law 1508 = .ok (.aload_n 0, 1) := by decide +kernel
theorem dL_law_1509 : decode cL_law 1509 = .ok (.iload 5, 2) := by decide +kernel
theorem dL_law_1511 : decode cL_law 1511 = .ok (.iconst 1, 1) := by decide +kernel
theorem dL_law_1512 : decode cL_law 1512 = .ok (.iadd, 1) := by decide +kernel
theorem dL_law_1513 : decode cL_law 1513 = .ok (.iaload, 1) := by decide +kernel
theorem dL_law_1514 : decode cL_law 1514 = .ok (.aload_n 0, 1) := by decide +kernel
theorem dL_law_1515 : decode cL_law 1515 = .ok (.iload 5, 2) := by decide +kernel
theorem dL_law_1517 : decode cL_law 1517 = .ok (.iconst 2, 1) := by decide +kernel
theorem dL_law_1518 : decode cL_law 1518 = .ok (.iadd, 1) := by decide +kernel
theorem dL_law_1519 : decode cL_law 1519 = .ok (.iaload, 1) := by decide +kernel
theorem dL_law_1520 : decode cL_law 1520 = .ok (.invokevirtual 240, 3) := by decide +kernel
theorem dL_law_1523 : decode cL_law 1523 = .ok (.istore 7, 2) := by decide +kernel
theorem dL_law_1525 : decode cL_law 1525 = .ok (.aload_n 2, 1) := by decide +kernel
theorem dL_law_1526 : decode cL_law 1526 = .ok (.invokevirtual 165, 3) := by decide +kernel
theorem dL_law_1529 : decode cL_law 1529 = .ok (.iload 6, 2) := by decide +kernel
theorem dL_law_1531 : decode cL_law 1531 = .ok (.if_icmp .eq 5, 3) := by decide +kernel
theorem dL_law_1534 : decode cL_law 1534 = .ok (.iconst 0, 1) := by decide +kernel
theorem dL_law_1535 : decode cL_law 1535 = .ok (.ireturn, 1) := by decide +kernel
theorem dL_law_1536 : decode cL_law 1536 = .ok (.iload 6, 2) := by decide +kernel
theorem dL_law_1538 : decode cL_law 1538 = .ok (.ifCond .ne 15, 3) := by decide +kernel
theorem dL_law_1541 : decode cL_law 1541 = .ok (.aload_n 3, 1) := by decide +kernel
theorem dL_law_1542 : decode cL_law 1542 = .ok (.iconst 0, 1) := by decide +kernel
theorem dL_law_1543 : decode cL_law 1543 = .ok (.laload, 1) := by decide +kernel
theorem dL_law_1544 : decode cL_law 1544 = .ok (.iload 7, 2) := by decide +kernel
theorem dL_law_1546 : decode cL_law 1546 = .ok (.i2l, 1) := by decide +kernel
theorem dL_law_1547 : decode cL_law 1547 = .ok (.lcmp, 1) := by decide +kernel
theorem dL_law_1548 : decode cL_law 1548 = .ok (.ifCond .eq 5, 3) := by decide +kernel
theorem dL_law_1551 : decode cL_law 1551 = .ok (.iconst 0, 1) := by decide +kernel
theorem dL_law_1552 : decode cL_law 1552 = .ok (.ireturn, 1) := by decide +kernel
theorem dL_law_1553 : decode cL_law 1553 = .ok (.goto 1404, 3) := by decide +kernel
theorem dL_law_1556 : decode cL_law 1556 = .ok (.aload_n 1, 1) := by decide +kernel
theorem dL_law_1557 : decode cL_law 1557 = .ok (.aload_n 0, 1) := by decide +kernel
theorem dL_law_1558 : decode cL_law 1558 = .ok (.iload 5, 2) := by decide +kernel
theorem dL_law_1560 : decode cL_law 1560 = .ok (.iconst 1, 1) := by decide +kernel
theorem dL_law_1561 : decode cL_law 1561 = .ok (.iadd, 1) := by decide +kernel
theorem dL_law_1562 : decode cL_law 1562 = .ok (.iaload, 1) := by decide +kernel
theorem dL_law_1563 : decode cL_law 1563 = .ok (.aload_n 3, 1) := by decide +kernel
theorem dL_law_1564 : decode cL_law 1564 = .ok (.invokestatic 241, 3) := by decide +kernel
theorem dL_law_1567 : decode cL_law 1567 = .ok (.istore 6, 2) := by decide +kernel
theorem dL_law_1569 : decode cL_law 1569 = .ok (.aload_n 2, 1) := by decide +kernel
theorem dL_law_1570 : decode cL_law 1570 = .ok (.aload_n 0, 1) := by decide +kernel
theorem dL_law_1571 : decode cL_law 1571 = .ok (.iload 5, 2) := by decide +kernel
theorem dL_law_1573 : decode cL_law 1573 = .ok (.iconst 1, 1) := by decide +kernel
theorem dL_law_1574 : decode cL_law 1574 = .ok (.iadd, 1) := by decide +kernel
theorem dL_law_1575 : decode cL_law 1575 = .ok (.iaload, 1) := by decide +kernel
theorem dL_law_1576 : decode cL_law 1576 = .ok (.invokevirtual 243, 3) := by decide +kernel
theorem dL_law_1579 : decode cL_law 1579 = .ok (.istore 7, 2) := by decide +kernel
theorem dL_law_1581 : decode cL_law 1581 = .ok (.aload_n 2, 1) := by decide +kernel
theorem dL_law_1582 : decode cL_law 1582 = .ok (.invokevirtual 165, 3) := by decide +kernel
theorem dL_law_1585 : decode cL_law 1585 = .ok (.iload 6, 2) := by decide +kernel
theorem dL_law_1587 : decode cL_law 1587 = .ok (.if_icmp .eq 5, 3) := by decide +kernel
theorem dL_law_1590 : decode cL_law 1590 = .ok (.iconst 0, 1) := by decide +kernel
theorem dL_law_1591 : decode cL_law 1591 = .ok (.ireturn, 1) := by decide +kernel
theorem dL_law_1592 : decode cL_law 1592 = .ok (.iload 6, 2) := by decide +kernel
theorem dL_law_1594 : decode cL_law 1594 = .ok (.ifCond .ne 15, 3) := by decide +kernel
theorem dL_law_1597 : decode cL_law 1597 = .ok (.aload_n 3, 1) := by decide +kernel
theorem dL_law_1598 : decode cL_law 1598 = .ok (.iconst 0, 1) := by decide +kernel
theorem dL_law_1599 : decode cL_law 1599 = .ok (.laload, 1) := by decide +kernel
theorem dL_law_1600 : decode cL_law 1600 = .ok (.iload 7, 2) := by decide +kernel
theorem dL_law_1602 : decode cL_law 1602 = .ok (.i2l, 1) := by decide +kernel
theorem dL_law_1603 : decode cL_law 1603 = .ok (.lcmp, 1) := by decide +kernel
theorem dL_law_1604 : decode cL_law 1604 = .ok (.ifCond .eq 5, 3) := by decide +kernel
theorem dL_law_1607 : decode cL_law 1607 = .ok (.iconst 0, 1) := by decide +kernel
theorem dL_law_1608 : decode cL_law 1608 = .ok (.ireturn, 1) := by decide +kernel
theorem dL_law_1609 : decode cL_law 1609 = .ok (.goto 1348, 3) := by decide +kernel
theorem dL_law_1612 : decode cL_law 1612 = .ok (.aload_n 1, 1) := by decide +kernel
theorem dL_law_1613 : decode cL_law 1613 = .ok (.aload_n 0, 1) := by decide +kernel
theorem dL_law_1614 : decode cL_law 1614 = .ok (.iload 5, 2) := by decide +kernel
theorem dL_law_1616 : decode cL_law 1616 = .ok (.iconst 1, 1) := by decide +kernel
theorem dL_law_1617 : decode cL_law 1617 = .ok (.iadd, 1) := by decide +kernel
theorem dL_law_1618 : decode cL_law 1618 = .ok (.iaload, 1) := by decide +kernel
theorem dL_law_1619 : decode cL_law 1619 = .ok (.aload_n 0, 1) := by decide +kernel
theorem dL_law_1620 : decode cL_law 1620 = .ok (.iload 5, 2) := by decide +kernel
theorem dL_law_1622 : decode cL_law 1622 = .ok (.iconst 2, 1) := by decide +kernel
theorem dL_law_1623 : decode cL_law 1623 = .ok (.iadd, 1) := by decide +kernel
theorem dL_law_1624 : decode cL_law 1624 = .ok (.iaload, 1) := by decide +kernel
theorem dL_law_1625 : decode cL_law 1625 = .ok (.aload_n 3, 1) := by decide +kernel
theorem dL_law_1626 : decode cL_law 1626 = .ok (.invokestatic 244, 3) := by decide +kernel
theorem dL_law_1629 : decode cL_law 1629 = .ok (.istore 6, 2) := by decide +kernel
theorem dL_law_1631 : decode cL_law 1631 = .ok (.aload_n 2, 1) := by decide +kernel
theorem dL_law_1632 : decode cL_law 1632 = .ok (.aload_n 0, 1) := by decide +kernel
theorem dL_law_1633 : decode cL_law 1633 = .ok (.iload 5, 2) := by decide +kernel
theorem dL_law_1635 : decode cL_law 1635 = .ok (.iconst 1, 1) := by decide +kernel
theorem dL_law_1636 : decode cL_law 1636 = .ok (.iadd, 1) := by decide +kernel
theorem dL_law_1637 : decode cL_law 1637 = .ok (.iaload, 1) := by decide +kernel
theorem dL_law_1638 : decode cL_law 1638 = .ok (.aload_n 0, 1) := by decide +kernel
theorem dL_law_1639 : decode cL_law 1639 = .ok (.iload 5, 2) := by decide +kernel
theorem dL_law_1641 : decode cL_law 1641 = .ok (.iconst 2, 1) := by decide +kernel
theorem dL_law_1642 : decode cL_law 1642 = .ok (.iadd, 1) := by decide +kernel
theorem dL_law_1643 : decode cL_law 1643 = .ok (.iaload, 1) := by decide +kernel
theorem dL_law_1644 : decode cL_law 1644 = .ok (.invokevirtual 246, 3) := by decide +kernel
theorem dL_law_1647 : decode cL_law 1647 = .ok (.istore 7, 2) := by decide +kernel
theorem dL_law_1649 : decode cL_law 1649 = .ok (.aload_n 2, 1) := by decide +kernel
theorem dL_law_1650 : decode cL_law 1650 = .ok (.invokevirtual 165, 3) := by decide +kernel
theorem dL_law_1653 : decode cL_law 1653 = .ok (.iload 6, 2) := by decide +kernel
theorem dL_law_1655 : decode cL_law 1655 = .ok (.if_icmp .eq 5, 3) := by decide +kernel
theorem dL_law_1658 : decode cL_law 1658 = .ok (.iconst 0, 1) := by decide +kernel
theorem dL_law_1659 : decode cL_law 1659 = .ok (.ireturn, 1) := by decide +kernel
theorem dL_law_1660 : decode cL_law 1660 = .ok (.iload 6, 2) := by decide +kernel
theorem dL_law_1662 : decode cL_law 1662 = .ok (.ifCond .ne 15, 3) := by decide +kernel
theorem dL_law_1665 : decode cL_law 1665 = .ok (.aload_n 3, 1) := by decide +kernel
theorem dL_law_1666 : decode cL_law 1666 = .ok (.iconst 0, 1) := by decide +kernel
theorem dL_law_1667 : decode cL_law 1667 = .ok (.laload, 1) := by decide +kernel
theorem dL_law_1668 : decode cL_law 1668 = .ok (.iload 7, 2) := by decide +kernel
theorem dL_law_1670 : decode cL_law 1670 = .ok (.i2l, 1) := by decide +kernel
theorem dL_law_1671 : decode cL_law 1671 = .ok (.lcmp, 1) := by decide +kernel
theorem dL_law_1672 : decode cL_law 1672 = .ok (.ifCond .eq 5, 3) := by decide +kernel
theorem dL_law_1675 : decode cL_law 1675 = .ok (.iconst 0, 1) := by decide +kernel
theorem dL_law_1676 : decode cL_law 1676 = .ok (.ireturn, 1) := by decide +kernel
theorem dL_law_1677 : decode cL_law 1677 = .ok (.goto 1280, 3) := by decide +kernel
theorem dL_law_1680 : decode cL_law 1680 = .ok (.aload_n 1, 1) := by decide +kernel
theorem dL_law_1681 : decode cL_law 1681 = .ok (.aload_n 0, 1) := by decide +kernel
theorem dL_law_1682 : decode cL_law 1682 = .ok (.iload 5, 2) := by decide +kernel
theorem dL_law_1684 : decode cL_law 1684 = .ok (.iconst 1, 1) := by decide +kernel
theorem dL_law_1685 : decode cL_law 1685 = .ok (.iadd, 1) := by decide +kernel
theorem dL_law_1686 : decode cL_law 1686 = .ok (.iaload, 1) := by decide +kernel
theorem dL_law_1687 : decode cL_law 1687 = .ok (.aload_n 0, 1) := by decide +kernel
theorem dL_law_1688 : decode cL_law 1688 = .ok (.iload 5, 2) := by decide +kernel
theorem dL_law_1690 : decode cL_law 1690 = .ok (.iconst 2, 1) := by decide +kernel
theorem dL_law_1691 : decode cL_law 1691 = .ok (.iadd, 1) := by decide +kernel
theorem dL_law_1692 : decode cL_law 1692 = .ok (.iaload, 1) := by decide +kernel
theorem dL_law_1693 : decode cL_law 1693 = .ok (.aload_n 0, 1) := by decide +kernel
theorem dL_law_1694 : decode cL_law 1694 = .ok (.iload 5, 2) := by decide +kernel
theorem dL_law_1696 : decode cL_law 1696 = .ok (.iconst 3, 1) := by decide +kernel
theorem dL_law_1697 : decode cL_law 1697 = .ok (.iadd, 1) := by decide +kernel
theorem dL_law_1698 : decode cL_law 1698 = .ok (.iaload, 1) := by decide +kernel
theorem dL_law_1699 : decode cL_law 1699 = .ok (.aload_n 3, 1) := by decide +kernel
theorem dL_law_1700 : decode cL_law 1700 = .ok (.invokestatic 247, 3) := by decide +kernel
theorem dL_law_1703 : decode cL_law 1703 = .ok (.istore 6, 2) := by decide +kernel
theorem dL_law_1705 : decode cL_law 1705 = .ok (.aload_n 2, 1) := by decide +kernel
theorem dL_law_1706 : decode cL_law 1706 = .ok (.aload_n 0, 1) := by decide +kernel
theorem dL_law_1707 : decode cL_law 1707 = .ok (.iload 5, 2) := by decide +kernel
theorem dL_law_1709 : decode cL_law 1709 = .ok (.iconst 1, 1) := by decide +kernel
theorem dL_law_1710 : decode cL_law 1710 = .ok (.iadd, 1) := by decide +kernel
theorem dL_law_1711 : decode cL_law 1711 = .ok (.iaload, 1) := by decide +kernel
theorem dL_law_1712 : decode cL_law 1712 = .ok (.aload_n 0, 1) := by decide +kernel
theorem dL_law_1713 : decode cL_law 1713 = .ok (.iload 5, 2) := by decide +kernel
theorem dL_law_1715 : decode cL_law 1715 = .ok (.iconst 2, 1) := by decide +kernel
theorem dL_law_1716 : decode cL_law 1716 = .ok (.iadd, 1) := by decide +kernel
theorem dL_law_1717 : decode cL_law 1717 = .ok (.iaload, 1) := by decide +kernel
theorem dL_law_1718 : decode cL_law 1718 = .ok (.aload_n 0, 1) := by decide +kernel
theorem dL_law_1719 : decode cL_law 1719 = .ok (.iload 5, 2) := by decide +kernel
theorem dL_law_1721 : decode cL_law 1721 = .ok (.iconst 3, 1) := by decide +kernel
theorem dL_law_1722 : decode cL_law 1722 = .ok (.iadd, 1) := by decide +kernel
theorem dL_law_1723 : decode cL_law 1723 = .ok (.iaload, 1) := by decide +kernel
theorem dL_law_1724 : decode cL_law 1724 = .ok (.invokevirtual 250, 3) := by decide +kernel
theorem dL_law_1727 : decode cL_law 1727 = .ok (.istore 7, 2) := by decide +kernel
theorem dL_law_1729 : decode cL_law 1729 = .ok (.aload_n 2, 1) := by decide +kernel
theorem dL_law_1730 : decode cL_law 1730 = .ok (.invokevirtual 165, 3) := by decide +kernel
theorem dL_law_1733 : decode cL_law 1733 = .ok (.iload 6, 2) := by decide +kernel
theorem dL_law_1735 : decode cL_law 1735 = .ok (.if_icmp .eq 5, 3) := by decide +kernel
theorem dL_law_1738 : decode cL_law 1738 = .ok (.iconst 0, 1) := by decide +kernel
theorem dL_law_1739 : decode cL_law 1739 = .ok (.ireturn, 1) := by decide +kernel
theorem dL_law_1740 : decode cL_law 1740 = .ok (.iload 6, 2) := by decide +kernel
theorem dL_law_1742 : decode cL_law 1742 = .ok (.ifCond .ne 15, 3) := by decide +kernel
theorem dL_law_1745 : decode cL_law 1745 = .ok (.aload_n 3, 1) := by decide +kernel
theorem dL_law_1746 : decode cL_law 1746 = .ok (.iconst 0, 1) := by decide +kernel
theorem dL_law_1747 : decode cL_law 1747 = .ok (.laload, 1) := by decide +kernel
theorem dL_law_1748 : decode cL_law 1748 = .ok (.iload 7, 2) := by decide +kernel
theorem dL_law_1750 : decode cL_law 1750 = .ok (.i2l, 1) := by decide +kernel
theorem dL_law_1751 : decode cL_law 1751 = .ok (.lcmp, 1) := by decide +kernel
theorem dL_law_1752 : decode cL_law 1752 = .ok (.ifCond .eq 5, 3) := by decide +kernel
theorem dL_law_1755 : decode cL_law 1755 = .ok (.iconst 0, 1) := by decide +kernel
theorem dL_law_1756 : decode cL_law 1756 = .ok (.ireturn, 1) := by decide +kernel
theorem dL_law_1757 : decode cL_law 1757 = .ok (.goto 1200, 3) := by decide +kernel
theorem dL_law_1760 : decode cL_law 1760 = .ok (.aload_n 1, 1) := by decide +kernel
theorem dL_law_1761 : decode cL_law 1761 = .ok (.aload_n 0, 1) := by decide +kernel
theorem dL_law_1762 : decode cL_law 1762 = .ok (.iload 5, 2) := by decide +kernel
theorem dL_law_1764 : decode cL_law 1764 = .ok (.iconst 1, 1) := by decide +kernel
theorem dL_law_1765 : decode cL_law 1765 = .ok (.iadd, 1) := by decide +kernel
theorem dL_law_1766 : decode cL_law 1766 = .ok (.iaload, 1) := by decide +kernel
theorem dL_law_1767 : decode cL_law 1767 = .ok (.aload_n 0, 1) := by decide +kernel
theorem dL_law_1768 : decode cL_law 1768 = .ok (.iload 5, 2) := by decide +kernel
theorem dL_law_1770 : decode cL_law 1770 = .ok (.iconst 2, 1) := by decide +kernel
theorem dL_law_1771 : decode cL_law 1771 = .ok (.iadd, 1) := by decide +kernel
theorem dL_law_1772 : decode cL_law 1772 = .ok (.iaload, 1) := by decide +kernel
theorem dL_law_1773 : decode cL_law 1773 = .ok (.aload_n 0, 1) := by decide +kernel
theorem dL_law_1774 : decode cL_law 1774 = .ok (.iload 5, 2) := by decide +kernel
theorem dL_law_1776 : decode cL_law 1776 = .ok (.iconst 3, 1) := by decide +kernel
theorem dL_law_1777 : decode cL_law 1777 = .ok (.iadd, 1) := by decide +kernel
theorem dL_law_1778 : decode cL_law 1778 = .ok (.iaload, 1) := by decide +kernel
theorem dL_law_1779 : decode cL_law 1779 = .ok (.aload_n 3, 1) := by decide +kernel
theorem dL_law_1780 : decode cL_law 1780 = .ok (.invokestatic 251, 3) := by decide +kernel
theorem dL_law_1783 : decode cL_law 1783 = .ok (.istore 6, 2) := by decide +kernel
theorem dL_law_1785 : decode cL_law 1785 = .ok (.aload_n 2, 1) := by decide +kernel
theorem dL_law_1786 : decode cL_law 1786 = .ok (.aload_n 0, 1) := by decide +kernel
theorem dL_law_1787 : decode cL_law 1787 = .ok (.iload 5, 2) := by decide +kernel
theorem dL_law_1789 : decode cL_law 1789 = .ok (.iconst 1, 1) := by decide +kernel
theorem dL_law_1790 : decode cL_law 1790 = .ok (.iadd, 1) := by decide +kernel
theorem dL_law_1791 : decode cL_law 1791 = .ok (.iaload, 1) := by decide +kernel
theorem dL_law_1792 : decode cL_law 1792 = .ok (.aload_n 0, 1) := by decide +kernel
theorem dL_law_1793 : decode cL_law 1793 = .ok (.iload 5, 2) := by decide +kernel
theorem dL_law_1795 : decode cL_law 1795 = .ok (.iconst 2, 1) := by decide +kernel
theorem dL_law_1796 : decode cL_law 1796 = .ok (.iadd, 1) := by decide +kernel
theorem dL_law_1797 : decode cL_law 1797 = .ok (.iaload, 1) := by decide +kernel
theorem dL_law_1798 : decode cL_law 1798 = .ok (.aload_n 0, 1) := by decide +kernel
theorem dL_law_1799 : decode cL_law 1799 = .ok (.iload 5, 2) := by decide +kernel
theorem dL_law_1801 : decode cL_law 1801 = .ok (.iconst 3, 1) := by decide +kernel
theorem dL_law_1802 : decode cL_law 1802 = .ok (.iadd, 1) := by decide +kernel
theorem dL_law_1803 : decode cL_law 1803 = .ok (.iaload, 1) := by decide +kernel
theorem dL_law_1804 : decode cL_law 1804 = .ok (.invokevirtual 253, 3) := by decide +kernel
theorem dL_law_1807 : decode cL_law 1807 = .ok (.istore 7, 2) := by decide +kernel
theorem dL_law_1809 : decode cL_law 1809 = .ok (.aload_n 2, 1) := by decide +kernel
theorem dL_law_1810 : decode cL_law 1810 = .ok (.invokevirtual 165, 3) := by decide +kernel
theorem dL_law_1813 : decode cL_law 1813 = .ok (.iload 6, 2) := by decide +kernel
theorem dL_law_1815 : decode cL_law 1815 = .ok (.if_icmp .eq 5, 3) := by decide +kernel
theorem dL_law_1818 : decode cL_law 1818 = .ok (.iconst 0, 1) := by decide +kernel
theorem dL_law_1819 : decode cL_law 1819 = .ok (.ireturn, 1) := by decide +kernel
theorem dL_law_1820 : decode cL_law 1820 = .ok (.iload 6, 2) := by decide +kernel
theorem dL_law_1822 : decode cL_law 1822 = .ok (.ifCond .ne 15, 3) := by decide +kernel
theorem dL_law_1825 : decode cL_law 1825 = .ok (.aload_n 3, 1) := by decide +kernel
theorem dL_law_1826 : decode cL_law 1826 = .ok (.iconst 0, 1) := by decide +kernel
theorem dL_law_1827 : decode cL_law 1827 = .ok (.laload, 1) := by decide +kernel
theorem dL_law_1828 : decode cL_law 1828 = .ok (.iload 7, 2) := by decide +kernel
theorem dL_law_1830 : decode cL_law 1830 = .ok (.i2l, 1) := by decide +kernel
theorem dL_law_1831 : decode cL_law 1831 = .ok (.lcmp, 1) := by decide +kernel
theorem dL_law_1832 : decode cL_law 1832 = .ok (.ifCond .eq 5, 3) := by decide +kernel
theorem dL_law_1835 : decode cL_law 1835 = .ok (.iconst 0, 1) := by decide +kernel
theorem dL_law_1836 : decode cL_law 1836 = .ok (.ireturn, 1) := by decide +kernel
theorem dL_law_1837 : decode cL_law 1837 = .ok (.goto 1120, 3) := by decide +kernel
theorem dL_law_1840 : decode cL_law 1840 = .ok (.aload_n 1, 1) := by decide +kernel
theorem dL_law_1841 : decode cL_law 1841 = .ok (.aload_n 0, 1) := by decide +kernel
theorem dL_law_1842 : decode cL_law 1842 = .ok (.iload 5, 2) := by decide +kernel
theorem dL_law_1844 : decode cL_law 1844 = .ok (.iconst 1, 1) := by decide +kernel
theorem dL_law_1845 : decode cL_law 1845 = .ok (.iadd, 1) := by decide +kernel
theorem dL_law_1846 : decode cL_law 1846 = .ok (.iaload, 1) := by decide +kernel
theorem dL_law_1847 : decode cL_law 1847 = .ok (.aload_n 0, 1) := by decide +kernel
theorem dL_law_1848 : decode cL_law 1848 = .ok (.iload 5, 2) := by decide +kernel
theorem dL_law_1850 : decode cL_law 1850 = .ok (.iconst 2, 1) := by decide +kernel
theorem dL_law_1851 : decode cL_law 1851 = .ok (.iadd, 1) := by decide +kernel
theorem dL_law_1852 : decode cL_law 1852 = .ok (.iaload, 1) := by decide +kernel
theorem dL_law_1853 : decode cL_law 1853 = .ok (.aload_n 0, 1) := by decide +kernel
theorem dL_law_1854 : decode cL_law 1854 = .ok (.iload 5, 2) := by decide +kernel
theorem dL_law_1856 : decode cL_law 1856 = .ok (.iconst 3, 1) := by decide +kernel
theorem dL_law_1857 : decode cL_law 1857 = .ok (.iadd, 1) := by decide +kernel
theorem dL_law_1858 : decode cL_law 1858 = .ok (.iaload, 1) := by decide +kernel
theorem dL_law_1859 : decode cL_law 1859 = .ok (.aload_n 3, 1) := by decide +kernel
theorem dL_law_1860 : decode cL_law 1860 = .ok (.invokestatic 254, 3) := by decide +kernel
theorem dL_law_1863 : decode cL_law 1863 = .ok (.istore 6, 2) := by decide +kernel
theorem dL_law_1865 : decode cL_law 1865 = .ok (.aload_n 2, 1) := by decide +kernel
theorem dL_law_1866 : decode cL_law 1866 = .ok (.aload_n 0, 1) := by decide +kernel
theorem dL_law_1867 : decode cL_law 1867 = .ok (.iload 5, 2) := by decide +kernel
theorem dL_law_1869 : decode cL_law 1869 = .ok (.iconst 1, 1) := by decide +kernel
theorem dL_law_1870 : decode cL_law 1870 = .ok (.iadd, 1) := by decide +kernel
theorem dL_law_1871 : decode cL_law 1871 = .ok (.iaload, 1) := by decide +kernel
theorem dL_law_1872 : decode cL_law 1872 = .ok (.aload_n 0, 1) := by decide +kernel
theorem dL_law_1873 : decode cL_law 1873 = .ok (.iload 5, 2) := by decide +kernel
theorem dL_law_1875 : decode cL_law 1875 = .ok (.iconst 2, 1) := by decide +kernel
theorem dL_law_1876 : decode cL_law 1876 = .ok (.iadd, 1) := by decide +kernel
theorem dL_law_1877 : decode cL_law 1877 = .ok (.iaload, 1) := by decide +kernel
theorem dL_law_1878 : decode cL_law 1878 = .ok (.aload_n 0, 1) := by decide +kernel
theorem dL_law_1879 : decode cL_law 1879 = .ok (.iload 5, 2) := by decide +kernel
theorem dL_law_1881 : decode cL_law 1881 = .ok (.iconst 3, 1) := by decide +kernel
theorem dL_law_1882 : decode cL_law 1882 = .ok (.iadd, 1) := by decide +kernel
theorem dL_law_1883 : decode cL_law 1883 = .ok (.iaload, 1) := by decide +kernel
theorem dL_law_1884 : decode cL_law 1884 = .ok (.invokevirtual 256, 3) := by decide +kernel
theorem dL_law_1887 : decode cL_law 1887 = .ok (.istore 7, 2) := by decide +kernel
theorem dL_law_1889 : decode cL_law 1889 = .ok (.aload_n 2, 1) := by decide +kernel
theorem dL_law_1890 : decode cL_law 1890 = .ok (.invokevirtual 165, 3) := by decide +kernel
theorem dL_law_1893 : decode cL_law 1893 = .ok (.iload 6, 2) := by decide +kernel
theorem dL_law_1895 : decode cL_law 1895 = .ok (.if_icmp .eq 5, 3) := by decide +kernel
theorem dL_law_1898 : decode cL_law 1898 = .ok (.iconst 0, 1) := by decide +kernel
theorem dL_law_1899 : decode cL_law 1899 = .ok (.ireturn, 1) := by decide +kernel
theorem dL_law_1900 : decode cL_law 1900 = .ok (.iload 6, 2) := by decide +kernel
theorem dL_law_1902 : decode cL_law 1902 = .ok (.ifCond .ne 15, 3) := by decide +kernel
theorem dL_law_1905 : decode cL_law 1905 = .ok (.aload_n 3, 1) := by decide +kernel
theorem dL_law_1906 : decode cL_law 1906 = .ok (.iconst 0, 1) := by decide +kernel
theorem dL_law_1907 : decode cL_law 1907 = .ok (.laload, 1) := by decide +kernel
theorem dL_law_1908 : decode cL_law 1908 = .ok (.iload 7, 2) := by decide +kernel
theorem dL_law_1910 : decode cL_law 1910 = .ok (.i2l, 1) := by decide +kernel
theorem dL_law_1911 : decode cL_law 1911 = .ok (.lcmp, 1) := by decide +kernel
theorem dL_law_1912 : decode cL_law 1912 = .ok (.ifCond .eq 5, 3) := by decide +kernel
theorem dL_law_1915 : decode cL_law 1915 = .ok (.iconst 0, 1) := by decide +kernel
theorem dL_law_1916 : decode cL_law 1916 = .ok (.ireturn, 1) := by decide +kernel
theorem dL_law_1917 : decode cL_law 1917 = .ok (.goto 1040, 3) := by decide +kernel
theorem dL_law_1920 : decode cL_law 1920 = .ok (.aload_n 1, 1) := by decide +kernel
theorem dL_law_1921 : decode cL_law 1921 = .ok (.invokevirtual 257, 3) := by decide +kernel
theorem dL_law_1924 : decode cL_law 1924 = .ok (.aload_n 2, 1) := by decide +kernel
theorem dL_law_1925 : decode cL_law 1925 = .ok (.invokevirtual 260, 3) := by decide +kernel
theorem dL_law_1928 : decode cL_law 1928 = .ok (.if_icmp .eq 1029, 3) := by decide +kernel
theorem dL_law_1931 : decode cL_law 1931 = .ok (.iconst 0, 1) := by decide +kernel
theorem dL_law_1932 : decode cL_law 1932 = .ok (.ireturn, 1) := by decide +kernel
theorem dL_law_1933 : decode cL_law 1933 = .ok (.aload_n 1, 1) := by decide +kernel
theorem dL_law_1934 : decode cL_law 1934 = .ok (.invokevirtual 261, 3) := by decide +kernel
theorem dL_law_1937 : decode cL_law 1937 = .ok (.aload_n 2, 1) := by decide +kernel
theorem dL_law_1938 : decode cL_law 1938 = .ok (.invokevirtual 264, 3) := by decide +kernel
theorem dL_law_1941 : decode cL_law 1941 = .ok (.if_icmp .eq 1016, 3) := by decide +kernel
theorem dL_law_1944 : decode cL_law 1944 = .ok (.iconst 0, 1) := by decide +kernel
theorem dL_law_1945 : decode cL_law 1945 = .ok (.ireturn, 1) := by decide +kernel
theorem dL_law_1946 : decode cL_law 1946 = .ok (.aload_n 1, 1) := by decide +kernel
theorem dL_law_1947 : decode cL_law 1947 = .ok (.aload_n 0, 1) := by decide +kernel
theorem dL_law_1948 : decode cL_law 1948 = .ok (.iload 5, 2) := by decide +kernel
theorem dL_law_1950 : decode cL_law 1950 = .ok (.iconst 1, 1) := by decide +kernel
theorem dL_law_1951 : decode cL_law 1951 = .ok (.iadd, 1) := by decide +kernel
theorem dL_law_1952 : decode cL_law 1952 = .ok (.iaload, 1) := by decide +kernel
theorem dL_law_1953 : decode cL_law 1953 = .ok (.aload_n 3, 1) := by decide +kernel
theorem dL_law_1954 : decode cL_law 1954 = .ok (.invokestatic 265, 3) := by decide +kernel
theorem dL_law_1957 : decode cL_law 1957 = .ok (.istore 6, 2) := by decide +kernel
theorem dL_law_1959 : decode cL_law 1959 = .ok (.aload_n 2, 1) := by decide +kernel
theorem dL_law_1960 : decode cL_law 1960 = .ok (.aload_n 0, 1) := by decide +kernel
theorem dL_law_1961 : decode cL_law 1961 = .ok (.iload 5, 2) := by decide +kernel
theorem dL_law_1963 : decode cL_law 1963 = .ok (.iconst 1, 1) := by decide +kernel
theorem dL_law_1964 : decode cL_law 1964 = .ok (.iadd, 1) := by decide +kernel
theorem dL_law_1965 : decode cL_law 1965 = .ok (.iaload, 1) := by decide +kernel
theorem dL_law_1966 : decode cL_law 1966 = .ok (.invokevirtual 267, 3) := by decide +kernel
theorem dL_law_1969 : decode cL_law 1969 = .ok (.istore 7, 2) := by decide +kernel
theorem dL_law_1971 : decode cL_law 1971 = .ok (.aload_n 2, 1) := by decide +kernel
theorem dL_law_1972 : decode cL_law 1972 = .ok (.invokevirtual 165, 3) := by decide +kernel
theorem dL_law_1975 : decode cL_law 1975 = .ok (.iload 6, 2) := by decide +kernel
theorem dL_law_1977 : decode cL_law 1977 = .ok (.if_icmp .eq 5, 3) := by decide +kernel
theorem dL_law_1980 : decode cL_law 1980 = .ok (.iconst 0, 1) := by decide +kernel
theorem dL_law_1981 : decode cL_law 1981 = .ok (.ireturn, 1) := by decide +kernel
theorem dL_law_1982 : decode cL_law 1982 = .ok (.iload 6, 2) := by decide +kernel
theorem dL_law_1984 : decode cL_law 1984 = .ok (.ifCond .ne 15, 3) := by decide +kernel
theorem dL_law_1987 : decode cL_law 1987 = .ok (.aload_n 3, 1) := by decide +kernel
theorem dL_law_1988 : decode cL_law 1988 = .ok (.iconst 0, 1) := by decide +kernel
theorem dL_law_1989 : decode cL_law 1989 = .ok (.laload, 1) := by decide +kernel
theorem dL_law_1990 : decode cL_law 1990 = .ok (.iload 7, 2) := by decide +kernel
theorem dL_law_1992 : decode cL_law 1992 = .ok (.i2l, 1) := by decide +kernel
theorem dL_law_1993 : decode cL_law 1993 = .ok (.lcmp, 1) := by decide +kernel
theorem dL_law_1994 : decode cL_law 1994 = .ok (.ifCond .eq 5, 3) := by decide +kernel
theorem dL_law_1997 : decode cL_law 1997 = .ok (.iconst 0, 1) := by decide +kernel
theorem dL_law_1998 : decode cL_law 1998 = .ok (.ireturn, 1) := by decide +kernel
theorem dL_law_1999 : decode cL_law 1999 = .ok (.goto 958, 3) := by decide +kernel
theorem dL_law_2002 : decode cL_law 2002 = .ok (.aload_n 1, 1) := by decide +kernel
theorem dL_law_2003 : decode cL_law 2003 = .ok (.aload_n 0, 1) := by decide +kernel
theorem dL_law_2004 : decode cL_law 2004 = .ok (.iload 5, 2) := by decide +kernel
theorem dL_law_2006 : decode cL_law 2006 = .ok (.iconst 1, 1) := by decide +kernel
theorem dL_law_2007 : decode cL_law 2007 = .ok (.iadd, 1) := by decide +kernel
theorem dL_law_2008 : decode cL_law 2008 = .ok (.iaload, 1) := by decide +kernel
theorem dL_law_2009 : decode cL_law 2009 = .ok (.aload_n 0, 1) := by decide +kernel
theorem dL_law_2010 : decode cL_law 2010 = .ok (.iload 5, 2) := by decide +kernel
theorem dL_law_2012 : decode cL_law 2012 = .ok (.iconst 2, 1) := by decide +kernel
theorem dL_law_2013 : decode cL_law 2013 = .ok (.iadd, 1) := by decide +kernel
theorem dL_law_2014 : decode cL_law 2014 = .ok (.iaload, 1) := by decide +kernel
theorem dL_law_2015 : decode cL_law 2015 = .ok (.aload_n 3, 1) := by decide +kernel
theorem dL_law_2016 : decode cL_law 2016 = .ok (.invokestatic 268, 3) := by decide +kernel
theorem dL_law_2019 : decode cL_law 2019 = .ok (.istore 6, 2) := by decide +kernel
theorem dL_law_2021 : decode cL_law 2021 = .ok (.aload_n 2, 1) := by decide +kernel
theorem dL_law_2022 : decode cL_law 2022 = .ok (.aload_n 0, 1) := by decide +kernel
theorem dL_law_2023 : decode cL_law 2023 = .ok (.iload 5, 2) := by decide +kernel
theorem dL_law_2025 : decode cL_law 2025 = .ok (.iconst 1, 1) := by decide +kernel
theorem dL_law_2026 : decode cL_law 2026 = .ok (.iadd, 1) := by decide +kernel
theorem dL_law_2027 : decode cL_law 2027 = .ok (.iaload, 1) := by decide +kernel
theorem dL_law_2028 : decode cL_law 2028 = .ok (.aload_n 0, 1) := by decide +kernel
theorem dL_law_2029 : decode cL_law 2029 = .ok (.iload 5, 2) := by decide +kernel
theorem dL_law_2031 : decode cL_law 2031 = .ok (.iconst 2, 1) := by decide +kernel
theorem dL_law_2032 : decode cL_law 2032 = .ok (.iadd, 1) := by decide +kernel
theorem dL_law_2033 : decode cL_law 2033 = .ok (.iaload, 1) := by decide +kernel
theorem dL_law_2034 : decode cL_law 2034 = .ok (.invokevirtual 270, 3) := by decide +kernel
theorem dL_law_2037 : decode cL_law 2037 = .ok (.istore 7, 2) := by decide +kernel
theorem dL_law_2039 : decode cL_law 2039 = .ok (.aload_n 2, 1) := by decide +kernel
theorem dL_law_2040 : decode cL_law 2040 = .ok (.invokevirtual 165, 3) := by decide +kernel
theorem dL_law_2043 : decode cL_law 2043 = .ok (.iload 6, 2) := by decide +kernel
theorem dL_law_2045 : decode cL_law 2045 = .ok (.if_icmp .eq 5, 3) := by decide +kernel
theorem dL_law_2048 : decode cL_law 2048 = .ok (.iconst 0, 1) := by decide +kernel
theorem dL_law_2049 : decode cL_law 2049 = .ok (.ireturn, 1) := by decide +kernel
theorem dL_law_2050 : decode cL_law 2050 = .ok (.iload 6, 2) := by decide +kernel
theorem dL_law_2052 : decode cL_law 2052 = .ok (.ifCond .ne 15, 3) := by decide +kernel
theorem dL_law_2055 : decode cL_law 2055 = .ok (.aload_n 3, 1) := by decide +kernel
theorem dL_law_2056 : decode cL_law 2056 = .ok (.iconst 0, 1) := by decide +kernel
theorem dL_law_2057 : decode cL_law 2057 = .ok (.laload, 1) := by decide +kernel
theorem dL_law_2058 : decode cL_law 2058 = .ok (.iload 7, 2) := by decide +kernel
theorem dL_law_2060 : decode cL_law 2060 = .ok (.i2l, 1) := by decide +kernel
theorem dL_law_2061 : decode cL_law 2061 = .ok (.lcmp, 1) := by decide +kernel
theorem dL_law_2062 : decode cL_law 2062 = .ok (.ifCond .eq 5, 3) := by decide +kernel
theorem dL_law_2065 : decode cL_law 2065 = .ok (.iconst 0, 1) := by decide +kernel
theorem dL_law_2066 : decode cL_law 2066 = .ok (.ireturn, 1) := by decide +kernel
theorem dL_law_2067 : decode cL_law 2067 = .ok (.goto 890, 3) := by decide +kernel
theorem dL_law_2070 : decode cL_law 2070 = .ok (.aload_n 1, 1) := by decide +kernel
theorem dL_law_2071 : decode cL_law 2071 = .ok (.invokevirtual 271, 3) := by decide +kernel
theorem dL_law_2074 : decode cL_law 2074 = .ok (.aload_n 2, 1) := by decide +kernel
theorem dL_law_2075 : decode cL_law 2075 = .ok (.invokevirtual 274, 3) := by decide +kernel
theorem dL_law_2078 : decode cL_law 2078 = .ok (.if_icmp .eq 879, 3) := by decide +kernel
theorem dL_law_2081 : decode cL_law 2081 = .ok (.iconst 0, 1) := by decide +kernel
theorem dL_law_2082 : decode cL_law 2082 = .ok (.ireturn, 1) := by decide +kernel
theorem dL_law_2083 : decode cL_law 2083 = .ok (.aload_n 1, 1) := by decide +kernel
theorem dL_law_2084 : decode cL_law 2084 = .ok (.aload_n 0, 1) := by decide +kernel
theorem dL_law_2085 : decode cL_law 2085 = .ok (.iload 5, 2) := by decide +kernel
theorem dL_law_2087 : decode cL_law 2087 = .ok (.iconst 1, 1) := by decide +kernel
theorem dL_law_2088 : decode cL_law 2088 = .ok (.iadd, 1) := by decide +kernel
theorem dL_law_2089 : decode cL_law 2089 = .ok (.iaload, 1) := by decide +kernel
theorem dL_law_2090 : decode cL_law 2090 = .ok (.aload_n 0, 1) := by decide +kernel
theorem dL_law_2091 : decode cL_law 2091 = .ok (.iload 5, 2) := by decide +kernel
theorem dL_law_2093 : decode cL_law 2093 = .ok (.iconst 2, 1) := by decide +kernel
theorem dL_law_2094 : decode cL_law 2094 = .ok (.iadd, 1) := by decide +kernel
theorem dL_law_2095 : decode cL_law 2095 = .ok (.iaload, 1) := by decide +kernel
theorem dL_law_2096 : decode cL_law 2096 = .ok (.aload_n 3, 1) := by decide +kernel
theorem dL_law_2097 : decode cL_law 2097 = .ok (.invokestatic 275, 3) := by decide +kernel
theorem dL_law_2100 : decode cL_law 2100 = .ok (.istore 6, 2) := by decide +kernel
theorem dL_law_2102 : decode cL_law 2102 = .ok (.aload_n 2, 1) := by decide +kernel
theorem dL_law_2103 : decode cL_law 2103 = .ok (.aload_n 0, 1) := by decide +kernel
theorem dL_law_2104 : decode cL_law 2104 = .ok (.iload 5, 2) := by decide +kernel
theorem dL_law_2106 : decode cL_law 2106 = .ok (.iconst 1, 1) := by decide +kernel
theorem dL_law_2107 : decode cL_law 2107 = .ok (.iadd, 1) := by decide +kernel
theorem dL_law_2108 : decode cL_law 2108 = .ok (.iaload, 1) := by decide +kernel
theorem dL_law_2109 : decode cL_law 2109 = .ok (.aload_n 0, 1) := by decide +kernel
theorem dL_law_2110 : decode cL_law 2110 = .ok (.iload 5, 2) := by decide +kernel
theorem dL_law_2112 : decode cL_law 2112 = .ok (.iconst 2, 1) := by decide +kernel
theorem dL_law_2113 : decode cL_law 2113 = .ok (.iadd, 1) := by decide +kernel
theorem dL_law_2114 : decode cL_law 2114 = .ok (.iaload, 1) := by decide +kernel
theorem dL_law_2115 : decode cL_law 2115 = .ok (.invokevirtual 277, 3) := by decide +kernel
theorem dL_law_2118 : decode cL_law 2118 = .ok (.istore 7, 2) := by decide +kernel
theorem dL_law_2120 : decode cL_law 2120 = .ok (.aload_n 2, 1) := by decide +kernel
theorem dL_law_2121 : decode cL_law 2121 = .ok (.invokevirtual 165, 3) := by decide +kernel
theorem dL_law_2124 : decode cL_law 2124 = .ok (.iload 6, 2) := by decide +kernel
theorem dL_law_2126 : decode cL_law 2126 = .ok (.if_icmp .eq 5, 3) := by decide +kernel
theorem dL_law_2129 : decode cL_law 2129 = .ok (.iconst 0, 1) := by decide +kernel
theorem dL_law_2130 : decode cL_law 2130 = .ok (.ireturn, 1) := by decide +kernel
theorem dL_law_2131 : decode cL_law 2131 = .ok (.iload 6, 2) := by decide +kernel
theorem dL_law_2133 : decode cL_law 2133 = .ok (.ifCond .ne 22, 3) := by decide +kernel
theorem dL_law_2136 : decode cL_law 2136 = .ok (.aload_n 3, 1) := by decide +kernel
theorem dL_law_2137 : decode cL_law 2137 = .ok (.iconst 0, 1) := by decide +kernel
theorem dL_law_2138 : decode cL_law 2138 = .ok (.laload, 1) := by decide +kernel
theorem dL_law_2139 : decode cL_law 2139 = .ok (.iload 7, 2) := by decide +kernel
theorem dL_law_2141 : decode cL_law 2141 = .ok (.ifCond .eq 7, 3) := by decide +kernel
theorem dL_law_2144 : decode cL_law 2144 = .ok (.lconst 1, 1) := by decide +kernel
theorem dL_law_2145 : decode cL_law 2145 = .ok (.goto 4, 3) := by decide +kernel
theorem dL_law_2148 : decode cL_law 2148 = .ok (.lconst 0, 1) := by decide +kernel
theorem dL_law_2149 : decode cL_law 2149 = .ok (.lcmp, 1) := by decide +kernel
theorem dL_law_2150 : decode cL_law 2150 = .ok (.ifCond .eq 5, 3) := by decide +kernel
theorem dL_law_2153 : decode cL_law 2153 = .ok (.iconst 0, 1) := by decide +kernel
theorem dL_law_2154 : decode cL_law 2154 = .ok (.ireturn, 1) := by decide +kernel
theorem dL_law_2155 : decode cL_law 2155 = .ok (.goto 802, 3) := by decide +kernel
theorem dL_law_2158 : decode cL_law 2158 = .ok (.aload_n 1, 1) := by decide +kernel
theorem dL_law_2159 : decode cL_law 2159 = .ok (.aload_n 0, 1) := by decide +kernel
theorem dL_law_2160 : decode cL_law 2160 = .ok (.iload 5, 2) := by decide +kernel
theorem dL_law_2162 : decode cL_law 2162 = .ok (.iconst 1, 1) := by decide +kernel
theorem dL_law_2163 : decode cL_law 2163 = .ok (.iadd, 1) := by decide +kernel
theorem dL_law_2164 : decode cL_law 2164 = .ok (.iaload, 1) := by decide +kernel
theorem dL_law_2165 : decode cL_law 2165 = .ok (.aload_n 0, 1) := by decide +kernel
theorem dL_law_2166 : decode cL_law 2166 = .ok (.iload 5, 2) := by decide +kernel
theorem dL_law_2168 : decode cL_law 2168 = .ok (.iconst 2, 1) := by decide +kernel
theorem dL_law_2169 : decode cL_law 2169 = .ok (.iadd, 1) := by decide +kernel
theorem dL_law_2170 : decode cL_law 2170 = .ok (.iaload, 1) := by decide +kernel
theorem dL_law_2171 : decode cL_law 2171 = .ok (.aload_n 3, 1) := by decide +kernel
theorem dL_law_2172 : decode cL_law 2172 = .ok (.invokestatic 278, 3) := by decide +kernel
theorem dL_law_2175 : decode cL_law 2175 = .ok (.istore 6, 2) := by decide +kernel
theorem dL_law_2177 : decode cL_law 2177 = .ok (.aload_n 2, 1) := by decide +kernel
theorem dL_law_2178 : decode cL_law 2178 = .ok (.aload_n 0, 1) := by decide +kernel
theorem dL_law_2179 : decode cL_law 2179 = .ok (.iload 5, 2) := by decide +kernel
theorem dL_law_2181 : decode cL_law 2181 = .ok (.iconst 1, 1) := by decide +kernel
theorem dL_law_2182 : decode cL_law 2182 = .ok (.iadd, 1) := by decide +kernel
theorem dL_law_2183 : decode cL_law 2183 = .ok (.iaload, 1) := by decide +kernel
theorem dL_law_2184 : decode cL_law 2184 = .ok (.aload_n 0, 1) := by decide +kernel
theorem dL_law_2185 : decode cL_law 2185 = .ok (.iload 5, 2) := by decide +kernel
theorem dL_law_2187 : decode cL_law 2187 = .ok (.iconst 2, 1) := by decide +kernel
theorem dL_law_2188 : decode cL_law 2188 = .ok (.iadd, 1) := by decide +kernel
theorem dL_law_2189 : decode cL_law 2189 = .ok (.iaload, 1) := by decide +kernel
theorem dL_law_2190 : decode cL_law 2190 = .ok (.invokevirtual 280, 3) := by decide +kernel
theorem dL_law_2193 : decode cL_law 2193 = .ok (.istore 7, 2) := by decide +kernel
theorem dL_law_2195 : decode cL_law 2195 = .ok (.aload_n 2, 1) := by decide +kernel
theorem dL_law_2196 : decode cL_law 2196 = .ok (.invokevirtual 165, 3) := by decide +kernel
theorem dL_law_2199 : decode cL_law 2199 = .ok (.iload 6, 2) := by decide +kernel
theorem dL_law_2201 : decode cL_law 2201 = .ok (.if_icmp .eq 5, 3) := by decide +kernel
theorem dL_law_2204 : decode cL_law 2204 = .ok (.iconst 0, 1) := by decide +kernel
theorem dL_law_2205 : decode cL_law 2205 = .ok (.ireturn, 1) := by decide +kernel
theorem dL_law_2206 : decode cL_law 2206 = .ok (.iload 6, 2) := by decide +kernel
theorem dL_law_2208 : decode cL_law 2208 = .ok (.ifCond .ne 22, 3) := by decide +kernel
theorem dL_law_2211 : decode cL_law 2211 = .ok (.aload_n 3, 1) := by decide +kernel
theorem dL_law_2212 : decode cL_law 2212 = .ok (.iconst 0, 1) := by decide +kernel
theorem dL_law_2213 : decode cL_law 2213 = .ok (.laload, 1) := by decide +kernel
theorem dL_law_2214 : decode cL_law 2214 = .ok (.iload 7, 2) := by decide +kernel
theorem dL_law_2216 : decode cL_law 2216 = .ok (.ifCond .eq 7, 3) := by decide +kernel
theorem dL_law_2219 : decode cL_law 2219 = .ok (.lconst 1, 1) := by decide +kernel
theorem dL_law_2220 : decode cL_law 2220 = .ok (.goto 4, 3) := by decide +kernel
theorem dL_law_2223 : decode cL_law 2223 = .ok (.lconst 0, 1) := by decide +kernel
theorem dL_law_2224 : decode cL_law 2224 = .ok (.lcmp, 1) := by decide +kernel
theorem dL_law_2225 : decode cL_law 2225 = .ok (.ifCond .eq 5, 3) := by decide +kernel
theorem dL_law_2228 : decode cL_law 2228 = .ok (.iconst 0, 1) := by decide +kernel
theorem dL_law_2229 : decode cL_law 2229 = .ok (.ireturn, 1) := by decide +kernel
theorem dL_law_2230 : decode cL_law 2230 = .ok (.goto 727, 3) := by decide +kernel
theorem dL_law_2233 : decode cL_law 2233 = .ok (.aload_n 1, 1) := by decide +kernel
theorem dL_law_2234 : decode cL_law 2234 = .ok (.aload_n 0, 1) := by decide +kernel
theorem dL_law_2235 : decode cL_law 2235 = .ok (.iload 5, 2) := by decide +kernel
theorem dL_law_2237 : decode cL_law 2237 = .ok (.iconst 1, 1) := by decide +kernel
theorem dL_law_2238 : decode cL_law 2238 = .ok (.iadd, 1) := by decide +kernel
theorem dL_law_2239 : decode cL_law 2239 = .ok (.iaload, 1) := by decide +kernel
theorem dL_law_2240 : decode cL_law 2240 = .ok (.aload_n 3, 1) := by decide +kernel
theorem dL_law_2241 : decode cL_law 2241 = .ok (.invokestatic 281, 3) := by decide +kernel
theorem dL_law_2244 : decode cL_law 2244 = .ok (.istore 6, 2) := by decide +kernel
theorem dL_law_2246 : decode cL_law 2246 = .ok (.aload_n 2, 1) := by decide +kernel
theorem dL_law_2247 : decode cL_law 2247 = .ok (.aload_n 0, 1) := by decide +kernel
theorem dL_law_2248 : decode cL_law 2248 = .ok (.iload 5, 2) := by decide +kernel
theorem dL_law_2250 : decode cL_law 2250 = .ok (.iconst 1, 1) := by decide +kernel
theorem dL_law_2251 : decode cL_law 2251 = .ok (.iadd, 1) := by decide +kernel
theorem dL_law_2252 : decode cL_law 2252 = .ok (.iaload, 1) := by decide +kernel
theorem dL_law_2253 : decode cL_law 2253 = .ok (.invokevirtual 283, 3) := by decide +kernel
theorem dL_law_2256 : decode cL_law 2256 = .ok (.istore 7, 2) := by decide +kernel
theorem dL_law_2258 : decode cL_law 2258 = .ok (.aload_n 2, 1) := by decide +kernel
theorem dL_law_2259 : decode cL_law 2259 = .ok (.invokevirtual 165, 3) := by decide +kernel
theorem dL_law_2262 : decode cL_law 2262 = .ok (.iload 6, 2) := by decide +kernel
theorem dL_law_2264 : decode cL_law 2264 = .ok (.if_icmp .eq 5, 3) := by decide +kernel
theorem dL_law_2267 : decode cL_law 2267 = .ok (.iconst 0, 1) := by decide +kernel
theorem dL_law_2268 : decode cL_law 2268 = .ok (.ireturn, 1) := by decide +kernel
theorem dL_law_2269 : decode cL_law 2269 = .ok (.iload 6, 2) := by decide +kernel
theorem dL_law_2271 : decode cL_law 2271 = .ok (.ifCond .ne 15, 3) := by decide +kernel
theorem dL_law_2274 : decode cL_law 2274 = .ok (.aload_n 3, 1) := by decide +kernel
theorem dL_law_2275 : decode cL_law 2275 = .ok (.iconst 0, 1) := by decide +kernel
theorem dL_law_2276 : decode cL_law 2276 = .ok (.laload, 1) := by decide +kernel
theorem dL_law_2277 : decode cL_law 2277 = .ok (.iload 7, 2) := by decide +kernel
theorem dL_law_2279 : decode cL_law 2279 = .ok (.i2l, 1) := by decide +kernel
theorem dL_law_2280 : decode cL_law 2280 = .ok (.lcmp, 1) := by decide +kernel
theorem dL_law_2281 : decode cL_law 2281 = .ok (.ifCond .eq 5, 3) := by decide +kernel
theorem dL_law_2284 : decode cL_law 2284 = .ok (.iconst 0, 1) := by decide +kernel
theorem dL_law_2285 : decode cL_law 2285 = .ok (.ireturn, 1) := by decide +kernel
theorem dL_law_2286 : decode cL_law 2286 = .ok (.goto 671, 3) := by decide +kernel
theorem dL_law_2289 : decode cL_law 2289 = .ok (.aload_n 1, 1) := by decide +kernel
theorem dL_law_2290 : decode cL_law 2290 = .ok (.invokevirtual 284, 3) := by decide +kernel
theorem dL_law_2293 : decode cL_law 2293 = .ok (.aload_n 2, 1) := by decide +kernel
theorem dL_law_2294 : decode cL_law 2294 = .ok (.invokevirtual 287, 3) := by decide +kernel
theorem dL_law_2297 : decode cL_law 2297 = .ok (.if_icmp .eq 660, 3) := by decide +kernel
theorem dL_law_2300 : decode cL_law 2300 = .ok (.iconst 0, 1) := by decide +kernel
theorem dL_law_2301 : decode cL_law 2301 = .ok (.ireturn, 1) := by decide +kernel
theorem dL_law_2302 : decode cL_law 2302 = .ok (.aload_n 1, 1) := by decide +kernel
theorem dL_law_2303 : decode cL_law 2303 = .ok (.invokevirtual 288, 3) := by decide +kernel
theorem dL_law_2306 : decode cL_law 2306 = .ok (.aload_n 2, 1) := by decide +kernel
theorem dL_law_2307 : decode cL_law 2307 = .ok (.invokevirtual 291, 3) := by decide +kernel
theorem dL_law_2310 : decode cL_law 2310 = .ok (.if_icmp .eq 647, 3) := by decide +kernel
theorem dL_law_2313 : decode cL_law 2313 = .ok (.iconst 0, 1) := by decide +kernel
theorem dL_law_2314 : decode cL_law 2314 = .ok (.ireturn, 1) := by decide +kernel
theorem dL_law_2315 : decode cL_law 2315 = .ok (.aload_n 1, 1) := by decide +kernel
theorem dL_law_2316 : decode cL_law 2316 = .ok (.invokevirtual 292, 3) := by decide +kernel
theorem dL_law_2319 : decode cL_law 2319 = .ok (.aload_n 2, 1) := by decide +kernel
theorem dL_law_2320 : decode cL_law 2320 = .ok (.invokevirtual 295, 3) := by decide +kernel
theorem dL_law_2323 : decode cL_law 2323 = .ok (.if_icmp .eq 634, 3) := by decide +kernel
theorem dL_law_2326 : decode cL_law 2326 = .ok (.iconst 0, 1) := by decide +kernel
theorem dL_law_2327 : decode cL_law 2327 = .ok (.ireturn, 1) := by decide +kernel
theorem dL_law_2328 : decode cL_law 2328 = .ok (.aload_n 1, 1) := by decide +kernel
theorem dL_law_2329 : decode cL_law 2329 = .ok (.invokevirtual 296, 3) := by decide +kernel
theorem dL_law_2332 : decode cL_law 2332 = .ok (.aload_n 2, 1) := by decide +kernel
theorem dL_law_2333 : decode cL_law 2333 = .ok (.invokevirtual 299, 3) := by decide +kernel
theorem dL_law_2336 : decode cL_law 2336 = .ok (.if_icmp .eq 621, 3) := by decide +kernel
theorem dL_law_2339 : decode cL_law 2339 = .ok (.iconst 0, 1) := by decide +kernel
theorem dL_law_2340 : decode cL_law 2340 = .ok (.ireturn, 1) := by decide +kernel
theorem dL_law_2341 : decode cL_law 2341 = .ok (.aload_n 1, 1) := by decide +kernel
theorem dL_law_2342 : decode cL_law 2342 = .ok (.invokevirtual 300, 3) := by decide +kernel
theorem dL_law_2345 : decode cL_law 2345 = .ok (.aload_n 2, 1) := by decide +kernel
theorem dL_law_2346 : decode cL_law 2346 = .ok (.invokevirtual 303, 3) := by decide +kernel
theorem dL_law_2349 : decode cL_law 2349 = .ok (.if_icmp .eq 608, 3) := by decide +kernel
theorem dL_law_2352 : decode cL_law 2352 = .ok (.iconst 0, 1) := by decide +kernel
theorem dL_law_2353 : decode cL_law 2353 = .ok (.ireturn, 1) := by decide +kernel
theorem dL_law_2354 : decode cL_law 2354 = .ok (.aload_n 1, 1) := by decide +kernel
theorem dL_law_2355 : decode cL_law 2355 = .ok (.aload_n 0, 1) := by decide +kernel
theorem dL_law_2356 : decode cL_law 2356 = .ok (.iload 5, 2) := by decide +kernel
theorem dL_law_2358 : decode cL_law 2358 = .ok (.iconst 1, 1) := by decide +kernel
theorem dL_law_2359 : decode cL_law 2359 = .ok (.iadd, 1) := by decide +kernel
theorem dL_law_2360 : decode cL_law 2360 = .ok (.iaload, 1) := by decide +kernel
theorem dL_law_2361 : decode cL_law 2361 = .ok (.aload_n 3, 1) := by decide +kernel
theorem dL_law_2362 : decode cL_law 2362 = .ok (.invokestatic 304, 3) := by decide +kernel
theorem dL_law_2365 : decode cL_law 2365 = .ok (.istore 6, 2) := by decide +kernel
theorem dL_law_2367 : decode cL_law 2367 = .ok (.aload_n 2, 1) := by decide +kernel
theorem dL_law_2368 : decode cL_law 2368 = .ok (.aload_n 0, 1) := by decide +kernel
theorem dL_law_2369 : decode cL_law 2369 = .ok (.iload 5, 2) := by decide +kernel
theorem dL_law_2371 : decode cL_law 2371 = .ok (.iconst 1, 1) := by decide +kernel
theorem dL_law_2372 : decode cL_law 2372 = .ok (.iadd, 1) := by decide +kernel
theorem dL_law_2373 : decode cL_law 2373 = .ok (.iaload, 1) := by decide +kernel
theorem dL_law_2374 : decode cL_law 2374 = .ok (.invokevirtual 306, 3) := by decide +kernel
theorem dL_law_2377 : decode cL_law 2377 = .ok (.istore 7, 2) := by decide +kernel
theorem dL_law_2379 : decode cL_law 2379 = .ok (.aload_n 2, 1) := by decide +kernel
theorem dL_law_2380 : decode cL_law 2380 = .ok (.invokevirtual 165, 3) := by decide +kernel
theorem dL_law_2383 : decode cL_law 2383 = .ok (.iload 6, 2) := by decide +kernel
theorem dL_law_2385 : decode cL_law 2385 = .ok (.if_icmp .eq 5, 3) := by decide +kernel
theorem dL_law_2388 : decode cL_law 2388 = .ok (.iconst 0, 1) := by decide +kernel
theorem dL_law_2389 : decode cL_law 2389 = .ok (.ireturn, 1) := by decide +kernel
theorem dL_law_2390 : decode cL_law 2390 = .ok (.iload 6, 2) := by decide +kernel
theorem dL_law_2392 : decode cL_law 2392 = .ok (.ifCond .ne 15, 3) := by decide +kernel
theorem dL_law_2395 : decode cL_law 2395 = .ok (.aload_n 3, 1) := by decide +kernel
theorem dL_law_2396 : decode cL_law 2396 = .ok (.iconst 0, 1) := by decide +kernel
theorem dL_law_2397 : decode cL_law 2397 = .ok (.laload, 1) := by decide +kernel
theorem dL_law_2398 : decode cL_law 2398 = .ok (.iload 7, 2) := by decide +kernel
theorem dL_law_2400 : decode cL_law 2400 = .ok (.i2l, 1) := by decide +kernel
theorem dL_law_2401 : decode cL_law 2401 = .ok (.lcmp, 1) := by decide +kernel
theorem dL_law_2402 : decode cL_law 2402 = .ok (.ifCond .eq 5, 3) := by decide +kernel
theorem dL_law_2405 : decode cL_law 2405 = .ok (.iconst 0, 1) := by decide +kernel
theorem dL_law_2406 : decode cL_law 2406 = .ok (.ireturn, 1) := by decide +kernel
theorem dL_law_2407 : decode cL_law 2407 = .ok (.goto 550, 3) := by decide +kernel
theorem dL_law_2410 : decode cL_law 2410 = .ok (.aload_n 1, 1) := by decide +kernel
theorem dL_law_2411 : decode cL_law 2411 = .ok (.aload 4, 2) := by decide +kernel
theorem dL_law_2413 : decode cL_law 2413 = .ok (.invokestatic 307, 3) := by decide +kernel
theorem dL_law_2416 : decode cL_law 2416 = .ok (.istore 6, 2) := by decide +kernel
theorem dL_law_2418 : decode cL_law 2418 = .ok (.aload_n 2, 1) := by decide +kernel
theorem dL_law_2419 : decode cL_law 2419 = .ok (.invokevirtual 310, 3) := by decide +kernel
theorem dL_law_2422 : decode cL_law 2422 = .ok (.dstore 7, 2) := by decide +kernel
theorem dL_law_2424 : decode cL_law 2424 = .ok (.aload_n 2, 1) := by decide +kernel
theorem dL_law_2425 : decode cL_law 2425 = .ok (.invokevirtual 165, 3) := by decide +kernel
theorem dL_law_2428 : decode cL_law 2428 = .ok (.iload 6, 2) := by decide +kernel
theorem dL_law_2430 : decode cL_law 2430 = .ok (.if_icmp .eq 5, 3) := by decide +kernel
theorem dL_law_2433 : decode cL_law 2433 = .ok (.iconst 0, 1) := by decide +kernel
theorem dL_law_2434 : decode cL_law 2434 = .ok (.ireturn, 1) := by decide +kernel
theorem dL_law_2435 : decode cL_law 2435 = .ok (.iload 6, 2) := by decide +kernel
theorem dL_law_2437 : decode cL_law 2437 = .ok (.ifCond .ne 35, 3) := by decide +kernel
theorem dL_law_2440 : decode cL_law 2440 = .ok (.aload 4, 2) := by decide +kernel
theorem dL_law_2442 : decode cL_law 2442 = .ok (.iconst 0, 1) := by decide +kernel
theorem dL_law_2443 : decode cL_law 2443 = .ok (.daload, 1) := by decide +kernel
theorem dL_law_2444 : decode cL_law 2444 = .ok (.dload 7, 2) := by decide +kernel
theorem dL_law_2446 : decode cL_law 2446 = .ok (.dcmp .l, 1) := by decide +kernel
theorem dL_law_2447 : decode cL_law 2447 = .ok (.ifCond .eq 25, 3) := by decide +kernel
theorem dL_law_2450 : decode cL_law 2450 = .ok (.aload 4, 2) := by decide +kernel
theorem dL_law_2452 : decode cL_law 2452 = .ok (.iconst 0, 1) := by decide +kernel
theorem dL_law_2453 : decode cL_law 2453 = .ok (.daload, 1) := by decide +kernel
theorem dL_law_2454 : decode cL_law 2454 = .ok (.aload 4, 2) := by decide +kernel
theorem dL_law_2456 : decode cL_law 2456 = .ok (.iconst 0, 1) := by decide +kernel
theorem dL_law_2457 : decode cL_law 2457 = .ok (.daload, 1) := by decide +kernel
theorem dL_law_2458 : decode cL_law 2458 = .ok (.dcmp .l, 1) := by decide +kernel
theorem dL_law_2459 : decode cL_law 2459 = .ok (.ifCond .eq 11, 3) := by decide +kernel
theorem dL_law_2462 : decode cL_law 2462 = .ok (.dload 7, 2) := by decide +kernel
theorem dL_law_2464 : decode cL_law 2464 = .ok (.dload 7, 2) := by decide +kernel
theorem dL_law_2466 : decode cL_law 2466 = .ok (.dcmp .l, 1) := by decide +kernel
theorem dL_law_2467 : decode cL_law 2467 = .ok (.ifCond .ne 5, 3) := by decide +kernel
theorem dL_law_2470 : decode cL_law 2470 = .ok (.iconst 0, 1) := by decide +kernel
theorem dL_law_2471 : decode cL_law 2471 = .ok (.ireturn, 1) := by decide +kernel
theorem dL_law_2472 : decode cL_law 2472 = .ok (.goto 485, 3) := by decide +kernel
theorem dL_law_2475 : decode cL_law 2475 = .ok (.aload_n 1, 1) := by decide +kernel
theorem dL_law_2476 : decode cL_law 2476 = .ok (.aload 4, 2) := by decide +kernel
theorem dL_law_2478 : decode cL_law 2478 = .ok (.invokestatic 311, 3) := by decide +kernel
theorem dL_law_2481 : decode cL_law 2481 = .ok (.istore 6, 2) := by decide +kernel
theorem dL_law_2483 : decode cL_law 2483 = .ok (.aload_n 2, 1) := by decide +kernel
theorem dL_law_2484 : decode cL_law 2484 = .ok (.invokevirtual 313, 3) := by decide +kernel
theorem dL_law_2487 : decode cL_law 2487 = .ok (.fstore 7, 2) := by decide +kernel
theorem dL_law_2489 : decode cL_law 2489 = .ok (.aload_n 2, 1) := by decide +kernel
theorem dL_law_2490 : decode cL_law 2490 = .ok (.invokevirtual 165, 3) := by decide +kernel
theorem dL_law_2493 : decode cL_law 2493 = .ok (.iload 6, 2) := by decide +kernel
theorem dL_law_2495 : decode cL_law 2495 = .ok (.if_icmp .eq 5, 3) := by decide +kernel
theorem dL_law_2498 : decode cL_law 2498 = .ok (.iconst 0, 1) := by decide +kernel
theorem dL_law_2499 : decode cL_law 2499 = .ok (.ireturn, 1) := by decide +kernel
theorem dL_law_2500 : decode cL_law 2500 = .ok (.iload 6, 2) := by decide +kernel
theorem dL_law_2502 : decode cL_law 2502 = .ok (.ifCond .ne 36, 3) := by decide +kernel
theorem dL_law_2505 : decode cL_law 2505 = .ok (.aload 4, 2) := by decide +kernel
theorem dL_law_2507 : decode cL_law 2507 = .ok (.iconst 0, 1) := by decide +kernel
theorem dL_law_2508 : decode cL_law 2508 = .ok (.daload, 1) := by decide +kernel
theorem dL_law_2509 : decode cL_law 2509 = .ok (.fload 7, 2) := by decide +kernel
theorem dL_law_2511 : decode cL_law 2511 = .ok (.f2d, 1) := by decide +kernel
theorem dL_law_2512 : decode cL_law 2512 = .ok (.dcmp .l, 1) := by decide +kernel
theorem dL_law_2513 : decode cL_law 2513 = .ok (.ifCond .eq 25, 3) := by decide +kernel
theorem dL_law_2516 : decode cL_law 2516 = .ok (.aload 4, 2) := by decide +kernel
theorem dL_law_2518 : decode cL_law 2518 = .ok (.iconst 0, 1) := by decide +kernel
theorem dL_law_2519 : decode cL_law 2519 = .ok (.daload, 1) := by decide +kernel
theorem dL_law_2520 : decode cL_law 2520 = .ok (.aload 4, 2) := by decide +kernel
theorem dL_law_2522 : decode cL_law 2522 = .ok (.iconst 0, 1) := by decide +kernel
theorem dL_law_2523 : decode cL_law 2523 = .ok (.daload, 1) := by decide +kernel
theorem dL_law_2524 : decode cL_law 2524 = .ok (.dcmp .l, 1) := by decide +kernel
theorem dL_law_2525 : decode cL_law 2525 = .ok (.ifCond .eq 11, 3) := by decide +kernel
theorem dL_law_2528 : decode cL_law 2528 = .ok (.fload 7, 2) := by decide +kernel
theorem dL_law_2530 : decode cL_law 2530 = .ok (.fload 7, 2) := by decide +kernel
theorem dL_law_2532 : decode cL_law 2532 = .ok (.fcmp .l, 1) := by decide +kernel
theorem dL_law_2533 : decode cL_law 2533 = .ok (.ifCond .ne 5, 3) := by decide +kernel
theorem dL_law_2536 : decode cL_law 2536 = .ok (.iconst 0, 1) := by decide +kernel
theorem dL_law_2537 : decode cL_law 2537 = .ok (.ireturn, 1) := by decide +kernel
theorem dL_law_2538 : decode cL_law 2538 = .ok (.goto 419, 3) := by decide +kernel
theorem dL_law_2541 : decode cL_law 2541 = .ok (.aload_n 1, 1) := by decide +kernel
theorem dL_law_2542 : decode cL_law 2542 = .ok (.invokevirtual 314, 3) := by decide +kernel
theorem dL_law_2545 : decode cL_law 2545 = .ok (.aload_n 2, 1) := by decide +kernel
theorem dL_law_2546 : decode cL_law 2546 = .ok (.invokevirtual 318, 3) := by decide +kernel
theorem dL_law_2549 : decode cL_law 2549 = .ok (.if_icmp .eq 408, 3) := by decide +kernel
theorem dL_law_2552 : decode cL_law 2552 = .ok (.iconst 0, 1) := by decide +kernel
theorem dL_law_2553 : decode cL_law 2553 = .ok (.ireturn, 1) := by decide +kernel
theorem dL_law_2554 : decode cL_law 2554 = .ok (.aload_n 1, 1) := by decide +kernel
theorem dL_law_2555 : decode cL_law 2555 = .ok (.aload_n 0, 1) := by decide +kernel
theorem dL_law_2556 : decode cL_law 2556 = .ok (.iload 5, 2) := by decide +kernel
theorem dL_law_2558 : decode cL_law 2558 = .ok (.iconst 1, 1) := by decide +kernel
theorem dL_law_2559 : decode cL_law 2559 = .ok (.iadd, 1) := by decide +kernel
theorem dL_law_2560 : decode cL_law 2560 = .ok (.iaload, 1) := by decide +kernel
theorem dL_law_2561 : decode cL_law 2561 = .ok (.aload_n 3, 1) := by decide +kernel
theorem dL_law_2562 : decode cL_law 2562 = .ok (.invokestatic 319, 3) := by decide +kernel
theorem dL_law_2565 : decode cL_law 2565 = .ok (.istore 6, 2) := by decide +kernel
theorem dL_law_2567 : decode cL_law 2567 = .ok (.aload_n 2, 1) := by decide +kernel
theorem dL_law_2568 : decode cL_law 2568 = .ok (.aload_n 0, 1) := by decide +kernel
theorem dL_law_2569 : decode cL_law 2569 = .ok (.iload 5, 2) := by decide +kernel
theorem dL_law_2571 : decode cL_law 2571 = .ok (.iconst 1, 1) := by decide +kernel
theorem dL_law_2572 : decode cL_law 2572 = .ok (.iadd, 1) := by decide +kernel
theorem dL_law_2573 : decode cL_law 2573 = .ok (.iaload, 1) := by decide +kernel
theorem dL_law_2574 : decode cL_law 2574 = .ok (.invokevirtual 321, 3) := by decide +kernel
theorem dL_law_2577 : decode cL_law 2577 = .ok (.istore 7, 2) := by decide +kernel
theorem dL_law_2579 : decode cL_law 2579 = .ok (.aload_n 2, 1) := by decide +kernel
theorem dL_law_2580 : decode cL_law 2580 = .ok (.invokevirtual 165, 3) := by decide +kernel
theorem dL_law_2583 : decode cL_law 2583 = .ok (.iload 6, 2) := by decide +kernel
theorem dL_law_2585 : decode cL_law 2585 = .ok (.if_icmp .eq 5, 3) := by decide +kernel
theorem dL_law_2588 : decode cL_law 2588 = .ok (.iconst 0, 1) := by decide +kernel
theorem dL_law_2589 : decode cL_law 2589 = .ok (.ireturn, 1) := by decide +kernel
theorem dL_law_2590 : decode cL_law 2590 = .ok (.iload 6, 2) := by decide +kernel
theorem dL_law_2592 : decode cL_law 2592 = .ok (.ifCond .ne 15, 3) := by decide +kernel
theorem dL_law_2595 : decode cL_law 2595 = .ok (.aload_n 3, 1) := by decide +kernel
theorem dL_law_2596 : decode cL_law 2596 = .ok (.iconst 0, 1) := by decide +kernel
theorem dL_law_2597 : decode cL_law 2597 = .ok (.laload, 1) := by decide +kernel
theorem dL_law_2598 : decode cL_law 2598 = .ok (.iload 7, 2) := by decide +kernel
theorem dL_law_2600 : decode cL_law 2600 = .ok (.i2l, 1) := by decide +kernel
theorem dL_law_2601 : decode cL_law 2601 = .ok (.lcmp, 1) := by decide +kernel
theorem dL_law_2602 : decode cL_law 2602 = .ok (.ifCond .eq 5, 3) := by decide +kernel
theorem dL_law_2605 : decode cL_law 2605 = .ok (.iconst 0, 1) := by decide +kernel
theorem dL_law_2606 : decode cL_law 2606 = .ok (.ireturn, 1) := by decide +kernel
theorem dL_law_2607 : decode cL_law 2607 = .ok (.goto 350, 3) := by decide +kernel
theorem dL_law_2610 : decode cL_law 2610 = .ok (.aload_n 1, 1) := by decide +kernel
theorem dL_law_2611 : decode cL_law 2611 = .ok (.aload_n 0, 1) := by decide +kernel
theorem dL_law_2612 : decode cL_law 2612 = .ok (.iload 5, 2) := by decide +kernel
theorem dL_law_2614 : decode cL_law 2614 = .ok (.iconst 1, 1) := by decide +kernel
theorem dL_law_2615 : decode cL_law 2615 = .ok (.iadd, 1) := by decide +kernel
theorem dL_law_2616 : decode cL_law 2616 = .ok (.iaload, 1) := by decide +kernel
theorem dL_law_2617 : decode cL_law 2617 = .ok (.aload_n 3, 1) := by decide +kernel
theorem dL_law_2618 : decode cL_law 2618 = .ok (.invokestatic 322, 3) := by decide +kernel
theorem dL_law_2621 : decode cL_law 2621 = .ok (.istore 6, 2) := by decide +kernel
theorem dL_law_2623 : decode cL_law 2623 = .ok (.aload_n 2, 1) := by decide +kernel
theorem dL_law_2624 : decode cL_law 2624 = .ok (.aload_n 0, 1) := by decide +kernel
theorem dL_law_2625 : decode cL_law 2625 = .ok (.iload 5, 2) := by decide +kernel
theorem dL_law_2627 : decode cL_law 2627 = .ok (.iconst 1, 1) := by decide +kernel
theorem dL_law_2628 : decode cL_law 2628 = .ok (.iadd, 1) := by decide +kernel
theorem dL_law_2629 : decode cL_law 2629 = .ok (.iaload, 1) := by decide +kernel
theorem dL_law_2630 : decode cL_law 2630 = .ok (.invokevirtual 324, 3) := by decide +kernel
theorem dL_law_2633 : decode cL_law 2633 = .ok (.istore 7, 2) := by decide +kernel
theorem dL_law_2635 : decode cL_law 2635 = .ok (.aload_n 2, 1) := by decide +kernel
theorem dL_law_2636 : decode cL_law 2636 = .ok (.invokevirtual 165, 3) := by decide +kernel
theorem dL_law_2639 : decode cL_law 2639 = .ok (.iload 6, 2) := by decide +kernel
theorem dL_law_2641 : decode cL_law 2641 = .ok (.if_icmp .eq 5, 3) := by decide +kernel
theorem dL_law_2644 : decode cL_law 2644 = .ok (.iconst 0, 1) := by decide +kernel
theorem dL_law_2645 : decode cL_law 2645 = .ok (.ireturn, 1) := by decide +kernel
theorem dL_law_2646 : decode cL_law 2646 = .ok (.iload 6, 2) := by decide +kernel
theorem dL_law_2648 : decode cL_law 2648 = .ok (.ifCond .ne 15, 3) := by decide +kernel
theorem dL_law_2651 : decode cL_law 2651 = .ok (.aload_n 3, 1) := by decide +kernel
theorem dL_law_2652 : decode cL_law 2652 = .ok (.iconst 0, 1) := by decide +kernel
theorem dL_law_2653 : decode cL_law 2653 = .ok (.laload, 1) := by decide +kernel
theorem dL_law_2654 : decode cL_law 2654 = .ok (.iload 7, 2) := by decide +kernel
theorem dL_law_2656 : decode cL_law 2656 = .ok (.i2l, 1) := by decide +kernel
theorem dL_law_2657 : decode cL_law 2657 = .ok (.lcmp, 1) := by decide +kernel
theorem dL_law_2658 : decode cL_law 2658 = .ok (.ifCond .eq 5, 3) := by decide +kernel
theorem dL_law_2661 : decode cL_law 2661 = .ok (.iconst 0, 1) := by decide +kernel
theorem dL_law_2662 : decode cL_law 2662 = .ok (.ireturn, 1) := by decide +kernel
theorem dL_law_2663 : decode cL_law 2663 = .ok (.goto 294, 3) := by decide +kernel
theorem dL_law_2666 : decode cL_law 2666 = .ok (.aload_n 1, 1) := by decide +kernel
theorem dL_law_2667 : decode cL_law 2667 = .ok (.aload_n 0, 1) := by decide +kernel
theorem dL_law_2668 : decode cL_law 2668 = .ok (.iload 5, 2) := by decide +kernel
theorem dL_law_2670 : decode cL_law 2670 = .ok (.iconst 1, 1) := by decide +kernel
theorem dL_law_2671 : decode cL_law 2671 = .ok (.iadd, 1) := by decide +kernel
theorem dL_law_2672 : decode cL_law 2672 = .ok (.iaload, 1) := by decide +kernel
theorem dL_law_2673 : decode cL_law 2673 = .ok (.i2c, 1) := by decide +kernel
theorem dL_law_2674 : decode cL_law 2674 = .ok (.aload_n 3, 1) := by decide +kernel
theorem dL_law_2675 : decode cL_law 2675 = .ok (.invokestatic 325, 3) := by decide +kernel
theorem dL_law_2678 : decode cL_law 2678 = .ok (.istore 6, 2) := by decide +kernel
theorem dL_law_2680 : decode cL_law 2680 = .ok (.aload_n 2, 1) := by decide +kernel
theorem dL_law_2681 : decode cL_law 2681 = .ok (.aload_n 0, 1) := by decide +kernel
theorem dL_law_2682 : decode cL_law 2682 = .ok (.iload 5, 2) := by decide +kernel
theorem dL_law_2684 : decode cL_law 2684 = .ok (.iconst 1, 1) := by decide +kernel
theorem dL_law_2685 : decode cL_law 2685 = .ok (.iadd, 1) := by decide +kernel
theorem dL_law_2686 : decode cL_law 2686 = .ok (.iaload, 1) := by decide +kernel
theorem dL_law_2687 : decode cL_law 2687 = .ok (.i2c, 1) := by decide +kernel
theorem dL_law_2688 : decode cL_law 2688 = .ok (.invokevirtual 328, 3) := by decide +kernel
theorem dL_law_2691 : decode cL_law 2691 = .ok (.istore 7, 2) := by decide +kernel
theorem dL_law_2693 : decode cL_law 2693 = .ok (.aload_n 2, 1) := by decide +kernel
theorem dL_law_2694 : decode cL_law 2694 = .ok (.invokevirtual 165, 3) := by decide +kernel
theorem dL_law_2697 : decode cL_law 2697 = .ok (.iload 6, 2) := by decide +kernel
theorem dL_law_2699 : decode cL_law 2699 = .ok (.if_icmp .eq 5, 3) := by decide +kernel
theorem dL_law_2702 : decode cL_law 2702 = .ok (.iconst 0, 1) := by decide +kernel
theorem dL_law_2703 : decode cL_law 2703 = .ok (.ireturn, 1) := by decide +kernel
theorem dL_law_2704 : decode cL_law 2704 = .ok (.iload 6, 2) := by decide +kernel
theorem dL_law_2706 : decode cL_law 2706 = .ok (.ifCond .ne 15, 3) := by decide +kernel
theorem dL_law_2709 : decode cL_law 2709 = .ok (.aload_n 3, 1) := by decide +kernel
theorem dL_law_2710 : decode cL_law 2710 = .ok (.iconst 0, 1) := by decide +kernel
theorem dL_law_2711 : decode cL_law 2711 = .ok (.laload, 1) := by decide +kernel
theorem dL_law_2712 : decode cL_law 2712 = .ok (.iload 7, 2) := by decide +kernel
theorem dL_law_2714 : decode cL_law 2714 = .ok (.i2l, 1) := by decide +kernel
theorem dL_law_2715 : decode cL_law 2715 = .ok (.lcmp, 1) := by decide +kernel
theorem dL_law_2716 : decode cL_law 2716 = .ok (.ifCond .eq 5, 3) := by decide +kernel
theorem dL_law_2719 : decode cL_law 2719 = .ok (.iconst 0, 1) := by decide +kernel
theorem dL_law_2720 : decode cL_law 2720 = .ok (.ireturn, 1) := by decide +kernel
theorem dL_law_2721 : decode cL_law 2721 = .ok (.goto 236, 3) := by decide +kernel
theorem dL_law_2724 : decode cL_law 2724 = .ok (.aload_n 1, 1) := by decide +kernel
theorem dL_law_2725 : decode cL_law 2725 = .ok (.aload_n 3, 1) := by decide +kernel
theorem dL_law_2726 : decode cL_law 2726 = .ok (.invokestatic 329, 3) := by decide +kernel
theorem dL_law_2729 : decode cL_law 2729 = .ok (.istore 6, 2) := by decide +kernel
theorem dL_law_2731 : decode cL_law 2731 = .ok (.aload_n 2, 1) := by decide +kernel
theorem dL_law_2732 : decode cL_law 2732 = .ok (.invokevirtual 332, 3) := by decide +kernel
theorem dL_law_2735 : decode cL_law 2735 = .ok (.istore 7, 2) := by decide +kernel
theorem dL_law_2737 : decode cL_law 2737 = .ok (.aload_n 2, 1) := by decide +kernel
theorem dL_law_2738 : decode cL_law 2738 = .ok (.invokevirtual 165, 3) := by decide +kernel
theorem dL_law_2741 : decode cL_law 2741 = .ok (.iload 6, 2) := by decide +kernel
theorem dL_law_2743 : decode cL_law 2743 = .ok (.if_icmp .eq 5, 3) := by decide +kernel
theorem dL_law_2746 : decode cL_law 2746 = .ok (.iconst 0, 1) := by decide +kernel
theorem dL_law_2747 : decode cL_law 2747 = .ok (.ireturn, 1) := by decide +kernel
theorem dL_law_2748 : decode cL_law 2748 = .ok (.iload 6, 2) := by decide +kernel
theorem dL_law_2750 : decode cL_law 2750 = .ok (.ifCond .ne 15, 3) := by decide +kernel
theorem dL_law_2753 : decode cL_law 2753 = .ok (.aload_n 3, 1) := by decide +kernel
theorem dL_law_2754 : decode cL_law 2754 = .ok (.iconst 0, 1) := by decide +kernel
theorem dL_law_2755 : decode cL_law 2755 = .ok (.laload, 1) := by decide +kernel
theorem dL_law_2756 : decode cL_law 2756 = .ok (.iload 7, 2) := by decide +kernel
theorem dL_law_2758 : decode cL_law 2758 = .ok (.i2l, 1) := by decide +kernel
theorem dL_law_2759 : decode cL_law 2759 = .ok (.lcmp, 1) := by decide +kernel
theorem dL_law_2760 : decode cL_law 2760 = .ok (.ifCond .eq 5, 3) := by decide +kernel
theorem dL_law_2763 : decode cL_law 2763 = .ok (.iconst 0, 1) := by decide +kernel
theorem dL_law_2764 : decode cL_law 2764 = .ok (.ireturn, 1) := by decide +kernel
theorem dL_law_2765 : decode cL_law 2765 = .ok (.goto 192, 3) := by decide +kernel
theorem dL_law_2768 : decode cL_law 2768 = .ok (.aload_n 1, 1) := by decide +kernel
theorem dL_law_2769 : decode cL_law 2769 = .ok (.aload_n 3, 1) := by decide +kernel
theorem dL_law_2770 : decode cL_law 2770 = .ok (.invokestatic 333, 3) := by decide +kernel
theorem dL_law_2773 : decode cL_law 2773 = .ok (.istore 6, 2) := by decide +kernel
theorem dL_law_2775 : decode cL_law 2775 = .ok (.aload_n 2, 1) := by decide +kernel
theorem dL_law_2776 : decode cL_law 2776 = .ok (.invokevirtual 335, 3) := by decide +kernel
theorem dL_law_2779 : decode cL_law 2779 = .ok (.istore 7, 2) := by decide +kernel
theorem dL_law_2781 : decode cL_law 2781 = .ok (.aload_n 2, 1) := by decide +kernel
theorem dL_law_2782 : decode cL_law 2782 = .ok (.invokevirtual 165, 3) := by decide +kernel
theorem dL_law_2785 : decode cL_law 2785 = .ok (.iload 6, 2) := by decide +kernel
theorem dL_law_2787 : decode cL_law 2787 = .ok (.if_icmp .eq 5, 3) := by decide +kernel
theorem dL_law_2790 : decode cL_law 2790 = .ok (.iconst 0, 1) := by decide +kernel
theorem dL_law_2791 : decode cL_law 2791 = .ok (.ireturn, 1) := by decide +kernel
theorem dL_law_2792 : decode cL_law 2792 = .ok (.iload 6, 2) := by decide +kernel
theorem dL_law_2794 : decode cL_law 2794 = .ok (.ifCond .ne 15, 3) := by decide +kernel
theorem dL_law_2797 : decode cL_law 2797 = .ok (.aload_n 3, 1) := by decide +kernel
theorem dL_law_2798 : decode cL_law 2798 = .ok (.iconst 0, 1) := by decide +kernel
theorem dL_law_2799 : decode cL_law 2799 = .ok (.laload, 1) := by decide +kernel
theorem dL_law_2800 : decode cL_law 2800 = .ok (.iload 7, 2) := by decide +kernel
theorem dL_law_2802 : decode cL_law 2802 = .ok (.i2l, 1) := by decide +kernel
theorem dL_law_2803 : decode cL_law 2803 = .ok (.lcmp, 1) := by decide +kernel
theorem dL_law_2804 : decode cL_law 2804 = .ok (.ifCond .eq 5, 3) := by decide +kernel
theorem dL_law_2807 : decode cL_law 2807 = .ok (.iconst 0, 1) := by decide +kernel
theorem dL_law_2808 : decode cL_law 2808 = .ok (.ireturn, 1) := by decide +kernel
theorem dL_law_2809 : decode cL_law 2809 = .ok (.goto 148, 3) := by decide +kernel
theorem dL_law_2812 : decode cL_law 2812 = .ok (.aload_n 1, 1) := by decide +kernel
theorem dL_law_2813 : decode cL_law 2813 = .ok (.aload_n 3, 1) := by decide +kernel
theorem dL_law_2814 : decode cL_law 2814 = .ok (.invokestatic 336, 3) := by decide +kernel
theorem dL_law_2817 : decode cL_law 2817 = .ok (.istore 6, 2) := by decide +kernel
theorem dL_law_2819 : decode cL_law 2819 = .ok (.aload_n 2, 1) := by decide +kernel
theorem dL_law_2820 : decode cL_law 2820 = .ok (.invokevirtual 338, 3) := by decide +kernel
theorem dL_law_2823 : decode cL_law 2823 = .ok (.istore 7, 2) := by decide +kernel
theorem dL_law_2825 : decode cL_law 2825 = .ok (.aload_n 2, 1) := by decide +kernel
theorem dL_law_2826 : decode cL_law 2826 = .ok (.invokevirtual 165, 3) := by decide +kernel
theorem dL_law_2829 : decode cL_law 2829 = .ok (.iload 6, 2) := by decide +kernel
theorem dL_law_2831 : decode cL_law 2831 = .ok (.if_icmp .eq 5, 3) := by decide +kernel
theorem dL_law_2834 : decode cL_law 2834 = .ok (.iconst 0, 1) := by decide +kernel
theorem dL_law_2835 : decode cL_law 2835 = .ok (.ireturn, 1) := by decide +kernel
theorem dL_law_2836 : decode cL_law 2836 = .ok (.iload 6, 2) := by decide +kernel
theorem dL_law_2838 : decode cL_law 2838 = .ok (.ifCond .ne 15, 3) := by decide +kernel
theorem dL_law_2841 : decode cL_law 2841 = .ok (.aload_n 3, 1) := by decide +kernel
theorem dL_law_2842 : decode cL_law 2842 = .ok (.iconst 0, 1) := by decide +kernel
theorem dL_law_2843 : decode cL_law 2843 = .ok (.laload, 1) := by decide +kernel
theorem dL_law_2844 : decode cL_law 2844 = .ok (.iload 7, 2) := by decide +kernel
theorem dL_law_2846 : decode cL_law 2846 = .ok (.i2l, 1) := by decide +kernel
theorem dL_law_2847 : decode cL_law 2847 = .ok (.lcmp, 1) := by decide +kernel
theorem dL_law_2848 : decode cL_law 2848 = .ok (.ifCond .eq 5, 3) := by decide +kernel
theorem dL_law_2851 : decode cL_law 2851 = .ok (.iconst 0, 1) := by decide +kernel
theorem dL_law_2852 : decode cL_law 2852 = .ok (.ireturn, 1) := by decide +kernel
theorem dL_law_2853 : decode cL_law 2853 = .ok (.goto 104, 3) := by decide +kernel
theorem dL_law_2856 : decode cL_law 2856 = .ok (.aload_n 1, 1) := by decide +kernel
theorem dL_law_2857 : decode cL_law 2857 = .ok (.aload_n 3, 1) := by decide +kernel
theorem dL_law_2858 : decode cL_law 2858 = .ok (.invokestatic 339, 3) := by decide +kernel
theorem dL_law_2861 : decode cL_law 2861 = .ok (.istore 6, 2) := by decide +kernel
theorem dL_law_2863 : decode cL_law 2863 = .ok (.aload_n 2, 1) := by decide +kernel
theorem dL_law_2864 : decode cL_law 2864 = .ok (.invokevirtual 341, 3) := by decide +kernel
theorem dL_law_2867 : decode cL_law 2867 = .ok (.istore 7, 2) := by decide +kernel
theorem dL_law_2869 : decode cL_law 2869 = .ok (.aload_n 2, 1) := by decide +kernel
theorem dL_law_2870 : decode cL_law 2870 = .ok (.invokevirtual 165, 3) := by decide +kernel
theorem dL_law_2873 : decode cL_law 2873 = .ok (.iload 6, 2) := by decide +kernel
theorem dL_law_2875 : decode cL_law 2875 = .ok (.if_icmp .eq 5, 3) := by decide +kernel
theorem dL_law_2878 : decode cL_law 2878 = .ok (.iconst 0, 1) := by decide +kernel
theorem dL_law_2879 : decode cL_law 2879 = .ok (.ireturn, 1) := by decide +kernel
theorem dL_law_2880 : decode cL_law 2880 = .ok (.iload 6, 2) := by decide +kernel
theorem dL_law_2882 : decode cL_law 2882 = .ok (.ifCond .ne 15, 3) := by decide +kernel
theorem dL_law_2885 : decode cL_law 2885 = .ok (.aload_n 3, 1) := by decide +kernel
theorem dL_law_2886 : decode cL_law 2886 = .ok (.iconst 0, 1) := by decide +kernel
theorem dL_law_2887 : decode cL_law 2887 = .ok (.laload, 1) := by decide +kernel
theorem dL_law_2888 : decode cL_law 2888 = .ok (.iload 7, 2) := by decide +kernel
theorem dL_law_2890 : decode cL_law 2890 = .ok (.i2l, 1) := by decide +kernel
theorem dL_law_2891 : decode cL_law 2891 = .ok (.lcmp, 1) := by decide +kernel
theorem dL_law_2892 : decode cL_law 2892 = .ok (.ifCond .eq 5, 3) := by decide +kernel
theorem dL_law_2895 : decode cL_law 2895 = .ok (.iconst 0, 1) := by decide +kernel
theorem dL_law_2896 : decode cL_law 2896 = .ok (.ireturn, 1) := by decide +kernel
theorem dL_law_2897 : decode cL_law 2897 = .ok (.goto 60, 3) := by decide +kernel
theorem dL_law_2900 : decode cL_law 2900 = .ok (.aload_n 1, 1) := by decide +kernel
theorem dL_law_2901 : decode cL_law 2901 = .ok (.invokevirtual 342, 3) := by decide +kernel
theorem dL_law_2904 : decode cL_law 2904 = .ok (.aload_n 2, 1) := by decide +kernel
theorem dL_law_2905 : decode cL_law 2905 = .ok (.invokevirtual 345, 3) := by decide +kernel
theorem dL_law_2908 : decode cL_law 2908 = .ok (.if_icmp .eq 49, 3) := by decide +kernel
theorem dL_law_2911 : decode cL_law 2911 = .ok (.iconst 0, 1) := by decide +kernel
theorem dL_law_2912 : decode cL_law 2912 = .ok (.ireturn, 1) := by decide +kernel
theorem dL_law_2913 : decode cL_law 2913 = .ok (.aload_n 1, 1) := by decide +kernel
theorem dL_law_2914 : decode cL_law 2914 = .ok (.aload_n 3, 1) := by decide +kernel
theorem dL_law_2915 : decode cL_law 2915 = .ok (.invokestatic 346, 3) := by decide +kernel
theorem dL_law_2918 : decode cL_law 2918 = .ok (.istore 6, 2) := by decide +kernel
theorem dL_law_2920 : decode cL_law 2920 = .ok (.aload_n 2, 1) := by decide +kernel
theorem dL_law_2921 : decode cL_law 2921 = .ok (.invokevirtual 348, 3) := by decide +kernel
theorem dL_law_2924 : decode cL_law 2924 = .ok (.istore 7, 2) := by decide +kernel
theorem dL_law_2926 : decode cL_law 2926 = .ok (.aload_n 2, 1) := by decide +kernel
theorem dL_law_2927 : decode cL_law 2927 = .ok (.invokevirtual 165, 3) := by decide +kernel
theorem dL_law_2930 : decode cL_law 2930 = .ok (.iload 6, 2) := by decide +kernel
theorem dL_law_2932 : decode cL_law 2932 = .ok (.if_icmp .eq 5, 3) := by decide +kernel
theorem dL_law_2935 : decode cL_law 2935 = .ok (.iconst 0, 1) := by decide +kernel
theorem dL_law_2936 : decode cL_law 2936 = .ok (.ireturn, 1) := by decide +kernel
theorem dL_law_2937 : decode cL_law 2937 = .ok (.iload 6, 2) := by decide +kernel
theorem dL_law_2939 : decode cL_law 2939 = .ok (.ifCond .ne 15, 3) := by decide +kernel
theorem dL_law_2942 : decode cL_law 2942 = .ok (.aload_n 3, 1) := by decide +kernel
theorem dL_law_2943 : decode cL_law 2943 = .ok (.iconst 0, 1) := by decide +kernel
theorem dL_law_2944 : decode cL_law 2944 = .ok (.laload, 1) := by decide +kernel
theorem dL_law_2945 : decode cL_law 2945 = .ok (.iload 7, 2) := by decide +kernel
theorem dL_law_2947 : decode cL_law 2947 = .ok (.i2l, 1) := by decide +kernel
theorem dL_law_2948 : decode cL_law 2948 = .ok (.lcmp, 1) := by decide +kernel
theorem dL_law_2949 : decode cL_law 2949 = .ok (.ifCond .eq 5, 3) := by decide +kernel
theorem dL_law_2952 : decode cL_law 2952 = .ok (.iconst 0, 1) := by decide +kernel
theorem dL_law_2953 : decode cL_law 2953 = .ok (.ireturn, 1) := by decide +kernel
theorem dL_law_2954 : decode cL_law 2954 = .ok (.goto 3, 3) := by decide +kernel
theorem dL_law_2957 : decode cL_law 2957 = .ok (.iinc 5 4, 3) := by decide +kernel
theorem dL_law_2960 : decode cL_law 2960 = .ok (.goto (-2932), 3) := by decide +kernel
theorem dL_law_2963 : decode cL_law 2963 = .ok (.iconst 1, 1) := by decide +kernel
theorem dL_law_2964 : decode cL_law 2964 = .ok (.ireturn, 1) := by decide +kernel
