theorem dX11_then_42 : decode cX11_then 42 = .ok (.aload_n 0, 1) := by decide +kernel
theorem dX11_then_43 : decode cX11_then 43 = .ok (.getfield 35, 3) := by decide +kernel
theorem dX11_then_46 : decode cX11_then 46 = .ok (.aload_n 0, 1) := by decide +kernel
theorem dX11_then_47 : decode cX11_then 47 = .ok (.getfield 28, 3) := by decide +kernel
theorem dX11_then_50 : decode cX11_then 50 = .ok (.invokevirtual 170, 3) := by decide +kernel
theorem dX11_then_53 : decode cX11_then 53 = .ok (.aload_n 0, 1) := by decide +kernel
theorem dX11_then_54 : decode cX11_then 54 = .ok (.aload_n 0, 1) := by decide +kernel
theorem dX11_then_55 : decode cX11_then 55 = .ok (.getfield 28, 3) := by decide +kernel
theorem dX11_then_58 : decode cX11_then 58 = .ok (.iload_n 1, 1) := by decide +kernel
theorem dX11_then_59 : decode cX11_then 59 = .ok (.invokevirtual 216, 3) := by decide +kernel
theorem dX11_then_62 : decode cX11_then 62 = .ok (.pop, 1) := by decide +kernel
theorem dX11_then_63 : decode cX11_then 63 = .ok (.aload_n 0, 1) := by decide +kernel
theorem dX11_then_64 : decode cX11_then 64 = .ok (.getfield 28, 3) := by decide +kernel
theorem dX11_then_67 : decode cX11_then 67 = .ok (.iload_n 2, 1) := by decide +kernel
theorem dX11_then_68 : decode cX11_then 68 = .ok (.iload_n 3, 1) := by decide +kernel
theorem dX11_then_69 : decode cX11_then 69 = .ok (.invokestatic 201, 3) := by decide +kernel
theorem dX11_then_72 : decode cX11_then 72 = .ok (.lreturn, 1) := by decide +kernel
theorem dX11_see_0 : decode cX11_see 0 = .ok (.iload_n 1, 1) := by decide +kernel
theorem dX11_see_1 : decode cX11_see 1 = .ok (.iconst (-1), 1) := by decide +kernel
theorem dX11_see_2 : decode cX11_see 2 = .ok (.if_icmp .ne 14, 3) := by decide +kernel
theorem dX11_see_5 : decode cX11_see 5 = .ok (.aload_n 0, 1) := by decide +kernel
theorem dX11_see_6 : decode cX11_see 6 = .ok (.getfield 14, 3) := by decide +kernel
theorem dX11_see_9 : decode cX11_see 9 = .ok (.getfield 251, 3) := by decide +kernel
theorem dX11_see_12 : decode cX11_see 12 = .ok (.invokevirtual 255, 3) := by decide +kernel
theorem dX11_see_15 : decode cX11_see 15 = .ok (.ireturn, 1) := by decide +kernel
theorem dX11_see_16 : decode cX11_see 16 = .ok (.aload_n 0, 1) := by decide +kernel
theorem dX11_see_17 : decode cX11_see 17 = .ok (.getfield 14, 3) := by decide +kernel
theorem dX11_see_20 : decode cX11_see 20 = .ok (.getfield 60, 3) := by decide +kernel
theorem dX11_see_23 : decode cX11_see 23 = .ok (.iload_n 1, 1) := by decide +kernel
theorem dX11_see_24 : decode cX11_see 24 = .ok (.invokevirtual 71, 3) := by decide +kernel
theorem dX11_see_27 : decode cX11_see 27 = .ok (.ifCond .ne 5, 3) := by decide +kernel
theorem dX11_see_30 : decode cX11_see 30 = .ok (.iconst (-1), 1) := by decide +kernel
theorem dX11_see_31 : decode cX11_see 31 = .ok (.ireturn, 1) := by decide +kernel
theorem dX11_see_32 : decode cX11_see 32 = .ok (.iload_n 2, 1) := by decide +kernel
theorem dX11_see_33 : decode cX11_see 33 = .ok (.ifCond .lt 8, 3) := by decide +kernel
theorem dX11_see_36 : decode cX11_see 36 = .ok (.iload_n 2, 1) := by decide +kernel
theorem dX11_see_37 : decode cX11_see 37 = .ok (.iconst 4, 1) := by decide +kernel
theorem dX11_see_38 : decode cX11_see 38 = .ok (.if_icmp .le 6, 3) := by decide +kernel
theorem dX11_see_41 : decode cX11_see 41 = .ok (.bipush (-2), 2) := by decide +kernel
theorem dX11_see_43 : decode cX11_see 43 = .ok (.ireturn, 1) := by decide +kernel
theorem dX11_see_44 : decode cX11_see 44 = .ok (.aload_n 0, 1) := by decide +kernel
theorem dX11_see_45 : decode cX11_see 45 = .ok (.getfield 14, 3) := by decide +kernel
theorem dX11_see_48 : decode cX11_see 48 = .ok (.getfield 251, 3) := by decide +kernel
theorem dX11_see_51 : decode cX11_see 51 = .ok (.iload_n 1, 1) := by decide +kernel
theorem dX11_see_52 : decode cX11_see 52 = .ok (.iload_n 2, 1) := by decide +kernel
theorem dX11_see_53 : decode cX11_see 53 = .ok (.iload_n 3, 1) := by decide +kernel
theorem dX11_see_54 : decode cX11_see 54 = .ok (.invokevirtual 259, 3) := by decide +kernel
theorem dX11_see_57 : decode cX11_see 57 = .ok (.ireturn, 1) := by decide +kernel
theorem dX11_fits_0 : decode cX11_fits 0 = .ok (.aload_n 0, 1) := by decide +kernel
theorem dX11_fits_1 : decode cX11_fits 1 = .ok (.getfield 14, 3) := by decide +kernel
theorem dX11_fits_4 : decode cX11_fits 4 = .ok (.getfield 60, 3) := by decide +kernel
theorem dX11_fits_7 : decode cX11_fits 7 = .ok (.iload_n 1, 1) := by decide +kernel
theorem dX11_fits_8 : decode cX11_fits 8 = .ok (.invokevirtual 135, 3) := by decide +kernel
theorem dX11_fits_11 : decode cX11_fits 11 = .ok (.ifCond .eq 12, 3) := by decide +kernel
theorem dX11_fits_14 : decode cX11_fits 14 = .ok (.iload_n 2, 1) := by decide +kernel
theorem dX11_fits_15 : decode cX11_fits 15 = .ok (.ifCond .lt 8, 3) := by decide +kernel
theorem dX11_fits_18 : decode cX11_fits 18 = .ok (.iload_n 2, 1) := by decide +kernel
theorem dX11_fits_19 : decode cX11_fits 19 = .ok (.iconst 1, 1) := by decide +kernel
theorem dX11_fits_20 : decode cX11_fits 20 = .ok (.if_icmp .le 5, 3) := by decide +kernel
theorem dX11_fits_23 : decode cX11_fits 23 = .ok (.iconst (-1), 1) := by decide +kernel
theorem dX11_fits_24 : decode cX11_fits 24 = .ok (.ireturn, 1) := by decide +kernel
theorem dX11_fits_25 : decode cX11_fits 25 = .ok (.aload_n 0, 1) := by decide +kernel
theorem dX11_fits_26 : decode cX11_fits 26 = .ok (.getfield 35, 3) := by decide +kernel
theorem dX11_fits_29 : decode cX11_fits 29 = .ok (.aload_n 0, 1) := by decide +kernel
theorem dX11_fits_30 : decode cX11_fits 30 = .ok (.getfield 14, 3) := by decide +kernel
theorem dX11_fits_33 : decode cX11_fits 33 = .ok (.getfield 60, 3) := by decide +kernel
theorem dX11_fits_36 : decode cX11_fits 36 = .ok (.invokevirtual 170, 3) := by decide +kernel
theorem dX11_fits_39 : decode cX11_fits 39 = .ok (.iconst 0, 1) := by decide +kernel
theorem dX11_fits_40 : decode cX11_fits 40 = .ok (.istore_n 3, 1) := by decide +kernel
theorem dX11_fits_41 : decode cX11_fits 41 = .ok (.bipush (-5), 2) := by decide +kernel
theorem dX11_fits_43 : decode cX11_fits 43 = .ok (.istore 4, 2) := by decide +kernel
theorem dX11_fits_45 : decode cX11_fits 45 = .ok (.iconst 0, 1) := by decide +kernel
theorem dX11_fits_46 : decode cX11_fits 46 = .ok (.istore 5, 2) := by decide +kernel
theorem dX11_fits_48 : decode cX11_fits 48 = .ok (.iload 5, 2) := by decide +kernel
theorem dX11_fits_50 : decode cX11_fits 50 = .ok (.bipush 9, 2) := by decide +kernel
theorem dX11_fits_52 : decode cX11_fits 52 = .ok (.if_icmp .gt 35, 3) := by decide +kernel
theorem dX11_fits_55 : decode cX11_fits 55 = .ok (.aload_n 0, 1) := by decide +kernel
theorem dX11_fits_56 : decode cX11_fits 56 = .ok (.iload_n 1, 1) := by decide +kernel
theorem dX11_fits_57 : decode cX11_fits 57 = .ok (.iload 5, 2) := by decide +kernel
theorem dX11_fits_59 : decode cX11_fits 59 = .ok (.invokevirtual 262, 3) := by decide +kernel
theorem dX11_fits_62 : decode cX11_fits 62 = .ok (.ifCond .eq 19, 3) := by decide +kernel
theorem dX11_fits_65 : decode cX11_fits 65 = .ok (.iload_n 3, 1) := by decide +kernel
theorem dX11_fits_66 : decode cX11_fits 66 = .ok (.ifCond .ne 8, 3) := by decide +kernel
theorem dX11_fits_69 : decode cX11_fits 69 = .ok (.iload 5, 2) := by decide +kernel
theorem dX11_fits_71 : decode cX11_fits 71 = .ok (.goto 5, 3) := by decide +kernel
theorem dX11_fits_74 : decode cX11_fits 74 = .ok (.iload 4, 2) := by decide +kernel
theorem dX11_fits_76 : decode cX11_fits 76 = .ok (.istore 4, 2) := by decide +kernel
theorem dX11_fits_78 : decode cX11_fits 78 = .ok (.iinc 3 1, 3) := by decide +kernel
theorem dX11_fits_81 : decode cX11_fits 81 = .ok (.iinc 5 1, 3) := by decide +kernel
theorem dX11_fits_84 : decode cX11_fits 84 = .ok (.goto (-36), 3) := by decide +kernel
theorem dX11_fits_87 : decode cX11_fits 87 = .ok (.iload_n 2, 1) := by decide +kernel
theorem dX11_fits_88 : decode cX11_fits 88 = .ok (.ifCond .ne 7, 3) := by decide +kernel
theorem dX11_fits_91 : decode cX11_fits 91 = .ok (.iload_n 3, 1) := by decide +kernel
theorem dX11_fits_92 : decode cX11_fits 92 = .ok (.goto 5, 3) := by decide +kernel
theorem dX11_fits_95 : decode cX11_fits 95 = .ok (.iload 4, 2) := by decide +kernel
theorem dX11_fits_97 : decode cX11_fits 97 = .ok (.ireturn, 1) := by decide +kernel
theorem dX11_allSeenWith_0 : decode cX11_allSeenWith 0 = .ok (.aload_n 0, 1) := by decide +kernel
theorem dX11_allSeenWith_1 : decode cX11_allSeenWith 1 = .ok (.invokevirtual 266, 3) := by decide +kernel
theorem dX11_allSeenWith_4 : decode cX11_allSeenWith 4 = .ok (.istore_n 3, 1) := by decide +kernel
theorem dX11_allSeenWith_5 : decode cX11_allSeenWith 5 = .ok (.iload_n 3, 1) := by decide +kernel
theorem dX11_allSeenWith_6 : decode cX11_allSeenWith 6 = .ok (.ifCond .le 15, 3) := by decide +kernel
theorem dX11_allSeenWith_9 : decode cX11_allSeenWith 9 = .ok (.aload_n 0, 1) := by decide +kernel
theorem dX11_allSeenWith_10 : decode cX11_allSeenWith 10 = .ok (.getfield 35, 3) := by decide +kernel
theorem dX11_allSeenWith_13 : decode cX11_allSeenWith 13 = .ok (.invokevirtual 197, 3) := by decide +kernel
theorem dX11_allSeenWith_16 : decode cX11_allSeenWith 16 = .ok (.ifCond .ne 5, 3) := by decide +kernel
theorem dX11_allSeenWith_19 : decode cX11_allSeenWith 19 = .ok (.iconst 0, 1) := by decide +kernel
theorem dX11_allSeenWith_20 : decode cX11_allSeenWith 20 = .ok (.ireturn, 1) := by decide +kernel
theorem dX11_allSeenWith_21 : decode cX11_allSeenWith 21 = .ok (.aload_n 0, 1) := by decide +kernel
theorem dX11_allSeenWith_22 : decode cX11_allSeenWith 22 = .ok (.getfield 28, 3) := by decide +kernel
theorem dX11_allSeenWith_25 : decode cX11_allSeenWith 25 = .ok (.aload_n 0, 1) := by decide +kernel
theorem dX11_allSeenWith_26 : decode cX11_allSeenWith 26 = .ok (.getfield 14, 3) := by decide +kernel
theorem dX11_allSeenWith_29 : decode cX11_allSeenWith 29 = .ok (.getfield 60, 3) := by decide +kernel
theorem dX11_allSeenWith_32 : decode cX11_allSeenWith 32 = .ok (.invokevirtual 248, 3) := by decide +kernel
theorem dX11_allSeenWith_35 : decode cX11_allSeenWith 35 = .ok (.aload_n 0, 1) := by decide +kernel
theorem dX11_allSeenWith_36 : decode cX11_allSeenWith 36 = .ok (.getfield 28, 3) := by decide +kernel
theorem dX11_allSeenWith_39 : decode cX11_allSeenWith 39 = .ok (.getfield 138, 3) := by decide +kernel
theorem dX11_allSeenWith_42 : decode cX11_allSeenWith 42 = .ok (.iload_n 1, 1) := by decide +kernel
theorem dX11_allSeenWith_43 : decode cX11_allSeenWith 43 = .ok (.aaload, 1) := by decide +kernel
theorem dX11_allSeenWith_44 : decode cX11_allSeenWith 44 = .ok (.iload_n 2, 1) := by decide +kernel
theorem dX11_allSeenWith_45 : decode cX11_allSeenWith 45 = .ok (.putfield 147, 3) := by decide +kernel
theorem dX11_allSeenWith_48 : decode cX11_allSeenWith 48 = .ok (.iconst 0, 1) := by decide +kernel
theorem dX11_allSeenWith_49 : decode cX11_allSeenWith 49 = .ok (.istore 4, 2) := by decide +kernel
theorem dX11_allSeenWith_51 : decode cX11_allSeenWith 51 = .ok (.iload 4, 2) := by decide +kernel
theorem dX11_allSeenWith_53 : decode cX11_allSeenWith 53 = .ok (.iload_n 3, 1) := by decide +kernel
theorem dX11_allSeenWith_54 : decode cX11_allSeenWith 54 = .ok (.if_icmp .gt 42, 3) := by decide +kernel
theorem dX11_allSeenWith_57 : decode cX11_allSeenWith 57 = .ok (.iload 4, 2) := by decide +kernel
theorem dX11_allSeenWith_59 : decode cX11_allSeenWith 59 = .ok (.iconst 4, 1) := by decide +kernel
theorem dX11_allSeenWith_60 : decode cX11_allSeenWith 60 = .ok (.if_icmp .gt 36, 3) := by decide +kernel
theorem dX11_allSeenWith_63 : decode cX11_allSeenWith 63 = .ok (.iload 4, 2) := by decide +kernel
theorem dX11_allSeenWith_65 : decode cX11_allSeenWith 65 = .ok (.ifCond .le 14, 3) := by decide +kernel
theorem dX11_allSeenWith_68 : decode cX11_allSeenWith 68 = .ok (.aload_n 0, 1) := by decide +kernel
theorem dX11_allSeenWith_69 : decode cX11_allSeenWith 69 = .ok (.getfield 35, 3) := by decide +kernel
theorem dX11_allSeenWith_72 : decode cX11_allSeenWith 72 = .ok (.aload_n 0, 1) := by decide +kernel
theorem dX11_allSeenWith_73 : decode cX11_allSeenWith 73 = .ok (.getfield 28, 3) := by decide +kernel
theorem dX11_allSeenWith_76 : decode cX11_allSeenWith 76 = .ok (.invokevirtual 220, 3) := by decide +kernel
theorem dX11_allSeenWith_79 : decode cX11_allSeenWith 79 = .ok (.aload_n 0, 1) := by decide +kernel
theorem dX11_allSeenWith_80 : decode cX11_allSeenWith 80 = .ok (.iload 4, 2) := by decide +kernel
theorem dX11_allSeenWith_82 : decode cX11_allSeenWith 82 = .ok (.invokevirtual 269, 3) := by decide +kernel
theorem dX11_allSeenWith_85 : decode cX11_allSeenWith 85 = .ok (.ifCond .ne 5, 3) := by decide +kernel
theorem dX11_allSeenWith_88 : decode cX11_allSeenWith 88 = .ok (.iconst 0, 1) := by decide +kernel
theorem dX11_allSeenWith_89 : decode cX11_allSeenWith 89 = .ok (.ireturn, 1) := by decide +kernel
theorem dX11_allSeenWith_90 : decode cX11_allSeenWith 90 = .ok (.iinc 4 1, 3) := by decide +kernel
theorem dX11_allSeenWith_93 : decode cX11_allSeenWith 93 = .ok (.goto (-42), 3) := by decide +kernel
theorem dX11_allSeenWith_96 : decode cX11_allSeenWith 96 = .ok (.iconst 1, 1) := by decide +kernel
theorem dX11_allSeenWith_97 : decode cX11_allSeenWith 97 = .ok (.ireturn, 1) := by decide +kernel
theorem dX11_farthestSeen_0 : decode cX11_farthestSeen 0 = .ok (.iconst 0, 1) := by decide +kernel
theorem dX11_farthestSeen_1 : decode cX11_farthestSeen 1 = .ok (.istore_n 1, 1) := by decide +kernel
theorem dX11_farthestSeen_2 : decode cX11_farthestSeen 2 = .ok (.iconst 0, 1) := by decide +kernel
theorem dX11_farthestSeen_3 : decode cX11_farthestSeen 3 = .ok (.istore_n 2, 1) := by decide +kernel
theorem dX11_farthestSeen_4 : decode cX11_farthestSeen 4 = .ok (.iload_n 2, 1) := by decide +kernel
theorem dX11_farthestSeen_5 : decode cX11_farthestSeen 5 = .ok (.aload_n 0, 1) := by decide +kernel
theorem dX11_farthestSeen_6 : decode cX11_farthestSeen 6 = .ok (.getfield 14, 3) := by decide +kernel
theorem dX11_farthestSeen_9 : decode cX11_farthestSeen 9 = .ok (.getfield 251, 3) := by decide +kernel
theorem dX11_farthestSeen_12 : decode cX11_farthestSeen 12 = .ok (.getfield 272, 3) := by decide +kernel
theorem dX11_farthestSeen_15 : decode cX11_farthestSeen 15 = .ok (.if_icmp .ge 26, 3) := by decide +kernel
theorem dX11_farthestSeen_18 : decode cX11_farthestSeen 18 = .ok (.iload_n 1, 1) := by decide +kernel
theorem dX11_farthestSeen_19 : decode cX11_farthestSeen 19 = .ok (.aload_n 0, 1) := by decide +kernel
theorem dX11_farthestSeen_20 : decode cX11_farthestSeen 20 = .ok (.getfield 14, 3) := by decide +kernel
theorem dX11_farthestSeen_23 : decode cX11_farthestSeen 23 = .ok (.getfield 251, 3) := by decide +kernel
theorem dX11_farthestSeen_26 : decode cX11_farthestSeen 26 = .ok (.getfield 273, 3) := by decide +kernel
theorem dX11_farthestSeen_29 : decode cX11_farthestSeen 29 = .ok (.iload_n 2, 1) := by decide +kernel
theorem dX11_farthestSeen_30 : decode cX11_farthestSeen 30 = .ok (.iaload, 1) := by decide +kernel
theorem dX11_farthestSeen_31 : decode cX11_farthestSeen 31 = .ok (.invokestatic 276, 3) := by decide +kernel
theorem dX11_farthestSeen_34 : decode cX11_farthestSeen 34 = .ok (.istore_n 1, 1) := by decide +kernel
theorem dX11_farthestSeen_35 : decode cX11_farthestSeen 35 = .ok (.iinc 2 1, 3) := by decide +kernel
theorem dX11_farthestSeen_38 : decode cX11_farthestSeen 38 = .ok (.goto (-34), 3) := by decide +kernel
theorem dX11_farthestSeen_41 : decode cX11_farthestSeen 41 = .ok (.iload_n 1, 1) := by decide +kernel
theorem dX11_farthestSeen_42 : decode cX11_farthestSeen 42 = .ok (.ireturn, 1) := by decide +kernel
theorem dX11_seenAfter_0 : decode cX11_seenAfter 0 = .ok (.aload_n 0, 1) := by decide +kernel
theorem dX11_seenAfter_1 : decode cX11_seenAfter 1 = .ok (.getfield 14, 3) := by decide +kernel
theorem dX11_seenAfter_4 : decode cX11_seenAfter 4 = .ok (.getfield 251, 3) := by decide +kernel
theorem dX11_seenAfter_7 : decode cX11_seenAfter 7 = .ok (.astore_n 2, 1) := by decide +kernel
theorem dX11_seenAfter_8 : decode cX11_seenAfter 8 = .ok (.iconst 0, 1) := by decide +kernel
theorem dX11_seenAfter_9 : decode cX11_seenAfter 9 = .ok (.istore_n 3, 1) := by decide +kernel
theorem dX11_seenAfter_10 : decode cX11_seenAfter 10 = .ok (.iload_n 3, 1) := by decide +kernel
theorem dX11_seenAfter_11 : decode cX11_seenAfter 11 = .ok (.aload_n 2, 1) := by decide +kernel
theorem dX11_seenAfter_12 : decode cX11_seenAfter 12 = .ok (.getfield 272, 3) := by decide +kernel
theorem dX11_seenAfter_15 : decode cX11_seenAfter 15 = .ok (.if_icmp .ge 40, 3) := by decide +kernel
theorem dX11_seenAfter_18 : decode cX11_seenAfter 18 = .ok (.aload_n 2, 1) := by decide +kernel
theorem dX11_seenAfter_19 : decode cX11_seenAfter 19 = .ok (.getfield 273, 3) := by decide +kernel
theorem dX11_seenAfter_22 : decode cX11_seenAfter 22 = .ok (.iload_n 3, 1) := by decide +kernel
theorem dX11_seenAfter_23 : decode cX11_seenAfter 23 = .ok (.iaload, 1) := by decide +kernel
theorem dX11_seenAfter_24 : decode cX11_seenAfter 24 = .ok (.iload_n 1, 1) := by decide +kernel
theorem dX11_seenAfter_25 : decode cX11_seenAfter 25 = .ok (.if_icmp .ne 24, 3) := by decide +kernel
theorem dX11_seenAfter_28 : decode cX11_seenAfter 28 = .ok (.aload_n 0, 1) := by decide +kernel
theorem dX11_seenAfter_29 : decode cX11_seenAfter 29 = .ok (.aload_n 2, 1) := by decide +kernel
theorem dX11_seenAfter_30 : decode cX11_seenAfter 30 = .ok (.getfield 281, 3) := by decide +kernel
theorem dX11_seenAfter_33 : decode cX11_seenAfter 33 = .ok (.iload_n 3, 1) := by decide +kernel
theorem dX11_seenAfter_34 : decode cX11_seenAfter 34 = .ok (.iaload, 1) := by decide +kernel
theorem dX11_seenAfter_35 : decode cX11_seenAfter 35 = .ok (.aload_n 2, 1) := by decide +kernel
theorem dX11_seenAfter_36 : decode cX11_seenAfter 36 = .ok (.getfield 284, 3) := by decide +kernel
theorem dX11_seenAfter_39 : decode cX11_seenAfter 39 = .ok (.iload_n 3, 1) := by decide +kernel
theorem dX11_seenAfter_40 : decode cX11_seenAfter 40 = .ok (.iaload, 1) := by decide +kernel
theorem dX11_seenAfter_41 : decode cX11_seenAfter 41 = .ok (.invokevirtual 287, 3) := by decide +kernel
theorem dX11_seenAfter_44 : decode cX11_seenAfter 44 = .ok (.ifCond .ne 5, 3) := by decide +kernel
theorem dX11_seenAfter_47 : decode cX11_seenAfter 47 = .ok (.iconst 0, 1) := by decide +kernel
theorem dX11_seenAfter_48 : decode cX11_seenAfter 48 = .ok (.ireturn, 1) := by decide +kernel
theorem dX11_seenAfter_49 : decode cX11_seenAfter 49 = .ok (.iinc 3 1, 3) := by decide +kernel
theorem dX11_seenAfter_52 : decode cX11_seenAfter 52 = .ok (.goto (-42), 3) := by decide +kernel
theorem dX11_seenAfter_55 : decode cX11_seenAfter 55 = .ok (.iconst 1, 1) := by decide +kernel
theorem dX11_seenAfter_56 : decode cX11_seenAfter 56 = .ok (.ireturn, 1) := by decide +kernel
theorem dX11_latestIs_0 : decode cX11_latestIs 0 = .ok (.aload_n 0, 1) := by decide +kernel
theorem dX11_latestIs_1 : decode cX11_latestIs 1 = .ok (.getfield 28, 3) := by decide +kernel
theorem dX11_latestIs_4 : decode cX11_latestIs 4 = .ok (.iload_n 1, 1) := by decide +kernel
theorem dX11_latestIs_5 : decode cX11_latestIs 5 = .ok (.invokevirtual 71, 3) := by decide +kernel
theorem dX11_latestIs_8 : decode cX11_latestIs 8 = .ok (.ifCond .ne 5, 3) := by decide +kernel
theorem dX11_latestIs_11 : decode cX11_latestIs 11 = .ok (.iconst 0, 1) := by decide +kernel
theorem dX11_latestIs_12 : decode cX11_latestIs 12 = .ok (.ireturn, 1) := by decide +kernel
theorem dX11_latestIs_13 : decode cX11_latestIs 13 = .ok (.aload_n 0, 1) := by decide +kernel
theorem dX11_latestIs_14 : decode cX11_latestIs 14 = .ok (.getfield 28, 3) := by decide +kernel
theorem dX11_latestIs_17 : decode cX11_latestIs 17 = .ok (.getfield 75, 3) := by decide +kernel
theorem dX11_latestIs_20 : decode cX11_latestIs 20 = .ok (.iload_n 1, 1) := by decide +kernel
theorem dX11_latestIs_21 : decode cX11_latestIs 21 = .ok (.aaload, 1) := by decide +kernel
theorem dX11_latestIs_22 : decode cX11_latestIs 22 = .ok (.astore_n 3, 1) := by decide +kernel
theorem dX11_latestIs_23 : decode cX11_latestIs 23 = .ok (.aload_n 3, 1) := by decide +kernel
theorem dX11_latestIs_24 : decode cX11_latestIs 24 = .ok (.getfield 79, 3) := by decide +kernel
theorem dX11_latestIs_27 : decode cX11_latestIs 27 = .ok (.ifCond .le 21, 3) := by decide +kernel
theorem dX11_latestIs_30 : decode cX11_latestIs 30 = .ok (.aload_n 3, 1) := by decide +kernel
theorem dX11_latestIs_31 : decode cX11_latestIs 31 = .ok (.aload_n 3, 1) := by decide +kernel
theorem dX11_latestIs_32 : decode cX11_latestIs 32 = .ok (.getfield 79, 3) := by decide +kernel
theorem dX11_latestIs_35 : decode cX11_latestIs 35 = .ok (.iconst 1, 1) := by decide +kernel
theorem dX11_latestIs_36 : decode cX11_latestIs 36 = .ok (.isub, 1) := by decide +kernel
theorem dX11_latestIs_37 : decode cX11_latestIs 37 = .ok (.invokevirtual 210, 3) := by decide +kernel
theorem dX11_latestIs_40 : decode cX11_latestIs 40 = .ok (.iload_n 2, 1) := by decide +kernel
theorem dX11_latestIs_41 : decode cX11_latestIs 41 = .ok (.if_icmp .ne 7, 3) := by decide +kernel
theorem dX11_latestIs_44 : decode cX11_latestIs 44 = .ok (.iconst 1, 1) := by decide +kernel
theorem dX11_latestIs_45 : decode cX11_latestIs 45 = .ok (.goto 4, 3) := by decide +kernel
theorem dX11_latestIs_48 : decode cX11_latestIs 48 = .ok (.iconst 0, 1) := by decide +kernel
theorem dX11_latestIs_49 : decode cX11_latestIs 49 = .ok (.ireturn, 1) := by decide +kernel
theorem dX11_odds_0 : decode cX11_odds 0 = .ok (.aload_n 0, 1) := by decide +kernel
theorem dX11_odds_1 : decode cX11_odds 1 = .ok (.getfield 14, 3) := by decide +kernel
theorem dX11_odds_4 : decode cX11_odds 4 = .ok (.getfield 60, 3) := by decide +kernel
theorem dX11_odds_7 : decode cX11_odds 7 = .ok (.iload_n 1, 1) := by decide +kernel
theorem dX11_odds_8 : decode cX11_odds 8 = .ok (.invokevirtual 71, 3) := by decide +kernel
theorem dX11_odds_11 : decode cX11_odds 11 = .ok (.ifCond .eq 12, 3) := by decide +kernel
theorem dX11_odds_14 : decode cX11_odds 14 = .ok (.iload_n 2, 1) := by decide +kernel
theorem dX11_odds_15 : decode cX11_odds 15 = .ok (.ifCond .lt 8, 3) := by decide +kernel
theorem dX11_odds_18 : decode cX11_odds 18 = .ok (.iload_n 2, 1) := by decide +kernel
theorem dX11_odds_19 : decode cX11_odds 19 = .ok (.iconst 1, 1) := by decide +kernel
theorem dX11_odds_20 : decode cX11_odds 20 = .ok (.if_icmp .le 7, 3) := by decide +kernel
theorem dX11_odds_23 : decode cX11_odds 23 = .ok (.ldc2_w 205, 3) := by decide +kernel
theorem dX11_odds_26 : decode cX11_odds 26 = .ok (.lreturn, 1) := by decide +kernel
theorem dX11_odds_27 : decode cX11_odds 27 = .ok (.iconst 0, 1) := by decide +kernel
theorem dX11_odds_28 : decode cX11_odds 28 = .ok (.istore_n 3, 1) := by decide +kernel
theorem dX11_odds_29 : decode cX11_odds 29 = .ok (.iconst 0, 1) := by decide +kernel
theorem dX11_odds_30 : decode cX11_odds 30 = .ok (.istore 4, 2) := by decide +kernel
theorem dX11_odds_32 : decode cX11_odds 32 = .ok (.iload 4, 2) := by decide +kernel
theorem dX11_odds_34 : decode cX11_odds 34 = .ok (.bipush 9, 2) := by decide +kernel
theorem dX11_odds_36 : decode cX11_odds 36 = .ok (.if_icmp .gt 39, 3) := by decide +kernel
theorem dX11_odds_39 : decode cX11_odds 39 = .ok (.aload_n 0, 1) := by decide +kernel
theorem dX11_odds_40 : decode cX11_odds 40 = .ok (.getfield 35, 3) := by decide +kernel
theorem dX11_odds_43 : decode cX11_odds 43 = .ok (.aload_n 0, 1) := by decide +kernel
theorem dX11_odds_44 : decode cX11_odds 44 = .ok (.getfield 14, 3) := by decide +kernel
theorem dX11_odds_47 : decode cX11_odds 47 = .ok (.getfield 60, 3) := by decide +kernel
theorem dX11_odds_50 : decode cX11_odds 50 = .ok (.iload_n 1, 1) := by decide +kernel
theorem dX11_odds_51 : decode cX11_odds 51 = .ok (.iload 4, 2) := by decide +kernel
theorem dX11_odds_53 : decode cX11_odds 53 = .ok (.invokevirtual 193, 3) := by decide +kernel
theorem dX11_odds_56 : decode cX11_odds 56 = .ok (.aload_n 0, 1) := by decide +kernel
theorem dX11_odds_57 : decode cX11_odds 57 = .ok (.getfield 35, 3) := by decide +kernel
theorem dX11_odds_60 : decode cX11_odds 60 = .ok (.invokevirtual 197, 3) := by decide +kernel
theorem dX11_odds_63 : decode cX11_odds 63 = .ok (.ifCond .eq 6, 3) := by decide +kernel
theorem dX11_odds_66 : decode cX11_odds 66 = .ok (.iinc 3 1, 3) := by decide +kernel
theorem dX11_odds_69 : decode cX11_odds 69 = .ok (.iinc 4 1, 3) := by decide +kernel
theorem dX11_odds_72 : decode cX11_odds 72 = .ok (.goto (-40), 3) := by decide +kernel
theorem dX11_odds_75 : decode cX11_odds 75 = .ok (.iload_n 3, 1) := by decide +kernel
theorem dX11_odds_76 : decode cX11_odds 76 = .ok (.i2l, 1) := by decide +kernel
theorem dX11_odds_77 : decode cX11_odds 77 = .ok (.ldc2_w 290, 3) := by decide +kernel
theorem dX11_odds_80 : decode cX11_odds 80 = .ok (.iload_n 2, 1) := by decide +kernel
theorem dX11_odds_81 : decode cX11_odds 81 = .ok (.invokestatic 292, 3) := by decide +kernel
theorem dX11_odds_84 : decode cX11_odds 84 = .ok (.lreturn, 1) := by decide +kernel
theorem dX11_mean_0 : decode cX11_mean 0 = .ok (.aload_n 0, 1) := by decide +kernel
theorem dX11_mean_1 : decode cX11_mean 1 = .ok (.getfield 14, 3) := by decide +kernel
theorem dX11_mean_4 : decode cX11_mean 4 = .ok (.getfield 60, 3) := by decide +kernel
theorem dX11_mean_7 : decode cX11_mean 7 = .ok (.invokevirtual 223, 3) := by decide +kernel
theorem dX11_mean_10 : decode cX11_mean 10 = .ok (.istore_n 2, 1) := by decide +kernel
theorem dX11_mean_11 : decode cX11_mean 11 = .ok (.iload_n 1, 1) := by decide +kernel
theorem dX11_mean_12 : decode cX11_mean 12 = .ok (.ifCond .lt 12, 3) := by decide +kernel
theorem dX11_mean_15 : decode cX11_mean 15 = .ok (.iload_n 1, 1) := by decide +kernel
theorem dX11_mean_16 : decode cX11_mean 16 = .ok (.iconst 1, 1) := by decide +kernel
theorem dX11_mean_17 : decode cX11_mean 17 = .ok (.if_icmp .gt 7, 3) := by decide +kernel
theorem dX11_mean_20 : decode cX11_mean 20 = .ok (.iload_n 2, 1) := by decide +kernel
theorem dX11_mean_21 : decode cX11_mean 21 = .ok (.ifCond .ne 7, 3) := by decide +kernel
theorem dX11_mean_24 : decode cX11_mean 24 = .ok (.ldc2_w 205, 3) := by decide +kernel
theorem dX11_mean_27 : decode cX11_mean 27 = .ok (.lreturn, 1) := by decide +kernel
theorem dX11_mean_28 : decode cX11_mean 28 = .ok (.aload_n 0, 1) := by decide +kernel
theorem dX11_mean_29 : decode cX11_mean 29 = .ok (.getfield 14, 3) := by decide +kernel
theorem dX11_mean_32 : decode cX11_mean 32 = .ok (.getfield 60, 3) := by decide +kernel
theorem dX11_mean_35 : decode cX11_mean 35 = .ok (.invokevirtual 296, 3) := by decide +kernel
theorem dX11_mean_38 : decode cX11_mean 38 = .ok (.iload_n 2, 1) := by decide +kernel
theorem dX11_mean_39 : decode cX11_mean 39 = .ok (.i2l, 1) := by decide +kernel
theorem dX11_mean_40 : decode cX11_mean 40 = .ok (.iload_n 1, 1) := by decide +kernel
theorem dX11_mean_41 : decode cX11_mean 41 = .ok (.invokestatic 292, 3) := by decide +kernel
theorem dX11_mean_44 : decode cX11_mean 44 = .ok (.lreturn, 1) := by decide +kernel
theorem dX11_lowestTerms_0 : decode cX11_lowestTerms 0 = .ok (.lload_n 0, 1) := by decide +kernel
theorem dX11_lowestTerms_1 : decode cX11_lowestTerms 1 = .ok (.invokestatic 300, 3) := by decide +kernel
theorem dX11_lowestTerms_4 : decode cX11_lowestTerms 4 = .ok (.lload_n 2, 1) := by decide +kernel
theorem dX11_lowestTerms_5 : decode cX11_lowestTerms 5 = .ok (.invokestatic 304, 3) := by decide +kernel
theorem dX11_lowestTerms_8 : decode cX11_lowestTerms 8 = .ok (.lstore 5, 2) := by decide +kernel
theorem dX11_lowestTerms_10 : decode cX11_lowestTerms 10 = .ok (.lload 5, 2) := by decide +kernel
theorem dX11_lowestTerms_12 : decode cX11_lowestTerms 12 = .ok (.lconst 0, 1) := by decide +kernel
theorem dX11_lowestTerms_13 : decode cX11_lowestTerms 13 = .ok (.lcmp, 1) := by decide +kernel
theorem dX11_lowestTerms_14 : decode cX11_lowestTerms 14 = .ok (.ifCond .gt 7, 3) := by decide +kernel
theorem dX11_lowestTerms_17 : decode cX11_lowestTerms 17 = .ok (.ldc2_w 205, 3) := by decide +kernel
theorem dX11_lowestTerms_20 : decode cX11_lowestTerms 20 = .ok (.lreturn, 1) := by decide +kernel
theorem dX11_lowestTerms_21 : decode cX11_lowestTerms 21 = .ok (.iload 4, 2) := by decide +kernel
theorem dX11_lowestTerms_23 : decode cX11_lowestTerms 23 = .ok (.ifCond .ne 10, 3) := by decide +kernel
theorem dX11_lowestTerms_26 : decode cX11_lowestTerms 26 = .ok (.lload_n 0, 1) := by decide +kernel
theorem dX11_lowestTerms_27 : decode cX11_lowestTerms 27 = .ok (.lload 5, 2) := by decide +kernel
theorem dX11_lowestTerms_29 : decode cX11_lowestTerms 29 = .ok (.ldiv, 1) := by decide +kernel
theorem dX11_lowestTerms_30 : decode cX11_lowestTerms 30 = .ok (.goto 7, 3) := by decide +kernel
theorem dX11_lowestTerms_33 : decode cX11_lowestTerms 33 = .ok (.lload_n 2, 1) := by decide +kernel
theorem dX11_lowestTerms_34 : decode cX11_lowestTerms 34 = .ok (.lload 5, 2) := by decide +kernel
theorem dX11_lowestTerms_36 : decode cX11_lowestTerms 36 = .ok (.ldiv, 1) := by decide +kernel
theorem dX11_lowestTerms_37 : decode cX11_lowestTerms 37 = .ok (.lreturn, 1) := by decide +kernel
theorem dX11_greatestDivisor_0 : decode cX11_greatestDivisor 0 = .ok (.lload_n 0, 1) := by decide +kernel
theorem dX11_greatestDivisor_1 : decode cX11_greatestDivisor 1 = .ok (.lstore 4, 2) := by decide +kernel
theorem dX11_greatestDivisor_3 : decode cX11_greatestDivisor 3 = .ok (.lload_n 2, 1) := by decide +kernel
theorem dX11_greatestDivisor_4 : decode cX11_greatestDivisor 4 = .ok (.lstore 6, 2) := by decide +kernel
theorem dX11_greatestDivisor_6 : decode cX11_greatestDivisor 6 = .ok (.iconst 0, 1) := by decide +kernel
theorem dX11_greatestDivisor_7 : decode cX11_greatestDivisor 7 = .ok (.istore 8, 2) := by decide +kernel
theorem dX11_greatestDivisor_9 : decode cX11_greatestDivisor 9 = .ok (.iload 8, 2) := by decide +kernel
theorem dX11_greatestDivisor_11 : decode cX11_greatestDivisor 11 = .ok (.sipush 200, 3) := by decide +kernel
theorem dX11_greatestDivisor_14 : decode cX11_greatestDivisor 14 = .ok (.if_icmp .ge 31, 3) := by decide +kernel
theorem dX11_greatestDivisor_17 : decode cX11_greatestDivisor 17 = .ok (.lload 6, 2) := by decide +kernel
theorem dX11_greatestDivisor_19 : decode cX11_greatestDivisor 19 = .ok (.lconst 0, 1) := by decide +kernel
theorem dX11_greatestDivisor_20 : decode cX11_greatestDivisor 20 = .ok (.lcmp, 1) := by decide +kernel
theorem dX11_greatestDivisor_21 : decode cX11_greatestDivisor 21 = .ok (.ifCond .eq 24, 3) := by decide +kernel
theorem dX11_greatestDivisor_24 : decode cX11_greatestDivisor 24 = .ok (.lload 4, 2) := by decide +kernel
theorem dX11_greatestDivisor_26 : decode cX11_greatestDivisor 26 = .ok (.lload 6, 2) := by decide +kernel
theorem dX11_greatestDivisor_28 : decode cX11_greatestDivisor 28 = .ok (.lrem, 1) := by decide +kernel
theorem dX11_greatestDivisor_29 : decode cX11_greatestDivisor 29 = .ok (.lstore 9, 2) := by decide +kernel
theorem dX11_greatestDivisor_31 : decode cX11_greatestDivisor 31 = .ok (.lload 6, 2) := by decide +kernel
theorem dX11_greatestDivisor_33 : decode cX11_greatestDivisor 33 = .ok (.lstore 4, 2) := by decide +kernel
theorem dX11_greatestDivisor_35 : decode cX11_greatestDivisor 35 = .ok (.lload 9, 2) := by decide +kernel
theorem dX11_greatestDivisor_37 : decode cX11_greatestDivisor 37 = .ok (.lstore 6, 2) := by decide +kernel
theorem dX11_greatestDivisor_39 : decode cX11_greatestDivisor 39 = .ok (.iinc 8 1, 3) := by decide +kernel
theorem dX11_greatestDivisor_42 : decode cX11_greatestDivisor 42 = .ok (.goto (-33), 3) := by decide +kernel
theorem dX11_greatestDivisor_45 : decode cX11_greatestDivisor 45 = .ok (.lload 4, 2) := by decide +kernel
theorem dX11_greatestDivisor_47 : decode cX11_greatestDivisor 47 = .ok (.lreturn, 1) := by decide +kernel
theorem dX11_plan_0 : decode cX11_plan 0 = .ok (.iload_n 1, 1) := by decide +kernel
theorem dX11_plan_1 : decode cX11_plan 1 = .ok (.iconst (-1), 1) := by decide +kernel
theorem dX11_plan_2 : decode cX11_plan 2 = .ok (.if_icmp .ne 14, 3) := by decide +kernel
theorem dX11_plan_5 : decode cX11_plan 5 = .ok (.aload_n 0, 1) := by decide +kernel
theorem dX11_plan_6 : decode cX11_plan 6 = .ok (.getfield 14, 3) := by decide +kernel
theorem dX11_plan_9 : decode cX11_plan 9 = .ok (.getfield 308, 3) := by decide +kernel
theorem dX11_plan_12 : decode cX11_plan 12 = .ok (.invokevirtual 255, 3) := by decide +kernel
theorem dX11_plan_15 : decode cX11_plan 15 = .ok (.ireturn, 1) := by decide +kernel
theorem dX11_plan_16 : decode cX11_plan 16 = .ok (.iload_n 1, 1) := by decide +kernel
theorem dX11_plan_17 : decode cX11_plan 17 = .ok (.tableswitch 109 0 3 #[31, 63, 31, 95], 31) := by decide +kernel
theorem dX11_plan_48 : decode cX11_plan 48 = .ok (.aload_n 0, 1) := by decide +kernel
theorem dX11_plan_49 : decode cX11_plan 49 = .ok (.getfield 14, 3) := by decide +kernel
theorem dX11_plan_52 : decode cX11_plan 52 = .ok (.getfield 60, 3) := by decide +kernel
theorem dX11_plan_55 : decode cX11_plan 55 = .ok (.iload_n 2, 1) := by decide +kernel
theorem dX11_plan_56 : decode cX11_plan 56 = .ok (.invokevirtual 135, 3) := by decide +kernel
theorem dX11_plan_59 : decode cX11_plan 59 = .ok (.ifCond .eq 19, 3) := by decide +kernel
theorem dX11_plan_62 : decode cX11_plan 62 = .ok (.aload_n 0, 1) := by decide +kernel
theorem dX11_plan_63 : decode cX11_plan 63 = .ok (.getfield 14, 3) := by decide +kernel
theorem dX11_plan_66 : decode cX11_plan 66 = .ok (.getfield 308, 3) := by decide +kernel
theorem dX11_plan_69 : decode cX11_plan 69 = .ok (.iload_n 1, 1) := by decide +kernel
theorem dX11_plan_70 : decode cX11_plan 70 = .ok (.iload_n 2, 1) := by decide +kernel
theorem dX11_plan_71 : decode cX11_plan 71 = .ok (.iconst 0, 1) := by decide +kernel
theorem dX11_plan_72 : decode cX11_plan 72 = .ok (.invokevirtual 259, 3) := by decide +kernel
theorem dX11_plan_75 : decode cX11_plan 75 = .ok (.goto 4, 3) := by decide +kernel
theorem dX11_plan_78 : decode cX11_plan 78 = .ok (.iconst (-1), 1) := by decide +kernel
theorem dX11_plan_79 : decode cX11_plan 79 = .ok (.ireturn, 1) := by decide +kernel
theorem dX11_plan_80 : decode cX11_plan 80 = .ok (.aload_n 0, 1) := by decide +kernel
theorem dX11_plan_81 : decode cX11_plan 81 = .ok (.getfield 14, 3) := by decide +kernel
theorem dX11_plan_84 : decode cX11_plan 84 = .ok (.getfield 60, 3) := by decide +kernel
theorem dX11_plan_87 : decode cX11_plan 87 = .ok (.iload_n 2, 1) := by decide +kernel
theorem dX11_plan_88 : decode cX11_plan 88 = .ok (.invokevirtual 71, 3) := by decide +kernel
theorem dX11_plan_91 : decode cX11_plan 91 = .ok (.ifCond .eq 19, 3) := by decide +kernel
theorem dX11_plan_94 : decode cX11_plan 94 = .ok (.aload_n 0, 1) := by decide +kernel
theorem dX11_plan_95 : decode cX11_plan 95 = .ok (.getfield 14, 3) := by decide +kernel
theorem dX11_plan_98 : decode cX11_plan 98 = .ok (.getfield 308, 3) := by decide +kernel
theorem dX11_plan_101 : decode cX11_plan 101 = .ok (.iload_n 1, 1) := by decide +kernel
theorem dX11_plan_102 : decode cX11_plan 102 = .ok (.iload_n 2, 1) := by decide +kernel
theorem dX11_plan_103 : decode cX11_plan 103 = .ok (.iconst 0, 1) := by decide +kernel
theorem dX11_plan_104 : decode cX11_plan 104 = .ok (.invokevirtual 259, 3) := by decide +kernel
theorem dX11_plan_107 : decode cX11_plan 107 = .ok (.goto 4, 3) := by decide +kernel
theorem dX11_plan_110 : decode cX11_plan 110 = .ok (.iconst (-1), 1) := by decide +kernel
theorem dX11_plan_111 : decode cX11_plan 111 = .ok (.ireturn, 1) := by decide +kernel
theorem dX11_plan_112 : decode cX11_plan 112 = .ok (.aload_n 0, 1) := by decide +kernel
theorem dX11_plan_113 : decode cX11_plan 113 = .ok (.getfield 14, 3) := by decide +kernel
theorem dX11_plan_116 : decode cX11_plan 116 = .ok (.getfield 308, 3) := by decide +kernel
theorem dX11_plan_119 : decode cX11_plan 119 = .ok (.iload_n 1, 1) := by decide +kernel
theorem dX11_plan_120 : decode cX11_plan 120 = .ok (.iconst 0, 1) := by decide +kernel
theorem dX11_plan_121 : decode cX11_plan 121 = .ok (.iconst 0, 1) := by decide +kernel
theorem dX11_plan_122 : decode cX11_plan 122 = .ok (.invokevirtual 259, 3) := by decide +kernel
theorem dX11_plan_125 : decode cX11_plan 125 = .ok (.ireturn, 1) := by decide +kernel
theorem dX11_plan_126 : decode cX11_plan 126 = .ok (.iconst (-1), 1) := by decide +kernel
theorem dX11_plan_127 : decode cX11_plan 127 = .ok (.ireturn, 1) := by decide +kernel
theorem dX11_ends_0 : decode cX11_ends 0 = .ok (.iload_n 1, 1) := by decide +kernel
theorem dX11_ends_1 : decode cX11_ends 1 = .ok (.ifCond .lt 8, 3) := by decide +kernel
theorem dX11_ends_4 : decode cX11_ends 4 = .ok (.iload_n 1, 1) := by decide +kernel
theorem dX11_ends_5 : decode cX11_ends 5 = .ok (.iconst 1, 1) := by decide +kernel
theorem dX11_ends_6 : decode cX11_ends 6 = .ok (.if_icmp .le 7, 3) := by decide +kernel
theorem dX11_ends_9 : decode cX11_ends 9 = .ok (.sipush (-10001), 3) := by decide +kernel
theorem dX11_ends_12 : decode cX11_ends 12 = .ok (.ireturn, 1) := by decide +kernel
theorem dX11_ends_13 : decode cX11_ends 13 = .ok (.aload_n 0, 1) := by decide +kernel
theorem dX11_ends_14 : decode cX11_ends 14 = .ok (.getfield 28, 3) := by decide +kernel
theorem dX11_ends_17 : decode cX11_ends 17 = .ok (.aload_n 0, 1) := by decide +kernel
theorem dX11_ends_18 : decode cX11_ends 18 = .ok (.getfield 14, 3) := by decide +kernel
theorem dX11_ends_21 : decode cX11_ends 21 = .ok (.getfield 60, 3) := by decide +kernel
theorem dX11_ends_24 : decode cX11_ends 24 = .ok (.invokevirtual 248, 3) := by decide +kernel
theorem dX11_ends_27 : decode cX11_ends 27 = .ok (.iconst 0, 1) := by decide +kernel
theorem dX11_ends_28 : decode cX11_ends 28 = .ok (.istore_n 2, 1) := by decide +kernel
theorem dX11_ends_29 : decode cX11_ends 29 = .ok (.iload_n 2, 1) := by decide +kernel
theorem dX11_ends_30 : decode cX11_ends 30 = .ok (.aload_n 0, 1) := by decide +kernel
theorem dX11_ends_31 : decode cX11_ends 31 = .ok (.getfield 14, 3) := by decide +kernel
theorem dX11_ends_34 : decode cX11_ends 34 = .ok (.getfield 308, 3) := by decide +kernel
theorem dX11_ends_37 : decode cX11_ends 37 = .ok (.getfield 272, 3) := by decide +kernel
theorem dX11_ends_40 : decode cX11_ends 40 = .ok (.if_icmp .ge 37, 3) := by decide +kernel
theorem dX11_ends_43 : decode cX11_ends 43 = .ok (.aload_n 0, 1) := by decide +kernel
theorem dX11_ends_44 : decode cX11_ends 44 = .ok (.aload_n 0, 1) := by decide +kernel
theorem dX11_ends_45 : decode cX11_ends 45 = .ok (.getfield 14, 3) := by decide +kernel
theorem dX11_ends_48 : decode cX11_ends 48 = .ok (.getfield 308, 3) := by decide +kernel
theorem dX11_ends_51 : decode cX11_ends 51 = .ok (.getfield 281, 3) := by decide +kernel
theorem dX11_ends_54 : decode cX11_ends 54 = .ok (.iload_n 2, 1) := by decide +kernel
theorem dX11_ends_55 : decode cX11_ends 55 = .ok (.iaload, 1) := by decide +kernel
theorem dX11_ends_56 : decode cX11_ends 56 = .ok (.aload_n 0, 1) := by decide +kernel
theorem dX11_ends_57 : decode cX11_ends 57 = .ok (.getfield 14, 3) := by decide +kernel
theorem dX11_ends_60 : decode cX11_ends 60 = .ok (.getfield 308, 3) := by decide +kernel
theorem dX11_ends_63 : decode cX11_ends 63 = .ok (.getfield 273, 3) := by decide +kernel
theorem dX11_ends_66 : decode cX11_ends 66 = .ok (.iload_n 2, 1) := by decide +kernel
theorem dX11_ends_67 : decode cX11_ends 67 = .ok (.iaload, 1) := by decide +kernel
theorem dX11_ends_68 : decode cX11_ends 68 = .ok (.invokevirtual 311, 3) := by decide +kernel
theorem dX11_ends_71 : decode cX11_ends 71 = .ok (.iinc 2 1, 3) := by decide +kernel
theorem dX11_ends_74 : decode cX11_ends 74 = .ok (.goto (-45), 3) := by decide +kernel
theorem dX11_ends_77 : decode cX11_ends 77 = .ok (.iload_n 1, 1) := by decide +kernel
theorem dX11_ends_78 : decode cX11_ends 78 = .ok (.ifCond .ne 13, 3) := by decide +kernel
theorem dX11_ends_81 : decode cX11_ends 81 = .ok (.aload_n 0, 1) := by decide +kernel
theorem dX11_ends_82 : decode cX11_ends 82 = .ok (.getfield 28, 3) := by decide +kernel
theorem dX11_ends_85 : decode cX11_ends 85 = .ok (.invokevirtual 223, 3) := by decide +kernel
theorem dX11_ends_88 : decode cX11_ends 88 = .ok (.goto 11, 3) := by decide +kernel
theorem dX11_ends_91 : decode cX11_ends 91 = .ok (.aload_n 0, 1) := by decide +kernel
theorem dX11_ends_92 : decode cX11_ends 92 = .ok (.getfield 28, 3) := by decide +kernel
theorem dX11_ends_95 : decode cX11_ends 95 = .ok (.invokevirtual 296, 3) := by decide +kernel
theorem dX11_ends_98 : decode cX11_ends 98 = .ok (.l2i, 1) := by decide +kernel
theorem dX11_ends_99 : decode cX11_ends 99 = .ok (.ireturn, 1) := by decide +kernel
theorem dX11_playRow_0 : decode cX11_playRow 0 = .ok (.iload_n 1, 1) := by decide +kernel
theorem dX11_playRow_1 : decode cX11_playRow 1 = .ok (.iconst 3, 1) := by decide +kernel
theorem dX11_playRow_2 : decode cX11_playRow 2 = .ok (.if_icmp .ne 27, 3) := by decide +kernel
theorem dX11_playRow_5 : decode cX11_playRow 5 = .ok (.aload_n 0, 1) := by decide +kernel
theorem dX11_playRow_6 : decode cX11_playRow 6 = .ok (.getfield 35, 3) := by decide +kernel
theorem dX11_playRow_9 : decode cX11_playRow 9 = .ok (.aload_n 0, 1) := by decide +kernel
theorem dX11_playRow_10 : decode cX11_playRow 10 = .ok (.getfield 28, 3) := by decide +kernel
theorem dX11_playRow_13 : decode cX11_playRow 13 = .ok (.invokevirtual 170, 3) := by decide +kernel
theorem dX11_playRow_16 : decode cX11_playRow 16 = .ok (.aload_n 0, 1) := by decide +kernel
theorem dX11_playRow_17 : decode cX11_playRow 17 = .ok (.aload_n 0, 1) := by decide +kernel
theorem dX11_playRow_18 : decode cX11_playRow 18 = .ok (.getfield 28, 3) := by decide +kernel
theorem dX11_playRow_21 : decode cX11_playRow 21 = .ok (.iconst 1, 1) := by decide +kernel
theorem dX11_playRow_22 : decode cX11_playRow 22 = .ok (.invokevirtual 216, 3) := by decide +kernel
theorem dX11_playRow_25 : decode cX11_playRow 25 = .ok (.pop, 1) := by decide +kernel
theorem dX11_playRow_26 : decode cX11_playRow 26 = .ok (.goto 51, 3) := by decide +kernel
theorem dX11_playRow_29 : decode cX11_playRow 29 = .ok (.iload_n 1, 1) := by decide +kernel
theorem dX11_playRow_30 : decode cX11_playRow 30 = .ok (.iconst 1, 1) := by decide +kernel
theorem dX11_playRow_31 : decode cX11_playRow 31 = .ok (.if_icmp .ne 29, 3) := by decide +kernel
theorem dX11_playRow_34 : decode cX11_playRow 34 = .ok (.aload_n 0, 1) := by decide +kernel
theorem dX11_playRow_35 : decode cX11_playRow 35 = .ok (.getfield 28, 3) := by decide +kernel
theorem dX11_playRow_38 : decode cX11_playRow 38 = .ok (.iload_n 2, 1) := by decide +kernel
theorem dX11_playRow_39 : decode cX11_playRow 39 = .ok (.invokevirtual 71, 3) := by decide +kernel
theorem dX11_playRow_42 : decode cX11_playRow 42 = .ok (.ifCond .eq 35, 3) := by decide +kernel
theorem dX11_playRow_45 : decode cX11_playRow 45 = .ok (.aload_n 0, 1) := by decide +kernel
theorem dX11_playRow_46 : decode cX11_playRow 46 = .ok (.getfield 28, 3) := by decide +kernel
theorem dX11_playRow_49 : decode cX11_playRow 49 = .ok (.getfield 75, 3) := by decide +kernel
theorem dX11_playRow_52 : decode cX11_playRow 52 = .ok (.iload_n 2, 1) := by decide +kernel
theorem dX11_playRow_53 : decode cX11_playRow 53 = .ok (.aaload, 1) := by decide +kernel
theorem dX11_playRow_54 : decode cX11_playRow 54 = .ok (.invokevirtual 89, 3) := by decide +kernel
theorem dX11_playRow_57 : decode cX11_playRow 57 = .ok (.goto 20, 3) := by decide +kernel
theorem dX11_playRow_60 : decode cX11_playRow 60 = .ok (.aload_n 0, 1) := by decide +kernel
theorem dX11_playRow_61 : decode cX11_playRow 61 = .ok (.getfield 28, 3) := by decide +kernel
theorem dX11_playRow_64 : decode cX11_playRow 64 = .ok (.iload_n 2, 1) := by decide +kernel
theorem dX11_playRow_65 : decode cX11_playRow 65 = .ok (.invokevirtual 135, 3) := by decide +kernel
theorem dX11_playRow_68 : decode cX11_playRow 68 = .ok (.ifCond .eq 9, 3) := by decide +kernel
theorem dX11_playRow_71 : decode cX11_playRow 71 = .ok (.aload_n 0, 1) := by decide +kernel
theorem dX11_playRow_72 : decode cX11_playRow 72 = .ok (.iload_n 1, 1) := by decide +kernel
theorem dX11_playRow_73 : decode cX11_playRow 73 = .ok (.iload_n 2, 1) := by decide +kernel
theorem dX11_playRow_74 : decode cX11_playRow 74 = .ok (.invokevirtual 315, 3) := by decide +kernel
theorem dX11_playRow_77 : decode cX11_playRow 77 = .ok (.return_, 1) := by decide +kernel
theorem dX11_playBoxRow_0 : decode cX11_playBoxRow 0 = .ok (.iload_n 1, 1) := by decide +kernel
theorem dX11_playBoxRow_1 : decode cX11_playBoxRow 1 = .ok (.iconst 2, 1) := by decide +kernel
theorem dX11_playBoxRow_2 : decode cX11_playBoxRow 2 = .ok (.if_icmp .ne 19, 3) := by decide +kernel
theorem dX11_playBoxRow_5 : decode cX11_playBoxRow 5 = .ok (.aload_n 0, 1) := by decide +kernel
theorem dX11_playBoxRow_6 : decode cX11_playBoxRow 6 = .ok (.getfield 28, 3) := by decide +kernel
theorem dX11_playBoxRow_9 : decode cX11_playBoxRow 9 = .ok (.getfield 138, 3) := by decide +kernel
theorem dX11_playBoxRow_12 : decode cX11_playBoxRow 12 = .ok (.iload_n 2, 1) := by decide +kernel
theorem dX11_playBoxRow_13 : decode cX11_playBoxRow 13 = .ok (.aaload, 1) := by decide +kernel
theorem dX11_playBoxRow_14 : decode cX11_playBoxRow 14 = .ok (.iconst 0, 1) := by decide +kernel
theorem dX11_playBoxRow_15 : decode cX11_playBoxRow 15 = .ok (.putfield 147, 3) := by decide +kernel
theorem dX11_playBoxRow_18 : decode cX11_playBoxRow 18 = .ok (.goto 27, 3) := by decide +kernel
theorem dX11_playBoxRow_21 : decode cX11_playBoxRow 21 = .ok (.aload_n 0, 1) := by decide +kernel
theorem dX11_playBoxRow_22 : decode cX11_playBoxRow 22 = .ok (.getfield 35, 3) := by decide +kernel
theorem dX11_playBoxRow_25 : decode cX11_playBoxRow 25 = .ok (.aload_n 0, 1) := by decide +kernel
theorem dX11_playBoxRow_26 : decode cX11_playBoxRow 26 = .ok (.getfield 28, 3) := by decide +kernel
theorem dX11_playBoxRow_29 : decode cX11_playBoxRow 29 = .ok (.iload_n 2, 1) := by decide +kernel
theorem dX11_playBoxRow_30 : decode cX11_playBoxRow 30 = .ok (.invokevirtual 157, 3) := by decide +kernel
theorem dX11_playBoxRow_33 : decode cX11_playBoxRow 33 = .ok (.ifCond .eq 12, 3) := by decide +kernel
theorem dX11_playBoxRow_36 : decode cX11_playBoxRow 36 = .ok (.aload_n 0, 1) := by decide +kernel
theorem dX11_playBoxRow_37 : decode cX11_playBoxRow 37 = .ok (.getfield 28, 3) := by decide +kernel
theorem dX11_playBoxRow_40 : decode cX11_playBoxRow 40 = .ok (.iload_n 2, 1) := by decide +kernel
theorem dX11_playBoxRow_41 : decode cX11_playBoxRow 41 = .ok (.invokevirtual 213, 3) := by decide +kernel
theorem dX11_playBoxRow_44 : decode cX11_playBoxRow 44 = .ok (.pop, 1) := by decide +kernel
theorem dX11_playBoxRow_45 : decode cX11_playBoxRow 45 = .ok (.return_, 1) := by decide +kernel
theorem dX11_book_0 : decode cX11_book 0 = .ok (.iload_n 1, 1) := by decide +kernel
theorem dX11_book_1 : decode cX11_book 1 = .ok (.iconst (-1), 1) := by decide +kernel
theorem dX11_book_2 : decode cX11_book 2 = .ok (.if_icmp .ne 14, 3) := by decide +kernel
theorem dX11_book_5 : decode cX11_book 5 = .ok (.aload_n 0, 1) := by decide +kernel
theorem dX11_book_6 : decode cX11_book 6 = .ok (.getfield 14, 3) := by decide +kernel
theorem dX11_book_9 : decode cX11_book 9 = .ok (.getfield 318, 3) := by decide +kernel
theorem dX11_book_12 : decode cX11_book 12 = .ok (.invokevirtual 255, 3) := by decide +kernel
theorem dX11_book_15 : decode cX11_book 15 = .ok (.ireturn, 1) := by decide +kernel
theorem dX11_book_16 : decode cX11_book 16 = .ok (.aload_n 0, 1) := by decide +kernel
theorem dX11_book_17 : decode cX11_book 17 = .ok (.getfield 14, 3) := by decide +kernel
theorem dX11_book_20 : decode cX11_book 20 = .ok (.getfield 60, 3) := by decide +kernel
theorem dX11_book_23 : decode cX11_book 23 = .ok (.iload_n 1, 1) := by decide +kernel
theorem dX11_book_24 : decode cX11_book 24 = .ok (.invokevirtual 71, 3) := by decide +kernel
theorem dX11_book_27 : decode cX11_book 27 = .ok (.ifCond .ne 5, 3) := by decide +kernel
theorem dX11_book_30 : decode cX11_book 30 = .ok (.iconst (-1), 1) := by decide +kernel
theorem dX11_book_31 : decode cX11_book 31 = .ok (.ireturn, 1) := by decide +kernel
theorem dX11_book_32 : decode cX11_book 32 = .ok (.iload_n 2, 1) := by decide +kernel
theorem dX11_book_33 : decode cX11_book 33 = .ok (.ifCond .lt 9, 3) := by decide +kernel
theorem dX11_book_36 : decode cX11_book 36 = .ok (.iload_n 2, 1) := by decide +kernel
theorem dX11_book_37 : decode cX11_book 37 = .ok (.bipush 99, 2) := by decide +kernel
theorem dX11_book_39 : decode cX11_book 39 = .ok (.if_icmp .le 6, 3) := by decide +kernel
theorem dX11_book_42 : decode cX11_book 42 = .ok (.bipush (-2), 2) := by decide +kernel
theorem dX11_book_44 : decode cX11_book 44 = .ok (.ireturn, 1) := by decide +kernel
theorem dX11_book_45 : decode cX11_book 45 = .ok (.aload_n 0, 1) := by decide +kernel
theorem dX11_book_46 : decode cX11_book 46 = .ok (.getfield 14, 3) := by decide +kernel
theorem dX11_book_49 : decode cX11_book 49 = .ok (.getfield 318, 3) := by decide +kernel
theorem dX11_book_52 : decode cX11_book 52 = .ok (.iload_n 1, 1) := by decide +kernel
theorem dX11_book_53 : decode cX11_book 53 = .ok (.iload_n 2, 1) := by decide +kernel
theorem dX11_book_54 : decode cX11_book 54 = .ok (.iconst 0, 1) := by decide +kernel
theorem dX11_book_55 : decode cX11_book 55 = .ok (.invokevirtual 259, 3) := by decide +kernel
theorem dX11_book_58 : decode cX11_book 58 = .ok (.ireturn, 1) := by decide +kernel
theorem dX11_looked_0 : decode cX11_looked 0 = .ok (.aload_n 0, 1) := by decide +kernel
theorem dX11_looked_1 : decode cX11_looked 1 = .ok (.getfield 14, 3) := by decide +kernel
theorem dX11_looked_4 : decode cX11_looked 4 = .ok (.getfield 318, 3) := by decide +kernel
theorem dX11_looked_7 : decode cX11_looked 7 = .ok (.astore_n 1, 1) := by decide +kernel
theorem dX11_looked_8 : decode cX11_looked 8 = .ok (.iconst 0, 1) := by decide +kernel
theorem dX11_looked_9 : decode cX11_looked 9 = .ok (.istore_n 2, 1) := by decide +kernel
theorem dX11_looked_10 : decode cX11_looked 10 = .ok (.iload_n 2, 1) := by decide +kernel
theorem dX11_looked_11 : decode cX11_looked 11 = .ok (.aload_n 1, 1) := by decide +kernel
theorem dX11_looked_12 : decode cX11_looked 12 = .ok (.getfield 272, 3) := by decide +kernel
theorem dX11_looked_15 : decode cX11_looked 15 = .ok (.if_icmp .ge 56, 3) := by decide +kernel
theorem dX11_looked_18 : decode cX11_looked 18 = .ok (.aload_n 1, 1) := by decide +kernel
theorem dX11_looked_19 : decode cX11_looked 19 = .ok (.getfield 281, 3) := by decide +kernel
theorem dX11_looked_22 : decode cX11_looked 22 = .ok (.iload_n 2, 1) := by decide +kernel
theorem dX11_looked_23 : decode cX11_looked 23 = .ok (.iaload, 1) := by decide +kernel
theorem dX11_looked_24 : decode cX11_looked 24 = .ok (.istore_n 3, 1) := by decide +kernel
theorem dX11_looked_25 : decode cX11_looked 25 = .ok (.aload_n 0, 1) := by decide +kernel
theorem dX11_looked_26 : decode cX11_looked 26 = .ok (.getfield 14, 3) := by decide +kernel
theorem dX11_looked_29 : decode cX11_looked 29 = .ok (.getfield 60, 3) := by decide +kernel
theorem dX11_looked_32 : decode cX11_looked 32 = .ok (.iload_n 3, 1) := by decide +kernel
theorem dX11_looked_33 : decode cX11_looked 33 = .ok (.invokevirtual 71, 3) := by decide +kernel
theorem dX11_looked_36 : decode cX11_looked 36 = .ok (.ifCond .eq 27, 3) := by decide +kernel
theorem dX11_looked_39 : decode cX11_looked 39 = .ok (.aload_n 0, 1) := by decide +kernel
theorem dX11_looked_40 : decode cX11_looked 40 = .ok (.getfield 14, 3) := by decide +kernel
theorem dX11_looked_43 : decode cX11_looked 43 = .ok (.getfield 60, 3) := by decide +kernel
theorem dX11_looked_46 : decode cX11_looked 46 = .ok (.getfield 75, 3) := by decide +kernel
theorem dX11_looked_49 : decode cX11_looked 49 = .ok (.iload_n 3, 1) := by decide +kernel
theorem dX11_looked_50 : decode cX11_looked 50 = .ok (.aaload, 1) := by decide +kernel
theorem dX11_looked_51 : decode cX11_looked 51 = .ok (.getfield 79, 3) := by decide +kernel
theorem dX11_looked_54 : decode cX11_looked 54 = .ok (.aload_n 1, 1) := by decide +kernel
theorem dX11_looked_55 : decode cX11_looked 55 = .ok (.getfield 273, 3) := by decide +kernel
theorem dX11_looked_58 : decode cX11_looked 58 = .ok (.iload_n 2, 1) := by decide +kernel
theorem dX11_looked_59 : decode cX11_looked 59 = .ok (.iaload, 1) := by decide +kernel
theorem dX11_looked_60 : decode cX11_looked 60 = .ok (.if_icmp .eq 5, 3) := by decide +kernel
theorem dX11_looked_63 : decode cX11_looked 63 = .ok (.iload_n 2, 1) := by decide +kernel
theorem dX11_looked_64 : decode cX11_looked 64 = .ok (.ireturn, 1) := by decide +kernel
theorem dX11_looked_65 : decode cX11_looked 65 = .ok (.iinc 2 1, 3) := by decide +kernel
theorem dX11_looked_68 : decode cX11_looked 68 = .ok (.goto (-58), 3) := by decide +kernel
theorem dX11_looked_71 : decode cX11_looked 71 = .ok (.bipush (-5), 2) := by decide +kernel
theorem dX11_looked_73 : decode cX11_looked 73 = .ok (.ireturn, 1) := by decide +kernel
theorem dX11_judge_0 : decode cX11_judge 0 = .ok (.aload_n 0, 1) := by decide +kernel
theorem dX11_judge_1 : decode cX11_judge 1 = .ok (.getfield 14, 3) := by decide +kernel
theorem dX11_judge_4 : decode cX11_judge 4 = .ok (.getfield 60, 3) := by decide +kernel
theorem dX11_judge_7 : decode cX11_judge 7 = .ok (.iload_n 1, 1) := by decide +kernel
theorem dX11_judge_8 : decode cX11_judge 8 = .ok (.invokevirtual 71, 3) := by decide +kernel
theorem dX11_judge_11 : decode cX11_judge 11 = .ok (.ifCond .eq 10, 3) := by decide +kernel
theorem dX11_judge_14 : decode cX11_judge 14 = .ok (.iload_n 2, 1) := by decide +kernel
theorem dX11_judge_15 : decode cX11_judge 15 = .ok (.invokestatic 321, 3) := by decide +kernel
theorem dX11_judge_18 : decode cX11_judge 18 = .ok (.ifCond .ne 5, 3) := by decide +kernel
theorem dX11_judge_21 : decode cX11_judge 21 = .ok (.iconst (-1), 1) := by decide +kernel
theorem dX11_judge_22 : decode cX11_judge 22 = .ok (.ireturn, 1) := by decide +kernel
theorem dX11_judge_23 : decode cX11_judge 23 = .ok (.aload_n 0, 1) := by decide +kernel
theorem dX11_judge_24 : decode cX11_judge 24 = .ok (.getfield 55, 3) := by decide +kernel
theorem dX11_judge_27 : decode cX11_judge 27 = .ok (.iload_n 2, 1) := by decide +kernel
theorem dX11_judge_28 : decode cX11_judge 28 = .ok (.aaload, 1) := by decide +kernel
theorem dX11_judge_29 : decode cX11_judge 29 = .ok (.astore 4, 2) := by decide +kernel
theorem dX11_judge_31 : decode cX11_judge 31 = .ok (.aload 4, 2) := by decide +kernel
theorem dX11_judge_33 : decode cX11_judge 33 = .ok (.getfield 324, 3) := by decide +kernel
theorem dX11_judge_36 : decode cX11_judge 36 = .ok (.iconst (-1), 1) := by decide +kernel
theorem dX11_judge_37 : decode cX11_judge 37 = .ok (.if_icmp .eq 15, 3) := by decide +kernel
theorem dX11_judge_40 : decode cX11_judge 40 = .ok (.aload 4, 2) := by decide +kernel
theorem dX11_judge_42 : decode cX11_judge 42 = .ok (.getfield 324, 3) := by decide +kernel
theorem dX11_judge_45 : decode cX11_judge 45 = .ok (.iconst 2, 1) := by decide +kernel
theorem dX11_judge_46 : decode cX11_judge 46 = .ok (.if_icmp .eq 6, 3) := by decide +kernel
theorem dX11_judge_49 : decode cX11_judge 49 = .ok (.bipush (-12), 2) := by decide +kernel
theorem dX11_judge_51 : decode cX11_judge 51 = .ok (.ireturn, 1) := by decide +kernel
theorem dX11_judge_52 : decode cX11_judge 52 = .ok (.aload_n 0, 1) := by decide +kernel
theorem dX11_judge_53 : decode cX11_judge 53 = .ok (.getfield 14, 3) := by decide +kernel
theorem dX11_judge_56 : decode cX11_judge 56 = .ok (.getfield 60, 3) := by decide +kernel
theorem dX11_judge_59 : decode cX11_judge 59 = .ok (.getfield 75, 3) := by decide +kernel
theorem dX11_judge_62 : decode cX11_judge 62 = .ok (.iload_n 1, 1) := by decide +kernel
theorem dX11_judge_63 : decode cX11_judge 63 = .ok (.aaload, 1) := by decide +kernel
theorem dX11_judge_64 : decode cX11_judge 64 = .ok (.astore 5, 2) := by decide +kernel
theorem dX11_judge_66 : decode cX11_judge 66 = .ok (.iconst 0, 1) := by decide +kernel
theorem dX11_judge_67 : decode cX11_judge 67 = .ok (.istore 6, 2) := by decide +kernel
theorem dX11_judge_69 : decode cX11_judge 69 = .ok (.iload 6, 2) := by decide +kernel
theorem dX11_judge_71 : decode cX11_judge 71 = .ok (.aload 5, 2) := by decide +kernel
theorem dX11_judge_73 : decode cX11_judge 73 = .ok (.getfield 79, 3) := by decide +kernel
theorem dX11_judge_76 : decode cX11_judge 76 = .ok (.if_icmp .ge 55, 3) := by decide +kernel
theorem dX11_judge_79 : decode cX11_judge 79 = .ok (.iload_n 3, 1) := by decide +kernel
theorem dX11_judge_80 : decode cX11_judge 80 = .ok (.ifCond .lt 15, 3) := by decide +kernel
theorem dX11_judge_83 : decode cX11_judge 83 = .ok (.iload_n 3, 1) := by decide +kernel
theorem dX11_judge_84 : decode cX11_judge 84 = .ok (.aload 4, 2) := by decide +kernel
theorem dX11_judge_86 : decode cX11_judge 86 = .ok (.getfield 327, 3) := by decide +kernel
theorem dX11_judge_89 : decode cX11_judge 89 = .ok (.iload 6, 2) := by decide +kernel
theorem dX11_judge_91 : decode cX11_judge 91 = .ok (.isub, 1) := by decide +kernel
theorem dX11_judge_92 : decode cX11_judge 92 = .ok (.if_icmp .lt 9, 3) := by decide +kernel
theorem dX11_judge_95 : decode cX11_judge 95 = .ok (.bipush 100, 2) := by decide +kernel
theorem dX11_judge_97 : decode cX11_judge 97 = .ok (.iload 6, 2) := by decide +kernel
theorem dX11_judge_99 : decode cX11_judge 99 = .ok (.iadd, 1) := by decide +kernel
theorem dX11_judge_100 : decode cX11_judge 100 = .ok (.ireturn, 1) := by decide +kernel
theorem dX11_judge_101 : decode cX11_judge 101 = .ok (.aload 4, 2) := by decide +kernel
theorem dX11_judge_103 : decode cX11_judge 103 = .ok (.iload_n 3, 1) := by decide +kernel
theorem dX11_judge_104 : decode cX11_judge 104 = .ok (.iload 6, 2) := by decide +kernel
theorem dX11_judge_106 : decode cX11_judge 106 = .ok (.iadd, 1) := by decide +kernel
theorem dX11_judge_107 : decode cX11_judge 107 = .ok (.invokevirtual 328, 3) := by decide +kernel
theorem dX11_judge_110 : decode cX11_judge 110 = .ok (.aload 5, 2) := by decide +kernel
theorem dX11_judge_112 : decode cX11_judge 112 = .ok (.iload 6, 2) := by decide +kernel
theorem dX11_judge_114 : decode cX11_judge 114 = .ok (.invokevirtual 210, 3) := by decide +kernel
theorem dX11_judge_117 : decode cX11_judge 117 = .ok (.i2l, 1) := by decide +kernel
theorem dX11_judge_118 : decode cX11_judge 118 = .ok (.lcmp, 1) := by decide +kernel
theorem dX11_judge_119 : decode cX11_judge 119 = .ok (.ifCond .eq 6, 3) := by decide +kernel
theorem dX11_judge_122 : decode cX11_judge 122 = .ok (.iload 6, 2) := by decide +kernel
theorem dX11_judge_124 : decode cX11_judge 124 = .ok (.ireturn, 1) := by decide +kernel
theorem dX11_judge_125 : decode cX11_judge 125 = .ok (.iinc 6 1, 3) := by decide +kernel
theorem dX11_judge_128 : decode cX11_judge 128 = .ok (.goto (-59), 3) := by decide +kernel
theorem dX11_judge_131 : decode cX11_judge 131 = .ok (.bipush (-5), 2) := by decide +kernel
theorem dX11_judge_133 : decode cX11_judge 133 = .ok (.ireturn, 1) := by decide +kernel
theorem dX11_image_0 : decode cX11_image 0 = .ok (.aload_n 0, 1) := by decide +kernel
theorem dX11_image_1 : decode cX11_image 1 = .ok (.getfield 18, 3) := by decide +kernel
theorem dX11_image_4 : decode cX11_image 4 = .ok (.aload_n 0, 1) := by decide +kernel
theorem dX11_image_5 : decode cX11_image 5 = .ok (.getfield 14, 3) := by decide +kernel
theorem dX11_image_8 : decode cX11_image 8 = .ok (.invokevirtual 332, 3) := by decide +kernel
theorem dX11_image_11 : decode cX11_image 11 = .ok (.aload_n 0, 1) := by decide +kernel
theorem dX11_image_12 : decode cX11_image 12 = .ok (.iconst 1, 1) := by decide +kernel
theorem dX11_image_13 : decode cX11_image 13 = .ok (.putfield 21, 3) := by decide +kernel
theorem dX11_image_16 : decode cX11_image 16 = .ok (.aload_n 0, 1) := by decide +kernel
theorem dX11_image_17 : decode cX11_image 17 = .ok (.getfield 14, 3) := by decide +kernel
theorem dX11_image_20 : decode cX11_image 20 = .ok (.getfield 60, 3) := by decide +kernel
theorem dX11_image_23 : decode cX11_image 23 = .ok (.getfield 335, 3) := by decide +kernel
theorem dX11_image_26 : decode cX11_image 26 = .ok (.ireturn, 1) := by decide +kernel
theorem dX11_undo_0 : decode cX11_undo 0 = .ok (.aload_n 0, 1) := by decide +kernel
theorem dX11_undo_1 : decode cX11_undo 1 = .ok (.getfield 21, 3) := by decide +kernel
theorem dX11_undo_4 : decode cX11_undo 4 = .ok (.ifCond .ne 6, 3) := by decide +kernel
theorem dX11_undo_7 : decode cX11_undo 7 = .ok (.bipush (-3), 2) := by decide +kernel
theorem dX11_undo_9 : decode cX11_undo 9 = .ok (.ireturn, 1) := by decide +kernel
theorem dX11_undo_10 : decode cX11_undo 10 = .ok (.aload_n 0, 1) := by decide +kernel
theorem dX11_undo_11 : decode cX11_undo 11 = .ok (.getfield 14, 3) := by decide +kernel
theorem dX11_undo_14 : decode cX11_undo 14 = .ok (.aload_n 0, 1) := by decide +kernel
theorem dX11_undo_15 : decode cX11_undo 15 = .ok (.getfield 18, 3) := by decide +kernel
theorem dX11_undo_18 : decode cX11_undo 18 = .ok (.invokevirtual 332, 3) := by decide +kernel
theorem dX11_undo_21 : decode cX11_undo 21 = .ok (.aload_n 0, 1) := by decide +kernel
theorem dX11_undo_22 : decode cX11_undo 22 = .ok (.getfield 14, 3) := by decide +kernel
theorem dX11_undo_25 : decode cX11_undo 25 = .ok (.getfield 60, 3) := by decide +kernel
theorem dX11_undo_28 : decode cX11_undo 28 = .ok (.getfield 335, 3) := by decide +kernel
theorem dX11_undo_31 : decode cX11_undo 31 = .ok (.ireturn, 1) := by decide +kernel
theorem dX11_count_0 : decode cX11_count 0 = .ok (.iload_n 1, 1) := by decide +kernel
theorem dX11_count_1 : decode cX11_count 1 = .ok (.tableswitch 117 0 6 #[43, 54, 65, 76, 87, 98, 109], 43) := by decide +kernel
theorem dX11_count_44 : decode cX11_count 44 = .ok (.aload_n 0, 1) := by decide +kernel
theorem dX11_count_45 : decode cX11_count 45 = .ok (.getfield 14, 3) := by decide +kernel
theorem dX11_count_48 : decode cX11_count 48 = .ok (.getfield 60, 3) := by decide +kernel
theorem dX11_count_51 : decode cX11_count 51 = .ok (.getfield 335, 3) := by decide +kernel
theorem dX11_count_54 : decode cX11_count 54 = .ok (.ireturn, 1) := by decide +kernel
theorem dX11_count_55 : decode cX11_count 55 = .ok (.aload_n 0, 1) := by decide +kernel
theorem dX11_count_56 : decode cX11_count 56 = .ok (.getfield 14, 3) := by decide +kernel
theorem dX11_count_59 : decode cX11_count 59 = .ok (.getfield 60, 3) := by decide +kernel
theorem dX11_count_62 : decode cX11_count 62 = .ok (.getfield 338, 3) := by decide +kernel
theorem dX11_count_65 : decode cX11_count 65 = .ok (.ireturn, 1) := by decide +kernel
theorem dX11_count_66 : decode cX11_count 66 = .ok (.aload_n 0, 1) := by decide +kernel
theorem dX11_count_67 : decode cX11_count 67 = .ok (.getfield 14, 3) := by decide +kernel
theorem dX11_count_70 : decode cX11_count 70 = .ok (.getfield 60, 3) := by decide +kernel
theorem dX11_count_73 : decode cX11_count 73 = .ok (.invokevirtual 341, 3) := by decide +kernel
theorem dX11_count_76 : decode cX11_count 76 = .ok (.ireturn, 1) := by decide +kernel
theorem dX11_count_77 : decode cX11_count 77 = .ok (.aload_n 0, 1) := by decide +kernel
theorem dX11_count_78 : decode cX11_count 78 = .ok (.getfield 14, 3) := by decide +kernel
theorem dX11_count_81 : decode cX11_count 81 = .ok (.getfield 251, 3) := by decide +kernel
theorem dX11_count_84 : decode cX11_count 84 = .ok (.getfield 272, 3) := by decide +kernel
theorem dX11_count_87 : decode cX11_count 87 = .ok (.ireturn, 1) := by decide +kernel
theorem dX11_count_88 : decode cX11_count 88 = .ok (.aload_n 0, 1) := by decide +kernel
theorem dX11_count_89 : decode cX11_count 89 = .ok (.getfield 14, 3) := by decide +kernel
theorem dX11_count_92 : decode cX11_count 92 = .ok (.getfield 308, 3) := by decide +kernel
theorem dX11_count_95 : decode cX11_count 95 = .ok (.getfield 272, 3) := by decide +kernel
theorem dX11_count_98 : decode cX11_count 98 = .ok (.ireturn, 1) := by decide +kernel
theorem dX11_count_99 : decode cX11_count 99 = .ok (.aload_n 0, 1) := by decide +kernel
theorem dX11_count_100 : decode cX11_count 100 = .ok (.getfield 14, 3) := by decide +kernel
theorem dX11_count_103 : decode cX11_count 103 = .ok (.getfield 318, 3) := by decide +kernel
theorem dX11_count_106 : decode cX11_count 106 = .ok (.getfield 272, 3) := by decide +kernel
theorem dX11_count_109 : decode cX11_count 109 = .ok (.ireturn, 1) := by decide +kernel
theorem dX11_count_110 : decode cX11_count 110 = .ok (.aload_n 0, 1) := by decide +kernel
theorem dX11_count_111 : decode cX11_count 111 = .ok (.getfield 49, 3) := by decide +kernel
theorem dX11_count_114 : decode cX11_count 114 = .ok (.getfield 95, 3) := by decide +kernel
theorem dX11_count_117 : decode cX11_count 117 = .ok (.ireturn, 1) := by decide +kernel
theorem dX11_count_118 : decode cX11_count 118 = .ok (.bipush (-2), 2) := by decide +kernel
theorem dX11_count_120 : decode cX11_count 120 = .ok (.ireturn, 1) := by decide +kernel
theorem dX11_tape_0 : decode cX11_tape 0 = .ok (.iload_n 1, 1) := by decide +kernel
theorem dX11_tape_1 : decode cX11_tape 1 = .ok (.invokestatic 321, 3) := by decide +kernel
theorem dX11_tape_4 : decode cX11_tape 4 = .ok (.ifCond .ne 5, 3) := by decide +kernel
theorem dX11_tape_7 : decode cX11_tape 7 = .ok (.iconst (-1), 1) := by decide +kernel
theorem dX11_tape_8 : decode cX11_tape 8 = .ok (.ireturn, 1) := by decide +kernel
theorem dX11_tape_9 : decode cX11_tape 9 = .ok (.iload_n 2, 1) := by decide +kernel
theorem dX11_tape_10 : decode cX11_tape 10 = .ok (.iconst (-1), 1) := by decide +kernel
theorem dX11_tape_11 : decode cX11_tape 11 = .ok (.if_icmp .ne 16, 3) := by decide +kernel
theorem dX11_tape_14 : decode cX11_tape 14 = .ok (.aload_n 0, 1) := by decide +kernel
theorem dX11_tape_15 : decode cX11_tape 15 = .ok (.getfield 55, 3) := by decide +kernel
theorem dX11_tape_18 : decode cX11_tape 18 = .ok (.iload_n 1, 1) := by decide +kernel
theorem dX11_tape_19 : decode cX11_tape 19 = .ok (.aaload, 1) := by decide +kernel
theorem dX11_tape_20 : decode cX11_tape 20 = .ok (.iconst (-1), 1) := by decide +kernel
theorem dX11_tape_21 : decode cX11_tape 21 = .ok (.iconst 0, 1) := by decide +kernel
theorem dX11_tape_22 : decode cX11_tape 22 = .ok (.invokevirtual 344, 3) := by decide +kernel
theorem dX11_tape_25 : decode cX11_tape 25 = .ok (.iconst 1, 1) := by decide +kernel
theorem dX11_tape_26 : decode cX11_tape 26 = .ok (.ireturn, 1) := by decide +kernel
theorem dX11_tape_27 : decode cX11_tape 27 = .ok (.iload_n 2, 1) := by decide +kernel
theorem dX11_tape_28 : decode cX11_tape 28 = .ok (.ifCond .lt 14, 3) := by decide +kernel
theorem dX11_tape_31 : decode cX11_tape 31 = .ok (.iload_n 2, 1) := by decide +kernel
theorem dX11_tape_32 : decode cX11_tape 32 = .ok (.iconst 4, 1) := by decide +kernel
theorem dX11_tape_33 : decode cX11_tape 33 = .ok (.if_icmp .gt 9, 3) := by decide +kernel
theorem dX11_tape_36 : decode cX11_tape 36 = .ok (.iload_n 3, 1) := by decide +kernel
theorem dX11_tape_37 : decode cX11_tape 37 = .ok (.bipush 60, 2) := by decide +kernel
theorem dX11_tape_39 : decode cX11_tape 39 = .ok (.if_icmp .le 6, 3) := by decide +kernel
theorem dX11_tape_42 : decode cX11_tape 42 = .ok (.bipush (-2), 2) := by decide +kernel
theorem dX11_tape_44 : decode cX11_tape 44 = .ok (.ireturn, 1) := by decide +kernel
theorem dX11_tape_45 : decode cX11_tape 45 = .ok (.iload_n 3, 1) := by decide +kernel
theorem dX11_tape_46 : decode cX11_tape 46 = .ok (.ifCond .ge 6, 3) := by decide +kernel
theorem dX11_tape_49 : decode cX11_tape 49 = .ok (.bipush (-14), 2) := by decide +kernel
theorem dX11_tape_51 : decode cX11_tape 51 = .ok (.ireturn, 1) := by decide +kernel
theorem dX11_tape_52 : decode cX11_tape 52 = .ok (.aload_n 0, 1) := by decide +kernel
theorem dX11_tape_53 : decode cX11_tape 53 = .ok (.getfield 55, 3) := by decide +kernel
theorem dX11_tape_56 : decode cX11_tape 56 = .ok (.iload_n 1, 1) := by decide +kernel
theorem dX11_tape_57 : decode cX11_tape 57 = .ok (.aaload, 1) := by decide +kernel
theorem dX11_tape_58 : decode cX11_tape 58 = .ok (.iload_n 2, 1) := by decide +kernel
theorem dX11_tape_59 : decode cX11_tape 59 = .ok (.iload_n 3, 1) := by decide +kernel
theorem dX11_tape_60 : decode cX11_tape 60 = .ok (.invokevirtual 344, 3) := by decide +kernel
theorem dX11_tape_63 : decode cX11_tape 63 = .ok (.iconst 1, 1) := by decide +kernel
theorem dX11_tape_64 : decode cX11_tape 64 = .ok (.ireturn, 1) := by decide +kernel
theorem dX11_isTape_0 : decode cX11_isTape 0 = .ok (.iload_n 0, 1) := by decide +kernel
theorem dX11_isTape_1 : decode cX11_isTape 1 = .ok (.ifCond .lt 13, 3) := by decide +kernel
theorem dX11_isTape_4 : decode cX11_isTape 4 = .ok (.iload_n 0, 1) := by decide +kernel
theorem dX11_isTape_5 : decode cX11_isTape 5 = .ok (.bipush 6, 2) := by decide +kernel
theorem dX11_isTape_7 : decode cX11_isTape 7 = .ok (.if_icmp .ge 7, 3) := by decide +kernel
theorem dX11_isTape_10 : decode cX11_isTape 10 = .ok (.iconst 1, 1) := by decide +kernel
theorem dX11_isTape_11 : decode cX11_isTape 11 = .ok (.goto 4, 3) := by decide +kernel
theorem dX11_isTape_14 : decode cX11_isTape 14 = .ok (.iconst 0, 1) := by decide +kernel
theorem dX11_isTape_15 : decode cX11_isTape 15 = .ok (.ireturn, 1) := by decide +kernel
theorem dX11_item_0 : decode cX11_item 0 = .ok (.iload_n 1, 1) := by decide +kernel
theorem dX11_item_1 : decode cX11_item 1 = .ok (.invokestatic 321, 3) := by decide +kernel
theorem dX11_item_4 : decode cX11_item 4 = .ok (.ifCond .ne 5, 3) := by decide +kernel
theorem dX11_item_7 : decode cX11_item 7 = .ok (.iconst (-1), 1) := by decide +kernel
theorem dX11_item_8 : decode cX11_item 8 = .ok (.ireturn, 1) := by decide +kernel
theorem dX11_item_9 : decode cX11_item 9 = .ok (.aload_n 0, 1) := by decide +kernel
theorem dX11_item_10 : decode cX11_item 10 = .ok (.getfield 55, 3) := by decide +kernel
theorem dX11_item_13 : decode cX11_item 13 = .ok (.iload_n 1, 1) := by decide +kernel
theorem dX11_item_14 : decode cX11_item 14 = .ok (.aaload, 1) := by decide +kernel
theorem dX11_item_15 : decode cX11_item 15 = .ok (.getfield 324, 3) := by decide +kernel
theorem dX11_item_18 : decode cX11_item 18 = .ok (.iconst (-1), 1) := by decide +kernel
theorem dX11_item_19 : decode cX11_item 19 = .ok (.if_icmp .ne 6, 3) := by decide +kernel
theorem dX11_item_22 : decode cX11_item 22 = .ok (.bipush (-11), 2) := by decide +kernel
theorem dX11_item_24 : decode cX11_item 24 = .ok (.ireturn, 1) := by decide +kernel
theorem dX11_item_25 : decode cX11_item 25 = .ok (.aload_n 0, 1) := by decide +kernel
theorem dX11_item_26 : decode cX11_item 26 = .ok (.getfield 55, 3) := by decide +kernel
theorem dX11_item_29 : decode cX11_item 29 = .ok (.iload_n 1, 1) := by decide +kernel
theorem dX11_item_30 : decode cX11_item 30 = .ok (.aaload, 1) := by decide +kernel
theorem dX11_item_31 : decode cX11_item 31 = .ok (.iload_n 2, 1) := by decide +kernel
theorem dX11_item_32 : decode cX11_item 32 = .ok (.invokevirtual 347, 3) := by decide +kernel
theorem dX11_item_35 : decode cX11_item 35 = .ok (.ifCond .ne 6, 3) := by decide +kernel
theorem dX11_item_38 : decode cX11_item 38 = .ok (.bipush (-13), 2) := by decide +kernel
theorem dX11_item_40 : decode cX11_item 40 = .ok (.ireturn, 1) := by decide +kernel
theorem dX11_item_41 : decode cX11_item 41 = .ok (.aload_n 0, 1) := by decide +kernel
theorem dX11_item_42 : decode cX11_item 42 = .ok (.getfield 55, 3) := by decide +kernel
theorem dX11_item_45 : decode cX11_item 45 = .ok (.iload_n 1, 1) := by decide +kernel
theorem dX11_item_46 : decode cX11_item 46 = .ok (.aaload, 1) := by decide +kernel
theorem dX11_item_47 : decode cX11_item 47 = .ok (.iload_n 2, 1) := by decide +kernel
theorem dX11_item_48 : decode cX11_item 48 = .ok (.lload_n 3, 1) := by decide +kernel
theorem dX11_item_49 : decode cX11_item 49 = .ok (.invokevirtual 348, 3) := by decide +kernel
theorem dX11_item_52 : decode cX11_item 52 = .ok (.iconst 1, 1) := by decide +kernel
theorem dX11_item_53 : decode cX11_item 53 = .ok (.ireturn, 1) := by decide +kernel
theorem dX11_peek_0 : decode cX11_peek 0 = .ok (.iload_n 1, 1) := by decide +kernel
theorem dX11_peek_1 : decode cX11_peek 1 = .ok (.invokestatic 321, 3) := by decide +kernel
theorem dX11_peek_4 : decode cX11_peek 4 = .ok (.ifCond .eq 16, 3) := by decide +kernel
theorem dX11_peek_7 : decode cX11_peek 7 = .ok (.aload_n 0, 1) := by decide +kernel
theorem dX11_peek_8 : decode cX11_peek 8 = .ok (.getfield 55, 3) := by decide +kernel
theorem dX11_peek_11 : decode cX11_peek 11 = .ok (.iload_n 1, 1) := by decide +kernel
theorem dX11_peek_12 : decode cX11_peek 12 = .ok (.aaload, 1) := by decide +kernel
theorem dX11_peek_13 : decode cX11_peek 13 = .ok (.iload_n 2, 1) := by decide +kernel
theorem dX11_peek_14 : decode cX11_peek 14 = .ok (.invokevirtual 347, 3) := by decide +kernel
theorem dX11_peek_17 : decode cX11_peek 17 = .ok (.ifCond .ne 7, 3) := by decide +kernel
theorem dX11_peek_20 : decode cX11_peek 20 = .ok (.ldc2_w 205, 3) := by decide +kernel
theorem dX11_peek_23 : decode cX11_peek 23 = .ok (.lreturn, 1) := by decide +kernel
theorem dX11_peek_24 : decode cX11_peek 24 = .ok (.aload_n 0, 1) := by decide +kernel
theorem dX11_peek_25 : decode cX11_peek 25 = .ok (.getfield 55, 3) := by decide +kernel
theorem dX11_peek_28 : decode cX11_peek 28 = .ok (.iload_n 1, 1) := by decide +kernel
theorem dX11_peek_29 : decode cX11_peek 29 = .ok (.aaload, 1) := by decide +kernel
theorem dX11_peek_30 : decode cX11_peek 30 = .ok (.iload_n 2, 1) := by decide +kernel
theorem dX11_peek_31 : decode cX11_peek 31 = .ok (.invokevirtual 328, 3) := by decide +kernel
theorem dX11_peek_34 : decode cX11_peek 34 = .ok (.lreturn, 1) := by decide +kernel
theorem dX11_shift_0 : decode cX11_shift 0 = .ok (.iload_n 1, 1) := by decide +kernel
theorem dX11_shift_1 : decode cX11_shift 1 = .ok (.invokestatic 321, 3) := by decide +kernel
theorem dX11_shift_4 : decode cX11_shift 4 = .ok (.ifCond .eq 10, 3) := by decide +kernel
theorem dX11_shift_7 : decode cX11_shift 7 = .ok (.iload_n 3, 1) := by decide +kernel
theorem dX11_shift_8 : decode cX11_shift 8 = .ok (.invokestatic 321, 3) := by decide +kernel
theorem dX11_shift_11 : decode cX11_shift 11 = .ok (.ifCond .ne 5, 3) := by decide +kernel
theorem dX11_shift_14 : decode cX11_shift 14 = .ok (.iconst (-1), 1) := by decide +kernel
theorem dX11_shift_15 : decode cX11_shift 15 = .ok (.ireturn, 1) := by decide +kernel
theorem dX11_shift_16 : decode cX11_shift 16 = .ok (.aload_n 0, 1) := by decide +kernel
theorem dX11_shift_17 : decode cX11_shift 17 = .ok (.getfield 55, 3) := by decide +kernel
theorem dX11_shift_20 : decode cX11_shift 20 = .ok (.iload_n 1, 1) := by decide +kernel
theorem dX11_shift_21 : decode cX11_shift 21 = .ok (.aaload, 1) := by decide +kernel
theorem dX11_shift_22 : decode cX11_shift 22 = .ok (.astore 6, 2) := by decide +kernel
theorem dX11_shift_24 : decode cX11_shift 24 = .ok (.aload_n 0, 1) := by decide +kernel
theorem dX11_shift_25 : decode cX11_shift 25 = .ok (.getfield 55, 3) := by decide +kernel
theorem dX11_shift_28 : decode cX11_shift 28 = .ok (.iload_n 3, 1) := by decide +kernel
theorem dX11_shift_29 : decode cX11_shift 29 = .ok (.aaload, 1) := by decide +kernel
theorem dX11_shift_30 : decode cX11_shift 30 = .ok (.astore 7, 2) := by decide +kernel
theorem dX11_shift_32 : decode cX11_shift 32 = .ok (.aload 6, 2) := by decide +kernel
theorem dX11_shift_34 : decode cX11_shift 34 = .ok (.getfield 324, 3) := by decide +kernel
theorem dX11_shift_37 : decode cX11_shift 37 = .ok (.iconst (-1), 1) := by decide +kernel
theorem dX11_shift_38 : decode cX11_shift 38 = .ok (.if_icmp .eq 12, 3) := by decide +kernel
theorem dX11_shift_41 : decode cX11_shift 41 = .ok (.aload 7, 2) := by decide +kernel
theorem dX11_shift_43 : decode cX11_shift 43 = .ok (.getfield 324, 3) := by decide +kernel
theorem dX11_shift_46 : decode cX11_shift 46 = .ok (.iconst (-1), 1) := by decide +kernel
theorem dX11_shift_47 : decode cX11_shift 47 = .ok (.if_icmp .ne 6, 3) := by decide +kernel
theorem dX11_shift_50 : decode cX11_shift 50 = .ok (.bipush (-11), 2) := by decide +kernel
theorem dX11_shift_52 : decode cX11_shift 52 = .ok (.ireturn, 1) := by decide +kernel
theorem dX11_shift_53 : decode cX11_shift 53 = .ok (.aload 6, 2) := by decide +kernel
theorem dX11_shift_55 : decode cX11_shift 55 = .ok (.getfield 324, 3) := by decide +kernel
theorem dX11_shift_58 : decode cX11_shift 58 = .ok (.aload 7, 2) := by decide +kernel
theorem dX11_shift_60 : decode cX11_shift 60 = .ok (.getfield 324, 3) := by decide +kernel
theorem dX11_shift_63 : decode cX11_shift 63 = .ok (.if_icmp .eq 6, 3) := by decide +kernel
theorem dX11_shift_66 : decode cX11_shift 66 = .ok (.bipush (-12), 2) := by decide +kernel
theorem dX11_shift_68 : decode cX11_shift 68 = .ok (.ireturn, 1) := by decide +kernel
theorem dX11_shift_69 : decode cX11_shift 69 = .ok (.aload 6, 2) := by decide +kernel
theorem dX11_shift_71 : decode cX11_shift 71 = .ok (.iload_n 2, 1) := by decide +kernel
theorem dX11_shift_72 : decode cX11_shift 72 = .ok (.iload 5, 2) := by decide +kernel
theorem dX11_shift_74 : decode cX11_shift 74 = .ok (.invokevirtual 352, 3) := by decide +kernel
theorem dX11_shift_77 : decode cX11_shift 77 = .ok (.ifCond .eq 15, 3) := by decide +kernel
theorem dX11_shift_80 : decode cX11_shift 80 = .ok (.aload 7, 2) := by decide +kernel
theorem dX11_shift_82 : decode cX11_shift 82 = .ok (.iload 4, 2) := by decide +kernel
theorem dX11_shift_84 : decode cX11_shift 84 = .ok (.iload 5, 2) := by decide +kernel
theorem dX11_shift_86 : decode cX11_shift 86 = .ok (.invokevirtual 352, 3) := by decide +kernel
theorem dX11_shift_89 : decode cX11_shift 89 = .ok (.ifCond .ne 6, 3) := by decide +kernel
theorem dX11_shift_92 : decode cX11_shift 92 = .ok (.bipush (-13), 2) := by decide +kernel
theorem dX11_shift_94 : decode cX11_shift 94 = .ok (.ireturn, 1) := by decide +kernel
theorem dX11_shift_95 : decode cX11_shift 95 = .ok (.aload 6, 2) := by decide +kernel
theorem dX11_shift_97 : decode cX11_shift 97 = .ok (.getfield 355, 3) := by decide +kernel
theorem dX11_shift_100 : decode cX11_shift 100 = .ok (.iload_n 2, 1) := by decide +kernel
theorem dX11_shift_101 : decode cX11_shift 101 = .ok (.aload 7, 2) := by decide +kernel
theorem dX11_shift_103 : decode cX11_shift 103 = .ok (.getfield 355, 3) := by decide +kernel
theorem dX11_shift_106 : decode cX11_shift 106 = .ok (.iload 4, 2) := by decide +kernel
theorem dX11_shift_108 : decode cX11_shift 108 = .ok (.iload 5, 2) := by decide +kernel
theorem dX11_shift_110 : decode cX11_shift 110 = .ok (.invokestatic 359, 3) := by decide +kernel
theorem dX11_shift_113 : decode cX11_shift 113 = .ok (.iload 5, 2) := by decide +kernel
theorem dX11_shift_115 : decode cX11_shift 115 = .ok (.ireturn, 1) := by decide +kernel
theorem dX12_init_0 : decode cX12_init 0 = .ok (.aload_n 0, 1) := by decide +kernel
theorem dX12_init_1 : decode cX12_init 1 = .ok (.invokespecial 3, 3) := by decide +kernel
theorem dX12_init_4 : decode cX12_init 4 = .ok (.aload_n 0, 1) := by decide +kernel
theorem dX12_init_5 : decode cX12_init 5 = .ok (.sipush 914, 3) := by decide +kernel
theorem dX12_init_8 : decode cX12_init 8 = .ok (.newarray .int, 2) := by decide +kernel
theorem dX12_init_10 : decode cX12_init 10 = .ok (.putfield 11, 3) := by decide +kernel
theorem dX12_init_13 : decode cX12_init 13 = .ok (.aload_n 0, 1) := by decide +kernel
theorem dX12_init_14 : decode cX12_init 14 = .ok (.sipush 914, 3) := by decide +kernel
theorem dX12_init_17 : decode cX12_init 17 = .ok (.newarray .int, 2) := by decide +kernel
theorem dX12_init_19 : decode cX12_init 19 = .ok (.putfield 15, 3) := by decide +kernel
theorem dX12_init_22 : decode cX12_init 22 = .ok (.aload_n 0, 1) := by decide +kernel
theorem dX12_init_23 : decode cX12_init 23 = .ok (.sipush 914, 3) := by decide +kernel
theorem dX12_init_26 : decode cX12_init 26 = .ok (.newarray .int, 2) := by decide +kernel
theorem dX12_init_28 : decode cX12_init 28 = .ok (.putfield 18, 3) := by decide +kernel
theorem dX12_init_31 : decode cX12_init 31 = .ok (.aload_n 0, 1) := by decide +kernel
theorem dX12_init_32 : decode cX12_init 32 = .ok (.bipush 100, 2) := by decide +kernel
theorem dX12_init_34 : decode cX12_init 34 = .ok (.newarray .int, 2) := by decide +kernel
theorem dX12_init_36 : decode cX12_init 36 = .ok (.putfield 21, 3) := by decide +kernel
theorem dX12_init_39 : decode cX12_init 39 = .ok (.aload_n 0, 1) := by decide +kernel
theorem dX12_init_40 : decode cX12_init 40 = .ok (.bipush 88, 2) := by decide +kernel
theorem dX12_init_42 : decode cX12_init 42 = .ok (.newarray .int, 2) := by decide +kernel
theorem dX12_init_44 : decode cX12_init 44 = .ok (.putfield 24, 3) := by decide +kernel
theorem dX12_init_47 : decode cX12_init 47 = .ok (.aload_n 0, 1) := by decide +kernel
theorem dX12_init_48 : decode cX12_init 48 = .ok (.bipush 6, 2) := by decide +kernel
theorem dX12_init_50 : decode cX12_init 50 = .ok (.newarray .long, 2) := by decide +kernel
theorem dX12_init_52 : decode cX12_init 52 = .ok (.putfield 27, 3) := by decide +kernel
theorem dX12_init_55 : decode cX12_init 55 = .ok (.aload_n 0, 1) := by decide +kernel
theorem dX12_init_56 : decode cX12_init 56 = .ok (.bipush 6, 2) := by decide +kernel
theorem dX12_init_58 : decode cX12_init 58 = .ok (.newarray .long, 2) := by decide +kernel
theorem dX12_init_60 : decode cX12_init 60 = .ok (.putfield 31, 3) := by decide +kernel
theorem dX12_init_63 : decode cX12_init 63 = .ok (.aload_n 0, 1) := by decide +kernel
theorem dX12_init_64 : decode cX12_init 64 = .ok (.bipush 6, 2) := by decide +kernel
theorem dX12_init_66 : decode cX12_init 66 = .ok (.newarray .int, 2) := by decide +kernel
theorem dX12_init_68 : decode cX12_init 68 = .ok (.putfield 34, 3) := by decide +kernel
theorem dX12_init_71 : decode cX12_init 71 = .ok (.aload_n 0, 1) := by decide +kernel
theorem dX12_init_72 : decode cX12_init 72 = .ok (.bipush 6, 2) := by decide +kernel
theorem dX12_init_74 : decode cX12_init 74 = .ok (.newarray .int, 2) := by decide +kernel
theorem dX12_init_76 : decode cX12_init 76 = .ok (.putfield 37, 3) := by decide +kernel
theorem dX12_init_79 : decode cX12_init 79 = .ok (.aload_n 0, 1) := by decide +kernel
theorem dX12_init_80 : decode cX12_init 80 = .ok (.bipush 8, 2) := by decide +kernel
theorem dX12_init_82 : decode cX12_init 82 = .ok (.newarray .int, 2) := by decide +kernel
theorem dX12_init_84 : decode cX12_init 84 = .ok (.putfield 40, 3) := by decide +kernel
theorem dX12_init_87 : decode cX12_init 87 = .ok (.aload_n 0, 1) := by decide +kernel
theorem dX12_init_88 : decode cX12_init 88 = .ok (.sipush 914, 3) := by decide +kernel
theorem dX12_init_91 : decode cX12_init 91 = .ok (.newarray .int, 2) := by decide +kernel
theorem dX12_init_93 : decode cX12_init 93 = .ok (.putfield 43, 3) := by decide +kernel
theorem dX12_init_96 : decode cX12_init 96 = .ok (.aload_n 0, 1) := by decide +kernel
theorem dX12_init_97 : decode cX12_init 97 = .ok (.bipush 72, 2) := by decide +kernel
theorem dX12_init_99 : decode cX12_init 99 = .ok (.newarray .int, 2) := by decide +kernel
theorem dX12_init_101 : decode cX12_init 101 = .ok (.putfield 46, 3) := by decide +kernel
theorem dX12_init_104 : decode cX12_init 104 = .ok (.aload_n 0, 1) := by decide +kernel
theorem dX12_init_105 : decode cX12_init 105 = .ok (.sipush 914, 3) := by decide +kernel
theorem dX12_init_108 : decode cX12_init 108 = .ok (.newarray .int, 2) := by decide +kernel
theorem dX12_init_110 : decode cX12_init 110 = .ok (.putfield 49, 3) := by decide +kernel
theorem dX12_init_113 : decode cX12_init 113 = .ok (.aload_n 0, 1) := by decide +kernel
theorem dX12_init_114 : decode cX12_init 114 = .ok (.bipush 6, 2) := by decide +kernel
theorem dX12_init_116 : decode cX12_init 116 = .ok (.newarray .int, 2) := by decide +kernel
theorem dX12_init_118 : decode cX12_init 118 = .ok (.dup, 1) := by decide +kernel
theorem dX12_init_119 : decode cX12_init 119 = .ok (.iconst 0, 1) := by decide +kernel
theorem dX12_init_120 : decode cX12_init 120 = .ok (.iconst (-1), 1) := by decide +kernel
theorem dX12_init_121 : decode cX12_init 121 = .ok (.iastore, 1) := by decide +kernel
theorem dX12_init_122 : decode cX12_init 122 = .ok (.dup, 1) := by decide +kernel
theorem dX12_init_123 : decode cX12_init 123 = .ok (.iconst 1, 1) := by decide +kernel
theorem dX12_init_124 : decode cX12_init 124 = .ok (.iconst (-1), 1) := by decide +kernel
theorem dX12_init_125 : decode cX12_init 125 = .ok (.iastore, 1) := by decide +kernel
theorem dX12_init_126 : decode cX12_init 126 = .ok (.dup, 1) := by decide +kernel
theorem dX12_init_127 : decode cX12_init 127 = .ok (.iconst 2, 1) := by decide +kernel
theorem dX12_init_128 : decode cX12_init 128 = .ok (.iconst (-1), 1) := by decide +kernel
theorem dX12_init_129 : decode cX12_init 129 = .ok (.iastore, 1) := by decide +kernel
theorem dX12_init_130 : decode cX12_init 130 = .ok (.dup, 1) := by decide +kernel
theorem dX12_init_131 : decode cX12_init 131 = .ok (.iconst 3, 1) := by decide +kernel
theorem dX12_init_132 : decode cX12_init 132 = .ok (.iconst (-1), 1) := by decide +kernel
theorem dX12_init_133 : decode cX12_init 133 = .ok (.iastore, 1) := by decide +kernel
theorem dX12_init_134 : decode cX12_init 134 = .ok (.dup, 1) := by decide +kernel
theorem dX12_init_135 : decode cX12_init 135 = .ok (.iconst 4, 1) := by decide +kernel
theorem dX12_init_136 : decode cX12_init 136 = .ok (.iconst (-1), 1) := by decide +kernel
theorem dX12_init_137 : decode cX12_init 137 = .ok (.iastore, 1) := by decide +kernel
theorem dX12_init_138 : decode cX12_init 138 = .ok (.dup, 1) := by decide +kernel
theorem dX12_init_139 : decode cX12_init 139 = .ok (.iconst 5, 1) := by decide +kernel
theorem dX12_init_140 : decode cX12_init 140 = .ok (.iconst (-1), 1) := by decide +kernel
theorem dX12_init_141 : decode cX12_init 141 = .ok (.iastore, 1) := by decide +kernel
theorem dX12_init_142 : decode cX12_init 142 = .ok (.putfield 52, 3) := by decide +kernel
theorem dX12_init_145 : decode cX12_init 145 = .ok (.aload_n 0, 1) := by decide +kernel
theorem dX12_init_146 : decode cX12_init 146 = .ok (.bipush 6, 2) := by decide +kernel
theorem dX12_init_148 : decode cX12_init 148 = .ok (.newarray .int, 2) := by decide +kernel
theorem dX12_init_150 : decode cX12_init 150 = .ok (.putfield 55, 3) := by decide +kernel
theorem dX12_init_153 : decode cX12_init 153 = .ok (.aload_n 0, 1) := by decide +kernel
theorem dX12_init_154 : decode cX12_init 154 = .ok (.sipush 360, 3) := by decide +kernel
theorem dX12_init_157 : decode cX12_init 157 = .ok (.newarray .long, 2) := by decide +kernel
theorem dX12_init_159 : decode cX12_init 159 = .ok (.putfield 58, 3) := by decide +kernel
theorem dX12_init_162 : decode cX12_init 162 = .ok (.return_, 1) := by decide +kernel
theorem dX12_in_0 : decode cX12_in 0 = .ok (.lload_n 0, 1) := by decide +kernel
theorem dX12_in_1 : decode cX12_in 1 = .ok (.lload_n 2, 1) := by decide +kernel
theorem dX12_in_2 : decode cX12_in 2 = .ok (.lcmp, 1) := by decide +kernel
theorem dX12_in_3 : decode cX12_in 3 = .ok (.ifCond .lt 14, 3) := by decide +kernel
theorem dX12_in_6 : decode cX12_in 6 = .ok (.lload_n 0, 1) := by decide +kernel
theorem dX12_in_7 : decode cX12_in 7 = .ok (.lload 4, 2) := by decide +kernel
theorem dX12_in_9 : decode cX12_in 9 = .ok (.lcmp, 1) := by decide +kernel
theorem dX12_in_10 : decode cX12_in 10 = .ok (.ifCond .gt 7, 3) := by decide +kernel
theorem dX12_in_13 : decode cX12_in 13 = .ok (.iconst 1, 1) := by decide +kernel
theorem dX12_in_14 : decode cX12_in 14 = .ok (.goto 4, 3) := by decide +kernel
theorem dX12_in_17 : decode cX12_in 17 = .ok (.iconst 0, 1) := by decide +kernel
theorem dX12_in_18 : decode cX12_in 18 = .ok (.ireturn, 1) := by decide +kernel
theorem dX12_copies_0 : decode cX12_copies 0 = .ok (.iconst 0, 1) := by decide +kernel
theorem dX12_copies_1 : decode cX12_copies 1 = .ok (.istore_n 2, 1) := by decide +kernel
theorem dX12_copies_2 : decode cX12_copies 2 = .ok (.iload_n 2, 1) := by decide +kernel
theorem dX12_copies_3 : decode cX12_copies 3 = .ok (.sipush 914, 3) := by decide +kernel
theorem dX12_copies_6 : decode cX12_copies 6 = .ok (.if_icmp .ge 15, 3) := by decide +kernel
theorem dX12_copies_9 : decode cX12_copies 9 = .ok (.aload_n 1, 1) := by decide +kernel
theorem dX12_copies_10 : decode cX12_copies 10 = .ok (.iload_n 2, 1) := by decide +kernel
theorem dX12_copies_11 : decode cX12_copies 11 = .ok (.aload_n 0, 1) := by decide +kernel
theorem dX12_copies_12 : decode cX12_copies 12 = .ok (.iload_n 2, 1) := by decide +kernel
theorem dX12_copies_13 : decode cX12_copies 13 = .ok (.iaload, 1) := by decide +kernel
theorem dX12_copies_14 : decode cX12_copies 14 = .ok (.iastore, 1) := by decide +kernel
theorem dX12_copies_15 : decode cX12_copies 15 = .ok (.iinc 2 1, 3) := by decide +kernel
theorem dX12_copies_18 : decode cX12_copies 18 = .ok (.goto (-16), 3) := by decide +kernel
theorem dX12_copies_21 : decode cX12_copies 21 = .ok (.return_, 1) := by decide +kernel
theorem dX12_isBox_0 : decode cX12_isBox 0 = .ok (.iload_n 1, 1) := by decide +kernel
theorem dX12_isBox_1 : decode cX12_isBox 1 = .ok (.i2l, 1) := by decide +kernel
theorem dX12_isBox_2 : decode cX12_isBox 2 = .ok (.lconst 0, 1) := by decide +kernel
theorem dX12_isBox_3 : decode cX12_isBox 3 = .ok (.aload_n 0, 1) := by decide +kernel
theorem dX12_isBox_4 : decode cX12_isBox 4 = .ok (.getfield 11, 3) := by decide +kernel
theorem dX12_isBox_7 : decode cX12_isBox 7 = .ok (.iconst 0, 1) := by decide +kernel
theorem dX12_isBox_8 : decode cX12_isBox 8 = .ok (.iaload, 1) := by decide +kernel
theorem dX12_isBox_9 : decode cX12_isBox 9 = .ok (.iconst 1, 1) := by decide +kernel
theorem dX12_isBox_10 : decode cX12_isBox 10 = .ok (.isub, 1) := by decide +kernel
theorem dX12_isBox_11 : decode cX12_isBox 11 = .ok (.i2l, 1) := by decide +kernel
theorem dX12_isBox_12 : decode cX12_isBox 12 = .ok (.invokestatic 61, 3) := by decide +kernel
theorem dX12_isBox_15 : decode cX12_isBox 15 = .ok (.ireturn, 1) := by decide +kernel
theorem dX12_from_0 : decode cX12_from 0 = .ok (.aload_n 0, 1) := by decide +kernel
theorem dX12_from_1 : decode cX12_from 1 = .ok (.getfield 11, 3) := by decide +kernel
theorem dX12_from_4 : decode cX12_from 4 = .ok (.bipush 74, 2) := by decide +kernel
theorem dX12_from_6 : decode cX12_from 6 = .ok (.bipush 105, 2) := by decide +kernel
theorem dX12_from_8 : decode cX12_from 8 = .ok (.iload_n 1, 1) := by decide +kernel
theorem dX12_from_9 : decode cX12_from 9 = .ok (.imul, 1) := by decide +kernel
theorem dX12_from_10 : decode cX12_from 10 = .ok (.iadd, 1) := by decide +kernel
theorem dX12_from_11 : decode cX12_from 11 = .ok (.iaload, 1) := by decide +kernel
theorem dX12_from_12 : decode cX12_from 12 = .ok (.ireturn, 1) := by decide +kernel
theorem dX12_to_0 : decode cX12_to 0 = .ok (.aload_n 0, 1) := by decide +kernel
theorem dX12_to_1 : decode cX12_to 1 = .ok (.getfield 11, 3) := by decide +kernel
theorem dX12_to_4 : decode cX12_to 4 = .ok (.bipush 74, 2) := by decide +kernel
theorem dX12_to_6 : decode cX12_to 6 = .ok (.bipush 105, 2) := by decide +kernel
theorem dX12_to_8 : decode cX12_to 8 = .ok (.iload_n 1, 1) := by decide +kernel
theorem dX12_to_9 : decode cX12_to 9 = .ok (.imul, 1) := by decide +kernel
theorem dX12_to_10 : decode cX12_to 10 = .ok (.iadd, 1) := by decide +kernel
theorem dX12_to_11 : decode cX12_to 11 = .ok (.iconst 1, 1) := by decide +kernel
theorem dX12_to_12 : decode cX12_to 12 = .ok (.iadd, 1) := by decide +kernel
theorem dX12_to_13 : decode cX12_to 13 = .ok (.iaload, 1) := by decide +kernel
theorem dX12_to_14 : decode cX12_to 14 = .ok (.ireturn, 1) := by decide +kernel
theorem dX12_puts_0 : decode cX12_puts 0 = .ok (.aload_n 0, 1) := by decide +kernel
theorem dX12_puts_1 : decode cX12_puts 1 = .ok (.getfield 11, 3) := by decide +kernel
theorem dX12_puts_4 : decode cX12_puts 4 = .ok (.bipush 74, 2) := by decide +kernel
theorem dX12_puts_6 : decode cX12_puts 6 = .ok (.bipush 105, 2) := by decide +kernel
theorem dX12_puts_8 : decode cX12_puts 8 = .ok (.iload_n 1, 1) := by decide +kernel
theorem dX12_puts_9 : decode cX12_puts 9 = .ok (.imul, 1) := by decide +kernel
theorem dX12_puts_10 : decode cX12_puts 10 = .ok (.iadd, 1) := by decide +kernel
theorem dX12_puts_11 : decode cX12_puts 11 = .ok (.iconst 2, 1) := by decide +kernel
theorem dX12_puts_12 : decode cX12_puts 12 = .ok (.iadd, 1) := by decide +kernel
theorem dX12_puts_13 : decode cX12_puts 13 = .ok (.iaload, 1) := by decide +kernel
theorem dX12_puts_14 : decode cX12_puts 14 = .ok (.ireturn, 1) := by decide +kernel
theorem dX12_takes_0 : decode cX12_takes 0 = .ok (.aload_n 0, 1) := by decide +kernel
theorem dX12_takes_1 : decode cX12_takes 1 = .ok (.getfield 11, 3) := by decide +kernel
theorem dX12_takes_4 : decode cX12_takes 4 = .ok (.bipush 74, 2) := by decide +kernel
theorem dX12_takes_6 : decode cX12_takes 6 = .ok (.bipush 105, 2) := by decide +kernel
theorem dX12_takes_8 : decode cX12_takes 8 = .ok (.iload_n 1, 1) := by decide +kernel
theorem dX12_takes_9 : decode cX12_takes 9 = .ok (.imul, 1) := by decide +kernel
theorem dX12_takes_10 : decode cX12_takes 10 = .ok (.iadd, 1) := by decide +kernel
theorem dX12_takes_11 : decode cX12_takes 11 = .ok (.iconst 3, 1) := by decide +kernel
theorem dX12_takes_12 : decode cX12_takes 12 = .ok (.iadd, 1) := by decide +kernel
theorem dX12_takes_13 : decode cX12_takes 13 = .ok (.iaload, 1) := by decide +kernel
theorem dX12_takes_14 : decode cX12_takes 14 = .ok (.ireturn, 1) := by decide +kernel
theorem dX12_tokens_0 : decode cX12_tokens 0 = .ok (.aload_n 0, 1) := by decide +kernel
theorem dX12_tokens_1 : decode cX12_tokens 1 = .ok (.getfield 11, 3) := by decide +kernel
theorem dX12_tokens_4 : decode cX12_tokens 4 = .ok (.bipush 74, 2) := by decide +kernel
theorem dX12_tokens_6 : decode cX12_tokens 6 = .ok (.bipush 105, 2) := by decide +kernel
theorem dX12_tokens_8 : decode cX12_tokens 8 = .ok (.iload_n 1, 1) := by decide +kernel
theorem dX12_tokens_9 : decode cX12_tokens 9 = .ok (.imul, 1) := by decide +kernel
theorem dX12_tokens_10 : decode cX12_tokens 10 = .ok (.iadd, 1) := by decide +kernel
theorem dX12_tokens_11 : decode cX12_tokens 11 = .ok (.iconst 5, 1) := by decide +kernel
theorem dX12_tokens_12 : decode cX12_tokens 12 = .ok (.iadd, 1) := by decide +kernel
theorem dX12_tokens_13 : decode cX12_tokens 13 = .ok (.iaload, 1) := by decide +kernel
theorem dX12_tokens_14 : decode cX12_tokens 14 = .ok (.ireturn, 1) := by decide +kernel
theorem dX12_isWire_0 : decode cX12_isWire 0 = .ok (.iload_n 1, 1) := by decide +kernel
theorem dX12_isWire_1 : decode cX12_isWire 1 = .ok (.i2l, 1) := by decide +kernel
theorem dX12_isWire_2 : decode cX12_isWire 2 = .ok (.lconst 0, 1) := by decide +kernel
theorem dX12_isWire_3 : decode cX12_isWire 3 = .ok (.aload_n 0, 1) := by decide +kernel
theorem dX12_isWire_4 : decode cX12_isWire 4 = .ok (.getfield 11, 3) := by decide +kernel
theorem dX12_isWire_7 : decode cX12_isWire 7 = .ok (.iconst 1, 1) := by decide +kernel
theorem dX12_isWire_8 : decode cX12_isWire 8 = .ok (.iaload, 1) := by decide +kernel
theorem dX12_isWire_9 : decode cX12_isWire 9 = .ok (.iconst 1, 1) := by decide +kernel
theorem dX12_isWire_10 : decode cX12_isWire 10 = .ok (.isub, 1) := by decide +kernel
theorem dX12_isWire_11 : decode cX12_isWire 11 = .ok (.i2l, 1) := by decide +kernel
theorem dX12_isWire_12 : decode cX12_isWire 12 = .ok (.invokestatic 61, 3) := by decide +kernel
theorem dX12_isWire_15 : decode cX12_isWire 15 = .ok (.ifCond .eq 24, 3) := by decide +kernel
theorem dX12_isWire_18 : decode cX12_isWire 18 = .ok (.aload_n 0, 1) := by decide +kernel
theorem dX12_isWire_19 : decode cX12_isWire 19 = .ok (.getfield 11, 3) := by decide +kernel
theorem dX12_isWire_22 : decode cX12_isWire 22 = .ok (.bipush 74, 2) := by decide +kernel
theorem dX12_isWire_24 : decode cX12_isWire 24 = .ok (.bipush 105, 2) := by decide +kernel
theorem dX12_isWire_26 : decode cX12_isWire 26 = .ok (.iload_n 1, 1) := by decide +kernel
theorem dX12_isWire_27 : decode cX12_isWire 27 = .ok (.imul, 1) := by decide +kernel
theorem dX12_isWire_28 : decode cX12_isWire 28 = .ok (.iadd, 1) := by decide +kernel
theorem dX12_isWire_29 : decode cX12_isWire 29 = .ok (.iconst 4, 1) := by decide +kernel
theorem dX12_isWire_30 : decode cX12_isWire 30 = .ok (.iadd, 1) := by decide +kernel
theorem dX12_isWire_31 : decode cX12_isWire 31 = .ok (.iaload, 1) := by decide +kernel
theorem dX12_isWire_32 : decode cX12_isWire 32 = .ok (.ifCond .ne 7, 3) := by decide +kernel
theorem dX12_isWire_35 : decode cX12_isWire 35 = .ok (.iconst 1, 1) := by decide +kernel
theorem dX12_isWire_36 : decode cX12_isWire 36 = .ok (.goto 4, 3) := by decide +kernel
theorem dX12_isWire_39 : decode cX12_isWire 39 = .ok (.iconst 0, 1) := by decide +kernel
theorem dX12_isWire_40 : decode cX12_isWire 40 = .ok (.ireturn, 1) := by decide +kernel
theorem dX12_box_0 : decode cX12_box 0 = .ok (.iload_n 1, 1) := by decide +kernel
theorem dX12_box_1 : decode cX12_box 1 = .ok (.i2l, 1) := by decide +kernel
theorem dX12_box_2 : decode cX12_box 2 = .ok (.lconst 0, 1) := by decide +kernel
theorem dX12_box_3 : decode cX12_box 3 = .ok (.ldc2_w 65, 3) := by decide +kernel
theorem dX12_box_6 : decode cX12_box 6 = .ok (.invokestatic 61, 3) := by decide +kernel
theorem dX12_box_9 : decode cX12_box 9 = .ok (.ifCond .ne 5, 3) := by decide +kernel
theorem dX12_box_12 : decode cX12_box 12 = .ok (.iconst (-1), 1) := by decide +kernel
theorem dX12_box_13 : decode cX12_box 13 = .ok (.ireturn, 1) := by decide +kernel
theorem dX12_box_14 : decode cX12_box 14 = .ok (.iload_n 2, 1) := by decide +kernel
theorem dX12_box_15 : decode cX12_box 15 = .ok (.i2l, 1) := by decide +kernel
theorem dX12_box_16 : decode cX12_box 16 = .ok (.lconst 0, 1) := by decide +kernel
theorem dX12_box_17 : decode cX12_box 17 = .ok (.ldc2_w 67, 3) := by decide +kernel
theorem dX12_box_20 : decode cX12_box 20 = .ok (.invokestatic 61, 3) := by decide +kernel
theorem dX12_box_23 : decode cX12_box 23 = .ok (.ifCond .ne 6, 3) := by decide +kernel
theorem dX12_box_26 : decode cX12_box 26 = .ok (.bipush (-2), 2) := by decide +kernel
theorem dX12_box_28 : decode cX12_box 28 = .ok (.ireturn, 1) := by decide +kernel
theorem dX12_box_29 : decode cX12_box 29 = .ok (.aload_n 0, 1) := by decide +kernel
theorem dX12_box_30 : decode cX12_box 30 = .ok (.getfield 11, 3) := by decide +kernel
theorem dX12_box_33 : decode cX12_box 33 = .ok (.iconst 0, 1) := by decide +kernel
theorem dX12_box_34 : decode cX12_box 34 = .ok (.iaload, 1) := by decide +kernel
theorem dX12_box_35 : decode cX12_box 35 = .ok (.istore_n 3, 1) := by decide +kernel
theorem dX12_box_36 : decode cX12_box 36 = .ok (.iload_n 3, 1) := by decide +kernel
theorem dX12_box_37 : decode cX12_box 37 = .ok (.bipush 6, 2) := by decide +kernel
theorem dX12_box_39 : decode cX12_box 39 = .ok (.if_icmp .ne 6, 3) := by decide +kernel
theorem dX12_box_42 : decode cX12_box 42 = .ok (.bipush (-4), 2) := by decide +kernel
theorem dX12_box_44 : decode cX12_box 44 = .ok (.ireturn, 1) := by decide +kernel
theorem dX12_box_45 : decode cX12_box 45 = .ok (.aload_n 0, 1) := by decide +kernel
theorem dX12_box_46 : decode cX12_box 46 = .ok (.getfield 11, 3) := by decide +kernel
theorem dX12_box_49 : decode cX12_box 49 = .ok (.iconst 5, 1) := by decide +kernel
theorem dX12_box_50 : decode cX12_box 50 = .ok (.iconst 3, 1) := by decide +kernel
theorem dX12_box_51 : decode cX12_box 51 = .ok (.iload_n 3, 1) := by decide +kernel
theorem dX12_box_52 : decode cX12_box 52 = .ok (.imul, 1) := by decide +kernel
theorem dX12_box_53 : decode cX12_box 53 = .ok (.iadd, 1) := by decide +kernel
theorem dX12_box_54 : decode cX12_box 54 = .ok (.iload_n 1, 1) := by decide +kernel
theorem dX12_box_55 : decode cX12_box 55 = .ok (.iastore, 1) := by decide +kernel
theorem dX12_box_56 : decode cX12_box 56 = .ok (.aload_n 0, 1) := by decide +kernel
theorem dX12_box_57 : decode cX12_box 57 = .ok (.getfield 11, 3) := by decide +kernel
theorem dX12_box_60 : decode cX12_box 60 = .ok (.iconst 5, 1) := by decide +kernel
theorem dX12_box_61 : decode cX12_box 61 = .ok (.iconst 3, 1) := by decide +kernel
theorem dX12_box_62 : decode cX12_box 62 = .ok (.iload_n 3, 1) := by decide +kernel
theorem dX12_box_63 : decode cX12_box 63 = .ok (.imul, 1) := by decide +kernel
theorem dX12_box_64 : decode cX12_box 64 = .ok (.iadd, 1) := by decide +kernel
theorem dX12_box_65 : decode cX12_box 65 = .ok (.iconst 1, 1) := by decide +kernel
theorem dX12_box_66 : decode cX12_box 66 = .ok (.iadd, 1) := by decide +kernel
theorem dX12_box_67 : decode cX12_box 67 = .ok (.iload_n 2, 1) := by decide +kernel
theorem dX12_box_68 : decode cX12_box 68 = .ok (.iastore, 1) := by decide +kernel
theorem dX12_box_69 : decode cX12_box 69 = .ok (.aload_n 0, 1) := by decide +kernel
theorem dX12_box_70 : decode cX12_box 70 = .ok (.getfield 11, 3) := by decide +kernel
theorem dX12_box_73 : decode cX12_box 73 = .ok (.iconst 5, 1) := by decide +kernel
theorem dX12_box_74 : decode cX12_box 74 = .ok (.iconst 3, 1) := by decide +kernel
theorem dX12_box_75 : decode cX12_box 75 = .ok (.iload_n 3, 1) := by decide +kernel
theorem dX12_box_76 : decode cX12_box 76 = .ok (.imul, 1) := by decide +kernel
theorem dX12_box_77 : decode cX12_box 77 = .ok (.iadd, 1) := by decide +kernel
theorem dX12_box_78 : decode cX12_box 78 = .ok (.iconst 2, 1) := by decide +kernel
theorem dX12_box_79 : decode cX12_box 79 = .ok (.iadd, 1) := by decide +kernel
theorem dX12_box_80 : decode cX12_box 80 = .ok (.iconst 0, 1) := by decide +kernel
theorem dX12_box_81 : decode cX12_box 81 = .ok (.iastore, 1) := by decide +kernel
theorem dX12_box_82 : decode cX12_box 82 = .ok (.aload_n 0, 1) := by decide +kernel
theorem dX12_box_83 : decode cX12_box 83 = .ok (.getfield 11, 3) := by decide +kernel
theorem dX12_box_86 : decode cX12_box 86 = .ok (.iconst 0, 1) := by decide +kernel
theorem dX12_box_87 : decode cX12_box 87 = .ok (.iload_n 3, 1) := by decide +kernel
theorem dX12_box_88 : decode cX12_box 88 = .ok (.iconst 1, 1) := by decide +kernel
theorem dX12_box_89 : decode cX12_box 89 = .ok (.iadd, 1) := by decide +kernel
theorem dX12_box_90 : decode cX12_box 90 = .ok (.iastore, 1) := by decide +kernel
theorem dX12_box_91 : decode cX12_box 91 = .ok (.iload_n 3, 1) := by decide +kernel
theorem dX12_box_92 : decode cX12_box 92 = .ok (.ireturn, 1) := by decide +kernel
theorem dX12_wire_0 : decode cX12_wire 0 = .ok (.aload_n 0, 1) := by decide +kernel
theorem dX12_wire_1 : decode cX12_wire 1 = .ok (.iload_n 1, 1) := by decide +kernel
theorem dX12_wire_2 : decode cX12_wire 2 = .ok (.invokevirtual 69, 3) := by decide +kernel
theorem dX12_wire_5 : decode cX12_wire 5 = .ok (.ifCond .eq 11, 3) := by decide +kernel
theorem dX12_wire_8 : decode cX12_wire 8 = .ok (.aload_n 0, 1) := by decide +kernel
theorem dX12_wire_9 : decode cX12_wire 9 = .ok (.iload_n 2, 1) := by decide +kernel
theorem dX12_wire_10 : decode cX12_wire 10 = .ok (.invokevirtual 69, 3) := by decide +kernel
theorem dX12_wire_13 : decode cX12_wire 13 = .ok (.ifCond .ne 5, 3) := by decide +kernel
theorem dX12_wire_16 : decode cX12_wire 16 = .ok (.iconst (-1), 1) := by decide +kernel
theorem dX12_wire_17 : decode cX12_wire 17 = .ok (.ireturn, 1) := by decide +kernel
theorem dX12_wire_18 : decode cX12_wire 18 = .ok (.iload_n 3, 1) := by decide +kernel
theorem dX12_wire_19 : decode cX12_wire 19 = .ok (.i2l, 1) := by decide +kernel
theorem dX12_wire_20 : decode cX12_wire 20 = .ok (.lconst 1, 1) := by decide +kernel
theorem dX12_wire_21 : decode cX12_wire 21 = .ok (.ldc2_w 65, 3) := by decide +kernel
theorem dX12_wire_24 : decode cX12_wire 24 = .ok (.invokestatic 61, 3) := by decide +kernel
theorem dX12_wire_27 : decode cX12_wire 27 = .ok (.ifCond .eq 16, 3) := by decide +kernel
theorem dX12_wire_30 : decode cX12_wire 30 = .ok (.iload 4, 2) := by decide +kernel
theorem dX12_wire_32 : decode cX12_wire 32 = .ok (.i2l, 1) := by decide +kernel
theorem dX12_wire_33 : decode cX12_wire 33 = .ok (.lconst 1, 1) := by decide +kernel
theorem dX12_wire_34 : decode cX12_wire 34 = .ok (.ldc2_w 65, 3) := by decide +kernel
theorem dX12_wire_37 : decode cX12_wire 37 = .ok (.invokestatic 61, 3) := by decide +kernel
theorem dX12_wire_40 : decode cX12_wire 40 = .ok (.ifCond .ne 6, 3) := by decide +kernel
theorem dX12_wire_43 : decode cX12_wire 43 = .ok (.bipush (-2), 2) := by decide +kernel
theorem dX12_wire_45 : decode cX12_wire 45 = .ok (.ireturn, 1) := by decide +kernel
theorem dX12_wire_46 : decode cX12_wire 46 = .ok (.aload_n 0, 1) := by decide +kernel
theorem dX12_wire_47 : decode cX12_wire 47 = .ok (.getfield 11, 3) := by decide +kernel
theorem dX12_wire_50 : decode cX12_wire 50 = .ok (.iconst 1, 1) := by decide +kernel
theorem dX12_wire_51 : decode cX12_wire 51 = .ok (.iaload, 1) := by decide +kernel
theorem dX12_wire_52 : decode cX12_wire 52 = .ok (.istore 5, 2) := by decide +kernel
theorem dX12_wire_54 : decode cX12_wire 54 = .ok (.iload 5, 2) := by decide +kernel
theorem dX12_wire_56 : decode cX12_wire 56 = .ok (.bipush 8, 2) := by decide +kernel
theorem dX12_wire_58 : decode cX12_wire 58 = .ok (.if_icmp .ne 6, 3) := by decide +kernel
theorem dX12_wire_61 : decode cX12_wire 61 = .ok (.bipush (-4), 2) := by decide +kernel
theorem dX12_wire_63 : decode cX12_wire 63 = .ok (.ireturn, 1) := by decide +kernel
theorem dX12_wire_64 : decode cX12_wire 64 = .ok (.bipush 74, 2) := by decide +kernel
theorem dX12_wire_66 : decode cX12_wire 66 = .ok (.bipush 105, 2) := by decide +kernel
theorem dX12_wire_68 : decode cX12_wire 68 = .ok (.iload 5, 2) := by decide +kernel
theorem dX12_wire_70 : decode cX12_wire 70 = .ok (.imul, 1) := by decide +kernel
theorem dX12_wire_71 : decode cX12_wire 71 = .ok (.iadd, 1) := by decide +kernel
theorem dX12_wire_72 : decode cX12_wire 72 = .ok (.istore 6, 2) := by decide +kernel
theorem dX12_wire_74 : decode cX12_wire 74 = .ok (.aload_n 0, 1) := by decide +kernel
theorem dX12_wire_75 : decode cX12_wire 75 = .ok (.getfield 11, 3) := by decide +kernel
theorem dX12_wire_78 : decode cX12_wire 78 = .ok (.iload 6, 2) := by decide +kernel
theorem dX12_wire_80 : decode cX12_wire 80 = .ok (.iload_n 1, 1) := by decide +kernel
theorem dX12_wire_81 : decode cX12_wire 81 = .ok (.iastore, 1) := by decide +kernel
theorem dX12_wire_82 : decode cX12_wire 82 = .ok (.aload_n 0, 1) := by decide +kernel
theorem dX12_wire_83 : decode cX12_wire 83 = .ok (.getfield 11, 3) := by decide +kernel
theorem dX12_wire_86 : decode cX12_wire 86 = .ok (.iload 6, 2) := by decide +kernel
theorem dX12_wire_88 : decode cX12_wire 88 = .ok (.iconst 1, 1) := by decide +kernel
theorem dX12_wire_89 : decode cX12_wire 89 = .ok (.iadd, 1) := by decide +kernel
theorem dX12_wire_90 : decode cX12_wire 90 = .ok (.iload_n 2, 1) := by decide +kernel
theorem dX12_wire_91 : decode cX12_wire 91 = .ok (.iastore, 1) := by decide +kernel
theorem dX12_wire_92 : decode cX12_wire 92 = .ok (.aload_n 0, 1) := by decide +kernel
theorem dX12_wire_93 : decode cX12_wire 93 = .ok (.getfield 11, 3) := by decide +kernel
theorem dX12_wire_96 : decode cX12_wire 96 = .ok (.iload 6, 2) := by decide +kernel
theorem dX12_wire_98 : decode cX12_wire 98 = .ok (.iconst 2, 1) := by decide +kernel
theorem dX12_wire_99 : decode cX12_wire 99 = .ok (.iadd, 1) := by decide +kernel
theorem dX12_wire_100 : decode cX12_wire 100 = .ok (.iload_n 3, 1) := by decide +kernel
theorem dX12_wire_101 : decode cX12_wire 101 = .ok (.iastore, 1) := by decide +kernel
theorem dX12_wire_102 : decode cX12_wire 102 = .ok (.aload_n 0, 1) := by decide +kernel
theorem dX12_wire_103 : decode cX12_wire 103 = .ok (.getfield 11, 3) := by decide +kernel
theorem dX12_wire_106 : decode cX12_wire 106 = .ok (.iload 6, 2) := by decide +kernel
theorem dX12_wire_108 : decode cX12_wire 108 = .ok (.iconst 3, 1) := by decide +kernel
theorem dX12_wire_109 : decode cX12_wire 109 = .ok (.iadd, 1) := by decide +kernel
theorem dX12_wire_110 : decode cX12_wire 110 = .ok (.iload 4, 2) := by decide +kernel
theorem dX12_wire_112 : decode cX12_wire 112 = .ok (.iastore, 1) := by decide +kernel
theorem dX12_wire_113 : decode cX12_wire 113 = .ok (.aload_n 0, 1) := by decide +kernel
theorem dX12_wire_114 : decode cX12_wire 114 = .ok (.getfield 11, 3) := by decide +kernel
theorem dX12_wire_117 : decode cX12_wire 117 = .ok (.iload 6, 2) := by decide +kernel
theorem dX12_wire_119 : decode cX12_wire 119 = .ok (.iconst 4, 1) := by decide +kernel
theorem dX12_wire_120 : decode cX12_wire 120 = .ok (.iadd, 1) := by decide +kernel
theorem dX12_wire_121 : decode cX12_wire 121 = .ok (.iconst 0, 1) := by decide +kernel
theorem dX12_wire_122 : decode cX12_wire 122 = .ok (.iastore, 1) := by decide +kernel
theorem dX12_wire_123 : decode cX12_wire 123 = .ok (.aload_n 0, 1) := by decide +kernel
theorem dX12_wire_124 : decode cX12_wire 124 = .ok (.getfield 11, 3) := by decide +kernel
theorem dX12_wire_127 : decode cX12_wire 127 = .ok (.iload 6, 2) := by decide +kernel
theorem dX12_wire_129 : decode cX12_wire 129 = .ok (.iconst 5, 1) := by decide +kernel
theorem dX12_wire_130 : decode cX12_wire 130 = .ok (.iadd, 1) := by decide +kernel
theorem dX12_wire_131 : decode cX12_wire 131 = .ok (.iconst 0, 1) := by decide +kernel
theorem dX12_wire_132 : decode cX12_wire 132 = .ok (.iastore, 1) := by decide +kernel
theorem dX12_wire_133 : decode cX12_wire 133 = .ok (.aload_n 0, 1) := by decide +kernel
theorem dX12_wire_134 : decode cX12_wire 134 = .ok (.getfield 11, 3) := by decide +kernel
theorem dX12_wire_137 : decode cX12_wire 137 = .ok (.iconst 1, 1) := by decide +kernel
theorem dX12_wire_138 : decode cX12_wire 138 = .ok (.iload 5, 2) := by decide +kernel
theorem dX12_wire_140 : decode cX12_wire 140 = .ok (.iconst 1, 1) := by decide +kernel
theorem dX12_wire_141 : decode cX12_wire 141 = .ok (.iadd, 1) := by decide +kernel
theorem dX12_wire_142 : decode cX12_wire 142 = .ok (.iastore, 1) := by decide +kernel
theorem dX12_wire_143 : decode cX12_wire 143 = .ok (.iload 5, 2) := by decide +kernel
theorem dX12_wire_145 : decode cX12_wire 145 = .ok (.ireturn, 1) := by decide +kernel
theorem dX12_comes_0 : decode cX12_comes 0 = .ok (.bipush 74, 2) := by decide +kernel
theorem dX12_comes_2 : decode cX12_comes 2 = .ok (.bipush 105, 2) := by decide +kernel
theorem dX12_comes_4 : decode cX12_comes 4 = .ok (.iload_n 1, 1) := by decide +kernel
theorem dX12_comes_5 : decode cX12_comes 5 = .ok (.imul, 1) := by decide +kernel
theorem dX12_comes_6 : decode cX12_comes 6 = .ok (.iadd, 1) := by decide +kernel
theorem dX12_comes_7 : decode cX12_comes 7 = .ok (.istore_n 3, 1) := by decide +kernel
theorem dX12_comes_8 : decode cX12_comes 8 = .ok (.aload_n 0, 1) := by decide +kernel
theorem dX12_comes_9 : decode cX12_comes 9 = .ok (.getfield 11, 3) := by decide +kernel
theorem dX12_comes_12 : decode cX12_comes 12 = .ok (.iload_n 3, 1) := by decide +kernel
theorem dX12_comes_13 : decode cX12_comes 13 = .ok (.bipush 6, 2) := by decide +kernel
theorem dX12_comes_15 : decode cX12_comes 15 = .ok (.iadd, 1) := by decide +kernel
theorem dX12_comes_16 : decode cX12_comes 16 = .ok (.aload_n 0, 1) := by decide +kernel
theorem dX12_comes_17 : decode cX12_comes 17 = .ok (.getfield 11, 3) := by decide +kernel
theorem dX12_comes_20 : decode cX12_comes 20 = .ok (.iload_n 3, 1) := by decide +kernel
theorem dX12_comes_21 : decode cX12_comes 21 = .ok (.iconst 5, 1) := by decide +kernel
theorem dX12_comes_22 : decode cX12_comes 22 = .ok (.iadd, 1) := by decide +kernel
theorem dX12_comes_23 : decode cX12_comes 23 = .ok (.iaload, 1) := by decide +kernel
theorem dX12_comes_24 : decode cX12_comes 24 = .ok (.iadd, 1) := by decide +kernel
theorem dX12_comes_25 : decode cX12_comes 25 = .ok (.iload_n 2, 1) := by decide +kernel
theorem dX12_comes_26 : decode cX12_comes 26 = .ok (.iastore, 1) := by decide +kernel
theorem dX12_comes_27 : decode cX12_comes 27 = .ok (.aload_n 0, 1) := by decide +kernel
theorem dX12_comes_28 : decode cX12_comes 28 = .ok (.getfield 11, 3) := by decide +kernel
theorem dX12_comes_31 : decode cX12_comes 31 = .ok (.iload_n 3, 1) := by decide +kernel
theorem dX12_comes_32 : decode cX12_comes 32 = .ok (.iconst 5, 1) := by decide +kernel
theorem dX12_comes_33 : decode cX12_comes 33 = .ok (.iadd, 1) := by decide +kernel
theorem dX12_comes_34 : decode cX12_comes 34 = .ok (.dup2, 1) := by decide +kernel
theorem dX12_comes_35 : decode cX12_comes 35 = .ok (.iaload, 1) := by decide +kernel
theorem dX12_comes_36 : decode cX12_comes 36 = .ok (.iconst 1, 1) := by decide +kernel
theorem dX12_comes_37 : decode cX12_comes 37 = .ok (.iadd, 1) := by decide +kernel
theorem dX12_comes_38 : decode cX12_comes 38 = .ok (.iastore, 1) := by decide +kernel
theorem dX12_comes_39 : decode cX12_comes 39 = .ok (.return_, 1) := by decide +kernel
theorem dX12_token_0 : decode cX12_token 0 = .ok (.aload_n 0, 1) := by decide +kernel
theorem dX12_token_1 : decode cX12_token 1 = .ok (.iload_n 1, 1) := by decide +kernel
theorem dX12_token_2 : decode cX12_token 2 = .ok (.invokevirtual 73, 3) := by decide +kernel
theorem dX12_token_5 : decode cX12_token 5 = .ok (.ifCond .ne 5, 3) := by decide +kernel
theorem dX12_token_8 : decode cX12_token 8 = .ok (.iconst (-1), 1) := by decide +kernel
theorem dX12_token_9 : decode cX12_token 9 = .ok (.ireturn, 1) := by decide +kernel
theorem dX12_token_10 : decode cX12_token 10 = .ok (.aload_n 0, 1) := by decide +kernel
theorem dX12_token_11 : decode cX12_token 11 = .ok (.iload_n 1, 1) := by decide +kernel
theorem dX12_token_12 : decode cX12_token 12 = .ok (.invokevirtual 76, 3) := by decide +kernel
theorem dX12_token_15 : decode cX12_token 15 = .ok (.bipush 99, 2) := by decide +kernel
theorem dX12_token_17 : decode cX12_token 17 = .ok (.if_icmp .ne 6, 3) := by decide +kernel
theorem dX12_token_20 : decode cX12_token 20 = .ok (.bipush (-4), 2) := by decide +kernel
theorem dX12_token_22 : decode cX12_token 22 = .ok (.ireturn, 1) := by decide +kernel
theorem dX12_token_23 : decode cX12_token 23 = .ok (.aload_n 0, 1) := by decide +kernel
theorem dX12_token_24 : decode cX12_token 24 = .ok (.iload_n 1, 1) := by decide +kernel
theorem dX12_token_25 : decode cX12_token 25 = .ok (.iload_n 2, 1) := by decide +kernel
theorem dX12_token_26 : decode cX12_token 26 = .ok (.invokevirtual 80, 3) := by decide +kernel
theorem dX12_token_29 : decode cX12_token 29 = .ok (.aload_n 0, 1) := by decide +kernel
theorem dX12_token_30 : decode cX12_token 30 = .ok (.iload_n 1, 1) := by decide +kernel
theorem dX12_token_31 : decode cX12_token 31 = .ok (.invokevirtual 76, 3) := by decide +kernel
theorem dX12_token_34 : decode cX12_token 34 = .ok (.ireturn, 1) := by decide +kernel
theorem dX12_cut_0 : decode cX12_cut 0 = .ok (.aload_n 0, 1) := by decide +kernel
theorem dX12_cut_1 : decode cX12_cut 1 = .ok (.iload_n 1, 1) := by decide +kernel
theorem dX12_cut_2 : decode cX12_cut 2 = .ok (.invokevirtual 73, 3) := by decide +kernel
theorem dX12_cut_5 : decode cX12_cut 5 = .ok (.ifCond .ne 5, 3) := by decide +kernel
theorem dX12_cut_8 : decode cX12_cut 8 = .ok (.iconst (-1), 1) := by decide +kernel
theorem dX12_cut_9 : decode cX12_cut 9 = .ok (.ireturn, 1) := by decide +kernel
theorem dX12_cut_10 : decode cX12_cut 10 = .ok (.aload_n 0, 1) := by decide +kernel
theorem dX12_cut_11 : decode cX12_cut 11 = .ok (.iload_n 1, 1) := by decide +kernel
theorem dX12_cut_12 : decode cX12_cut 12 = .ok (.invokevirtual 76, 3) := by decide +kernel
theorem dX12_cut_15 : decode cX12_cut 15 = .ok (.istore_n 2, 1) := by decide +kernel
theorem dX12_cut_16 : decode cX12_cut 16 = .ok (.aload_n 0, 1) := by decide +kernel
theorem dX12_cut_17 : decode cX12_cut 17 = .ok (.getfield 11, 3) := by decide +kernel
theorem dX12_cut_20 : decode cX12_cut 20 = .ok (.bipush 74, 2) := by decide +kernel
theorem dX12_cut_22 : decode cX12_cut 22 = .ok (.bipush 105, 2) := by decide +kernel
theorem dX12_cut_24 : decode cX12_cut 24 = .ok (.iload_n 1, 1) := by decide +kernel
theorem dX12_cut_25 : decode cX12_cut 25 = .ok (.imul, 1) := by decide +kernel
theorem dX12_cut_26 : decode cX12_cut 26 = .ok (.iadd, 1) := by decide +kernel
theorem dX12_cut_27 : decode cX12_cut 27 = .ok (.iconst 4, 1) := by decide +kernel
theorem dX12_cut_28 : decode cX12_cut 28 = .ok (.iadd, 1) := by decide +kernel
theorem dX12_cut_29 : decode cX12_cut 29 = .ok (.iconst 1, 1) := by decide +kernel
theorem dX12_cut_30 : decode cX12_cut 30 = .ok (.iastore, 1) := by decide +kernel
theorem dX12_cut_31 : decode cX12_cut 31 = .ok (.aload_n 0, 1) := by decide +kernel
theorem dX12_cut_32 : decode cX12_cut 32 = .ok (.getfield 11, 3) := by decide +kernel
theorem dX12_cut_35 : decode cX12_cut 35 = .ok (.bipush 74, 2) := by decide +kernel
theorem dX12_cut_37 : decode cX12_cut 37 = .ok (.bipush 105, 2) := by decide +kernel
theorem dX12_cut_39 : decode cX12_cut 39 = .ok (.iload_n 1, 1) := by decide +kernel
theorem dX12_cut_40 : decode cX12_cut 40 = .ok (.imul, 1) := by decide +kernel
theorem dX12_cut_41 : decode cX12_cut 41 = .ok (.iadd, 1) := by decide +kernel
theorem dX12_cut_42 : decode cX12_cut 42 = .ok (.iconst 5, 1) := by decide +kernel
theorem dX12_cut_43 : decode cX12_cut 43 = .ok (.iadd, 1) := by decide +kernel
theorem dX12_cut_44 : decode cX12_cut 44 = .ok (.iconst 0, 1) := by decide +kernel
theorem dX12_cut_45 : decode cX12_cut 45 = .ok (.iastore, 1) := by decide +kernel
theorem dX12_cut_46 : decode cX12_cut 46 = .ok (.iload_n 2, 1) := by decide +kernel
theorem dX12_cut_47 : decode cX12_cut 47 = .ok (.ireturn, 1) := by decide +kernel
theorem dX12_feed_0 : decode cX12_feed 0 = .ok (.iload_n 1, 1) := by decide +kernel
theorem dX12_feed_1 : decode cX12_feed 1 = .ok (.i2l, 1) := by decide +kernel
theorem dX12_feed_2 : decode cX12_feed 2 = .ok (.lconst 0, 1) := by decide +kernel
theorem dX12_feed_3 : decode cX12_feed 3 = .ok (.ldc2_w 84, 3) := by decide +kernel
theorem dX12_feed_6 : decode cX12_feed 6 = .ok (.invokestatic 61, 3) := by decide +kernel
theorem dX12_feed_9 : decode cX12_feed 9 = .ok (.ifCond .ne 6, 3) := by decide +kernel
theorem dX12_feed_12 : decode cX12_feed 12 = .ok (.bipush (-2), 2) := by decide +kernel
theorem dX12_feed_14 : decode cX12_feed 14 = .ok (.ireturn, 1) := by decide +kernel
theorem dX12_feed_15 : decode cX12_feed 15 = .ok (.aload_n 0, 1) := by decide +kernel
theorem dX12_feed_16 : decode cX12_feed 16 = .ok (.getfield 86, 3) := by decide +kernel
theorem dX12_feed_19 : decode cX12_feed 19 = .ok (.bipush 100, 2) := by decide +kernel
theorem dX12_feed_21 : decode cX12_feed 21 = .ok (.if_icmp .ne 6, 3) := by decide +kernel
theorem dX12_feed_24 : decode cX12_feed 24 = .ok (.bipush (-4), 2) := by decide +kernel
theorem dX12_feed_26 : decode cX12_feed 26 = .ok (.ireturn, 1) := by decide +kernel
theorem dX12_feed_27 : decode cX12_feed 27 = .ok (.aload_n 0, 1) := by decide +kernel
theorem dX12_feed_28 : decode cX12_feed 28 = .ok (.getfield 21, 3) := by decide +kernel
theorem dX12_feed_31 : decode cX12_feed 31 = .ok (.aload_n 0, 1) := by decide +kernel
theorem dX12_feed_32 : decode cX12_feed 32 = .ok (.getfield 86, 3) := by decide +kernel
theorem dX12_feed_35 : decode cX12_feed 35 = .ok (.iload_n 1, 1) := by decide +kernel
theorem dX12_feed_36 : decode cX12_feed 36 = .ok (.iastore, 1) := by decide +kernel
theorem dX12_feed_37 : decode cX12_feed 37 = .ok (.aload_n 0, 1) := by decide +kernel
theorem dX12_feed_38 : decode cX12_feed 38 = .ok (.dup, 1) := by decide +kernel
theorem dX12_feed_39 : decode cX12_feed 39 = .ok (.getfield 86, 3) := by decide +kernel
theorem dX12_feed_42 : decode cX12_feed 42 = .ok (.iconst 1, 1) := by decide +kernel
theorem dX12_feed_43 : decode cX12_feed 43 = .ok (.iadd, 1) := by decide +kernel
theorem dX12_feed_44 : decode cX12_feed 44 = .ok (.putfield 86, 3) := by decide +kernel
theorem dX12_feed_47 : decode cX12_feed 47 = .ok (.aload_n 0, 1) := by decide +kernel
theorem dX12_feed_48 : decode cX12_feed 48 = .ok (.getfield 86, 3) := by decide +kernel
theorem dX12_feed_51 : decode cX12_feed 51 = .ok (.ireturn, 1) := by decide +kernel
theorem dX12_byteAt_0 : decode cX12_byteAt 0 = .ok (.iload_n 1, 1) := by decide +kernel
theorem dX12_byteAt_1 : decode cX12_byteAt 1 = .ok (.aload_n 0, 1) := by decide +kernel
theorem dX12_byteAt_2 : decode cX12_byteAt 2 = .ok (.getfield 86, 3) := by decide +kernel
theorem dX12_byteAt_5 : decode cX12_byteAt 5 = .ok (.if_icmp .ge 12, 3) := by decide +kernel
theorem dX12_byteAt_8 : decode cX12_byteAt 8 = .ok (.aload_n 0, 1) := by decide +kernel
theorem dX12_byteAt_9 : decode cX12_byteAt 9 = .ok (.getfield 21, 3) := by decide +kernel
theorem dX12_byteAt_12 : decode cX12_byteAt 12 = .ok (.iload_n 1, 1) := by decide +kernel
theorem dX12_byteAt_13 : decode cX12_byteAt 13 = .ok (.iaload, 1) := by decide +kernel
theorem dX12_byteAt_14 : decode cX12_byteAt 14 = .ok (.goto 4, 3) := by decide +kernel
theorem dX12_byteAt_17 : decode cX12_byteAt 17 = .ok (.iconst (-1), 1) := by decide +kernel
theorem dX12_byteAt_18 : decode cX12_byteAt 18 = .ok (.ireturn, 1) := by decide +kernel
theorem dX12_digit_0 : decode cX12_digit 0 = .ok (.aload_n 0, 1) := by decide +kernel
theorem dX12_digit_1 : decode cX12_digit 1 = .ok (.aload_n 0, 1) := by decide +kernel
theorem dX12_digit_2 : decode cX12_digit 2 = .ok (.getfield 90, 3) := by decide +kernel
theorem dX12_digit_5 : decode cX12_digit 5 = .ok (.invokevirtual 93, 3) := by decide +kernel
theorem dX12_digit_8 : decode cX12_digit 8 = .ok (.istore 4, 2) := by decide +kernel
theorem dX12_digit_10 : decode cX12_digit 10 = .ok (.iload 4, 2) := by decide +kernel
theorem dX12_digit_12 : decode cX12_digit 12 = .ok (.i2l, 1) := by decide +kernel
theorem dX12_digit_13 : decode cX12_digit 13 = .ok (.bipush 48, 2) := by decide +kernel
theorem dX12_digit_15 : decode cX12_digit 15 = .ok (.iload_n 2, 1) := by decide +kernel
theorem dX12_digit_16 : decode cX12_digit 16 = .ok (.iadd, 1) := by decide +kernel
theorem dX12_digit_17 : decode cX12_digit 17 = .ok (.i2l, 1) := by decide +kernel
theorem dX12_digit_18 : decode cX12_digit 18 = .ok (.bipush 48, 2) := by decide +kernel
theorem dX12_digit_20 : decode cX12_digit 20 = .ok (.iload_n 3, 1) := by decide +kernel
theorem dX12_digit_21 : decode cX12_digit 21 = .ok (.iadd, 1) := by decide +kernel
theorem dX12_digit_22 : decode cX12_digit 22 = .ok (.i2l, 1) := by decide +kernel
theorem dX12_digit_23 : decode cX12_digit 23 = .ok (.invokestatic 61, 3) := by decide +kernel
theorem dX12_digit_26 : decode cX12_digit 26 = .ok (.ifCond .ne 5, 3) := by decide +kernel
theorem dX12_digit_29 : decode cX12_digit 29 = .ok (.iconst 0, 1) := by decide +kernel
theorem dX12_digit_30 : decode cX12_digit 30 = .ok (.ireturn, 1) := by decide +kernel
theorem dX12_digit_31 : decode cX12_digit 31 = .ok (.aload_n 0, 1) := by decide +kernel
theorem dX12_digit_32 : decode cX12_digit 32 = .ok (.getfield 24, 3) := by decide +kernel
theorem dX12_digit_35 : decode cX12_digit 35 = .ok (.iload_n 1, 1) := by decide +kernel
theorem dX12_digit_36 : decode cX12_digit 36 = .ok (.iload 4, 2) := by decide +kernel
theorem dX12_digit_38 : decode cX12_digit 38 = .ok (.bipush 48, 2) := by decide +kernel
theorem dX12_digit_40 : decode cX12_digit 40 = .ok (.isub, 1) := by decide +kernel
theorem dX12_digit_41 : decode cX12_digit 41 = .ok (.iastore, 1) := by decide +kernel
theorem dX12_digit_42 : decode cX12_digit 42 = .ok (.aload_n 0, 1) := by decide +kernel
theorem dX12_digit_43 : decode cX12_digit 43 = .ok (.dup, 1) := by decide +kernel
theorem dX12_digit_44 : decode cX12_digit 44 = .ok (.getfield 90, 3) := by decide +kernel
theorem dX12_digit_47 : decode cX12_digit 47 = .ok (.iconst 1, 1) := by decide +kernel
theorem dX12_digit_48 : decode cX12_digit 48 = .ok (.iadd, 1) := by decide +kernel
theorem dX12_digit_49 : decode cX12_digit 49 = .ok (.putfield 90, 3) := by decide +kernel
theorem dX12_digit_52 : decode cX12_digit 52 = .ok (.iconst 1, 1) := by decide +kernel
theorem dX12_digit_53 : decode cX12_digit 53 = .ok (.ireturn, 1) := by decide +kernel
theorem dX12_sign_0 : decode cX12_sign 0 = .ok (.aload_n 0, 1) := by decide +kernel
theorem dX12_sign_1 : decode cX12_sign 1 = .ok (.aload_n 0, 1) := by decide +kernel
theorem dX12_sign_2 : decode cX12_sign 2 = .ok (.getfield 90, 3) := by decide +kernel
theorem dX12_sign_5 : decode cX12_sign 5 = .ok (.invokevirtual 93, 3) := by decide +kernel
theorem dX12_sign_8 : decode cX12_sign 8 = .ok (.iload_n 1, 1) := by decide +kernel
theorem dX12_sign_9 : decode cX12_sign 9 = .ok (.if_icmp .eq 5, 3) := by decide +kernel
theorem dX12_sign_12 : decode cX12_sign 12 = .ok (.iconst 0, 1) := by decide +kernel
theorem dX12_sign_13 : decode cX12_sign 13 = .ok (.ireturn, 1) := by decide +kernel
theorem dX12_sign_14 : decode cX12_sign 14 = .ok (.aload_n 0, 1) := by decide +kernel
theorem dX12_sign_15 : decode cX12_sign 15 = .ok (.dup, 1) := by decide +kernel
theorem dX12_sign_16 : decode cX12_sign 16 = .ok (.getfield 90, 3) := by decide +kernel
theorem dX12_sign_19 : decode cX12_sign 19 = .ok (.iconst 1, 1) := by decide +kernel
theorem dX12_sign_20 : decode cX12_sign 20 = .ok (.iadd, 1) := by decide +kernel
theorem dX12_sign_21 : decode cX12_sign 21 = .ok (.putfield 90, 3) := by decide +kernel
theorem dX12_sign_24 : decode cX12_sign 24 = .ok (.iconst 1, 1) := by decide +kernel
theorem dX12_sign_25 : decode cX12_sign 25 = .ok (.ireturn, 1) := by decide +kernel
theorem dX12_number_0 : decode cX12_number 0 = .ok (.iconst 0, 1) := by decide +kernel
theorem dX12_number_1 : decode cX12_number 1 = .ok (.istore_n 2, 1) := by decide +kernel
theorem dX12_number_2 : decode cX12_number 2 = .ok (.iconst 0, 1) := by decide +kernel
theorem dX12_number_3 : decode cX12_number 3 = .ok (.istore_n 3, 1) := by decide +kernel
theorem dX12_number_4 : decode cX12_number 4 = .ok (.iload_n 2, 1) := by decide +kernel
theorem dX12_number_5 : decode cX12_number 5 = .ok (.iconst 3, 1) := by decide +kernel
theorem dX12_number_6 : decode cX12_number 6 = .ok (.if_icmp .ge 57, 3) := by decide +kernel
theorem dX12_number_9 : decode cX12_number 9 = .ok (.aload_n 0, 1) := by decide +kernel
theorem dX12_number_10 : decode cX12_number 10 = .ok (.aload_n 0, 1) := by decide +kernel
theorem dX12_number_11 : decode cX12_number 11 = .ok (.getfield 90, 3) := by decide +kernel
theorem dX12_number_14 : decode cX12_number 14 = .ok (.invokevirtual 93, 3) := by decide +kernel
theorem dX12_number_17 : decode cX12_number 17 = .ok (.i2l, 1) := by decide +kernel
theorem dX12_number_18 : decode cX12_number 18 = .ok (.ldc2_w 96, 3) := by decide +kernel
theorem dX12_number_21 : decode cX12_number 21 = .ok (.ldc2_w 98, 3) := by decide +kernel
theorem dX12_number_24 : decode cX12_number 24 = .ok (.invokestatic 61, 3) := by decide +kernel
theorem dX12_number_27 : decode cX12_number 27 = .ok (.ifCond .eq 36, 3) := by decide +kernel
theorem dX12_number_30 : decode cX12_number 30 = .ok (.bipush 10, 2) := by decide +kernel
theorem dX12_number_32 : decode cX12_number 32 = .ok (.iload_n 3, 1) := by decide +kernel
theorem dX12_number_33 : decode cX12_number 33 = .ok (.imul, 1) := by decide +kernel
theorem dX12_number_34 : decode cX12_number 34 = .ok (.aload_n 0, 1) := by decide +kernel
theorem dX12_number_35 : decode cX12_number 35 = .ok (.aload_n 0, 1) := by decide +kernel
theorem dX12_number_36 : decode cX12_number 36 = .ok (.getfield 90, 3) := by decide +kernel
theorem dX12_number_39 : decode cX12_number 39 = .ok (.invokevirtual 93, 3) := by decide +kernel
theorem dX12_number_42 : decode cX12_number 42 = .ok (.iadd, 1) := by decide +kernel
theorem dX12_number_43 : decode cX12_number 43 = .ok (.bipush 48, 2) := by decide +kernel
theorem dX12_number_45 : decode cX12_number 45 = .ok (.isub, 1) := by decide +kernel
theorem dX12_number_46 : decode cX12_number 46 = .ok (.istore_n 3, 1) := by decide +kernel
theorem dX12_number_47 : decode cX12_number 47 = .ok (.aload_n 0, 1) := by decide +kernel
theorem dX12_number_48 : decode cX12_number 48 = .ok (.dup, 1) := by decide +kernel
theorem dX12_number_49 : decode cX12_number 49 = .ok (.getfield 90, 3) := by decide +kernel
theorem dX12_number_52 : decode cX12_number 52 = .ok (.iconst 1, 1) := by decide +kernel
theorem dX12_number_53 : decode cX12_number 53 = .ok (.iadd, 1) := by decide +kernel
theorem dX12_number_54 : decode cX12_number 54 = .ok (.putfield 90, 3) := by decide +kernel
theorem dX12_number_57 : decode cX12_number 57 = .ok (.iinc 2 1, 3) := by decide +kernel
theorem dX12_number_60 : decode cX12_number 60 = .ok (.goto (-56), 3) := by decide +kernel
theorem dX12_number_63 : decode cX12_number 63 = .ok (.aload_n 0, 1) := by decide +kernel
theorem dX12_number_64 : decode cX12_number 64 = .ok (.getfield 24, 3) := by decide +kernel
theorem dX12_number_67 : decode cX12_number 67 = .ok (.iload_n 1, 1) := by decide +kernel
theorem dX12_number_68 : decode cX12_number 68 = .ok (.iload_n 3, 1) := by decide +kernel
theorem dX12_number_69 : decode cX12_number 69 = .ok (.iastore, 1) := by decide +kernel
theorem dX12_number_70 : decode cX12_number 70 = .ok (.iload_n 2, 1) := by decide +kernel
theorem dX12_number_71 : decode cX12_number 71 = .ok (.ifCond .le 7, 3) := by decide +kernel
theorem dX12_number_74 : decode cX12_number 74 = .ok (.iconst 1, 1) := by decide +kernel
theorem dX12_number_75 : decode cX12_number 75 = .ok (.goto 4, 3) := by decide +kernel
theorem dX12_number_78 : decode cX12_number 78 = .ok (.iconst 0, 1) := by decide +kernel
theorem dX12_number_79 : decode cX12_number 79 = .ok (.ireturn, 1) := by decide +kernel
theorem dX12_isClause_0 : decode cX12_isClause 0 = .ok (.bipush 11, 2) := by decide +kernel
theorem dX12_isClause_2 : decode cX12_isClause 2 = .ok (.aload_n 0, 1) := by decide +kernel
theorem dX12_isClause_3 : decode cX12_isClause 3 = .ok (.getfield 100, 3) := by decide +kernel
theorem dX12_isClause_6 : decode cX12_isClause 6 = .ok (.imul, 1) := by decide +kernel
theorem dX12_isClause_7 : decode cX12_isClause 7 = .ok (.istore_n 1, 1) := by decide +kernel
theorem dX12_isClause_8 : decode cX12_isClause 8 = .ok (.aload_n 0, 1) := by decide +kernel
theorem dX12_isClause_9 : decode cX12_isClause 9 = .ok (.getfield 24, 3) := by decide +kernel
theorem dX12_isClause_12 : decode cX12_isClause 12 = .ok (.iload_n 1, 1) := by decide +kernel
theorem dX12_isClause_13 : decode cX12_isClause 13 = .ok (.iconst 4, 1) := by decide +kernel
theorem dX12_isClause_14 : decode cX12_isClause 14 = .ok (.iadd, 1) := by decide +kernel
theorem dX12_isClause_15 : decode cX12_isClause 15 = .ok (.iconst 0, 1) := by decide +kernel
theorem dX12_isClause_16 : decode cX12_isClause 16 = .ok (.iastore, 1) := by decide +kernel
theorem dX12_isClause_17 : decode cX12_isClause 17 = .ok (.aload_n 0, 1) := by decide +kernel
theorem dX12_isClause_18 : decode cX12_isClause 18 = .ok (.iload_n 1, 1) := by decide +kernel
theorem dX12_isClause_19 : decode cX12_isClause 19 = .ok (.iconst 0, 1) := by decide +kernel
theorem dX12_isClause_20 : decode cX12_isClause 20 = .ok (.bipush 9, 2) := by decide +kernel
theorem dX12_isClause_22 : decode cX12_isClause 22 = .ok (.invokevirtual 103, 3) := by decide +kernel
theorem dX12_isClause_25 : decode cX12_isClause 25 = .ok (.ifCond .eq 71, 3) := by decide +kernel
theorem dX12_isClause_28 : decode cX12_isClause 28 = .ok (.aload_n 0, 1) := by decide +kernel
theorem dX12_isClause_29 : decode cX12_isClause 29 = .ok (.bipush 58, 2) := by decide +kernel
theorem dX12_isClause_31 : decode cX12_isClause 31 = .ok (.invokevirtual 107, 3) := by decide +kernel
theorem dX12_isClause_34 : decode cX12_isClause 34 = .ok (.ifCond .eq 62, 3) := by decide +kernel
theorem dX12_isClause_37 : decode cX12_isClause 37 = .ok (.aload_n 0, 1) := by decide +kernel
theorem dX12_isClause_38 : decode cX12_isClause 38 = .ok (.iload_n 1, 1) := by decide +kernel
theorem dX12_isClause_39 : decode cX12_isClause 39 = .ok (.iconst 2, 1) := by decide +kernel
theorem dX12_isClause_40 : decode cX12_isClause 40 = .ok (.iadd, 1) := by decide +kernel
theorem dX12_isClause_41 : decode cX12_isClause 41 = .ok (.iconst 1, 1) := by decide +kernel
theorem dX12_isClause_42 : decode cX12_isClause 42 = .ok (.iconst 4, 1) := by decide +kernel
theorem dX12_isClause_43 : decode cX12_isClause 43 = .ok (.invokevirtual 103, 3) := by decide +kernel
theorem dX12_isClause_46 : decode cX12_isClause 46 = .ok (.ifCond .eq 50, 3) := by decide +kernel
theorem dX12_isClause_49 : decode cX12_isClause 49 = .ok (.aload_n 0, 1) := by decide +kernel
theorem dX12_isClause_50 : decode cX12_isClause 50 = .ok (.bipush 62, 2) := by decide +kernel
theorem dX12_isClause_52 : decode cX12_isClause 52 = .ok (.invokevirtual 107, 3) := by decide +kernel
theorem dX12_isClause_55 : decode cX12_isClause 55 = .ok (.ifCond .eq 41, 3) := by decide +kernel
theorem dX12_isClause_58 : decode cX12_isClause 58 = .ok (.aload_n 0, 1) := by decide +kernel
theorem dX12_isClause_59 : decode cX12_isClause 59 = .ok (.iload_n 1, 1) := by decide +kernel
theorem dX12_isClause_60 : decode cX12_isClause 60 = .ok (.iconst 1, 1) := by decide +kernel
theorem dX12_isClause_61 : decode cX12_isClause 61 = .ok (.iadd, 1) := by decide +kernel
theorem dX12_isClause_62 : decode cX12_isClause 62 = .ok (.iconst 0, 1) := by decide +kernel
theorem dX12_isClause_63 : decode cX12_isClause 63 = .ok (.bipush 9, 2) := by decide +kernel
theorem dX12_isClause_65 : decode cX12_isClause 65 = .ok (.invokevirtual 103, 3) := by decide +kernel
theorem dX12_isClause_68 : decode cX12_isClause 68 = .ok (.ifCond .eq 28, 3) := by decide +kernel
theorem dX12_isClause_71 : decode cX12_isClause 71 = .ok (.aload_n 0, 1) := by decide +kernel
theorem dX12_isClause_72 : decode cX12_isClause 72 = .ok (.bipush 58, 2) := by decide +kernel
theorem dX12_isClause_74 : decode cX12_isClause 74 = .ok (.invokevirtual 107, 3) := by decide +kernel
theorem dX12_isClause_77 : decode cX12_isClause 77 = .ok (.ifCond .eq 19, 3) := by decide +kernel
theorem dX12_isClause_80 : decode cX12_isClause 80 = .ok (.aload_n 0, 1) := by decide +kernel
theorem dX12_isClause_81 : decode cX12_isClause 81 = .ok (.iload_n 1, 1) := by decide +kernel
theorem dX12_isClause_82 : decode cX12_isClause 82 = .ok (.iconst 3, 1) := by decide +kernel
theorem dX12_isClause_83 : decode cX12_isClause 83 = .ok (.iadd, 1) := by decide +kernel
theorem dX12_isClause_84 : decode cX12_isClause 84 = .ok (.iconst 1, 1) := by decide +kernel
theorem dX12_isClause_85 : decode cX12_isClause 85 = .ok (.iconst 4, 1) := by decide +kernel
theorem dX12_isClause_86 : decode cX12_isClause 86 = .ok (.invokevirtual 103, 3) := by decide +kernel
theorem dX12_isClause_89 : decode cX12_isClause 89 = .ok (.ifCond .eq 7, 3) := by decide +kernel
theorem dX12_isClause_92 : decode cX12_isClause 92 = .ok (.iconst 1, 1) := by decide +kernel
theorem dX12_isClause_93 : decode cX12_isClause 93 = .ok (.goto 4, 3) := by decide +kernel
theorem dX12_isClause_96 : decode cX12_isClause 96 = .ok (.iconst 0, 1) := by decide +kernel
theorem dX12_isClause_97 : decode cX12_isClause 97 = .ok (.istore_n 2, 1) := by decide +kernel
theorem dX12_isClause_98 : decode cX12_isClause 98 = .ok (.iload_n 2, 1) := by decide +kernel
theorem dX12_isClause_99 : decode cX12_isClause 99 = .ok (.ifCond .eq 16, 3) := by decide +kernel
theorem dX12_isClause_102 : decode cX12_isClause 102 = .ok (.aload_n 0, 1) := by decide +kernel
theorem dX12_isClause_103 : decode cX12_isClause 103 = .ok (.aload_n 0, 1) := by decide +kernel
theorem dX12_isClause_104 : decode cX12_isClause 104 = .ok (.getfield 90, 3) := by decide +kernel
theorem dX12_isClause_107 : decode cX12_isClause 107 = .ok (.invokevirtual 93, 3) := by decide +kernel
theorem dX12_isClause_110 : decode cX12_isClause 110 = .ok (.bipush 43, 2) := by decide +kernel
theorem dX12_isClause_112 : decode cX12_isClause 112 = .ok (.if_icmp .eq 5, 3) := by decide +kernel
theorem dX12_isClause_115 : decode cX12_isClause 115 = .ok (.iload_n 2, 1) := by decide +kernel
theorem dX12_isClause_116 : decode cX12_isClause 116 = .ok (.ireturn, 1) := by decide +kernel
theorem dX12_isClause_117 : decode cX12_isClause 117 = .ok (.aload_n 0, 1) := by decide +kernel
theorem dX12_isClause_118 : decode cX12_isClause 118 = .ok (.dup, 1) := by decide +kernel
theorem dX12_isClause_119 : decode cX12_isClause 119 = .ok (.getfield 90, 3) := by decide +kernel
theorem dX12_isClause_122 : decode cX12_isClause 122 = .ok (.iconst 1, 1) := by decide +kernel
theorem dX12_isClause_123 : decode cX12_isClause 123 = .ok (.iadd, 1) := by decide +kernel
theorem dX12_isClause_124 : decode cX12_isClause 124 = .ok (.putfield 90, 3) := by decide +kernel
theorem dX12_isClause_127 : decode cX12_isClause 127 = .ok (.aload_n 0, 1) := by decide +kernel
theorem dX12_isClause_128 : decode cX12_isClause 128 = .ok (.iload_n 1, 1) := by decide +kernel
theorem dX12_isClause_129 : decode cX12_isClause 129 = .ok (.iconst 5, 1) := by decide +kernel
theorem dX12_isClause_130 : decode cX12_isClause 130 = .ok (.iadd, 1) := by decide +kernel
theorem dX12_isClause_131 : decode cX12_isClause 131 = .ok (.aload_n 0, 1) := by decide +kernel
theorem dX12_isClause_132 : decode cX12_isClause 132 = .ok (.getfield 24, 3) := by decide +kernel
theorem dX12_isClause_135 : decode cX12_isClause 135 = .ok (.iload_n 1, 1) := by decide +kernel
theorem dX12_isClause_136 : decode cX12_isClause 136 = .ok (.iconst 4, 1) := by decide +kernel
theorem dX12_isClause_137 : decode cX12_isClause 137 = .ok (.iadd, 1) := by decide +kernel
theorem dX12_isClause_138 : decode cX12_isClause 138 = .ok (.iaload, 1) := by decide +kernel
theorem dX12_isClause_139 : decode cX12_isClause 139 = .ok (.iadd, 1) := by decide +kernel
theorem dX12_isClause_140 : decode cX12_isClause 140 = .ok (.invokevirtual 110, 3) := by decide +kernel
theorem dX12_isClause_143 : decode cX12_isClause 143 = .ok (.ifCond .ne 5, 3) := by decide +kernel
theorem dX12_isClause_146 : decode cX12_isClause 146 = .ok (.iconst 0, 1) := by decide +kernel
theorem dX12_isClause_147 : decode cX12_isClause 147 = .ok (.ireturn, 1) := by decide +kernel
theorem dX12_isClause_148 : decode cX12_isClause 148 = .ok (.aload_n 0, 1) := by decide +kernel
theorem dX12_isClause_149 : decode cX12_isClause 149 = .ok (.getfield 24, 3) := by decide +kernel
theorem dX12_isClause_152 : decode cX12_isClause 152 = .ok (.iload_n 1, 1) := by decide +kernel
theorem dX12_isClause_153 : decode cX12_isClause 153 = .ok (.iconst 4, 1) := by decide +kernel
theorem dX12_isClause_154 : decode cX12_isClause 154 = .ok (.iadd, 1) := by decide +kernel
theorem dX12_isClause_155 : decode cX12_isClause 155 = .ok (.dup2, 1) := by decide +kernel
theorem dX12_isClause_156 : decode cX12_isClause 156 = .ok (.iaload, 1) := by decide +kernel
theorem dX12_isClause_157 : decode cX12_isClause 157 = .ok (.iconst 1, 1) := by decide +kernel
theorem dX12_isClause_158 : decode cX12_isClause 158 = .ok (.iadd, 1) := by decide +kernel
theorem dX12_isClause_159 : decode cX12_isClause 159 = .ok (.iastore, 1) := by decide +kernel
theorem dX12_isClause_160 : decode cX12_isClause 160 = .ok (.aload_n 0, 1) := by decide +kernel
theorem dX12_isClause_161 : decode cX12_isClause 161 = .ok (.getfield 24, 3) := by decide +kernel
theorem dX12_isClause_164 : decode cX12_isClause 164 = .ok (.iload_n 1, 1) := by decide +kernel
theorem dX12_isClause_165 : decode cX12_isClause 165 = .ok (.iconst 4, 1) := by decide +kernel
theorem dX12_isClause_166 : decode cX12_isClause 166 = .ok (.iadd, 1) := by decide +kernel
theorem dX12_isClause_167 : decode cX12_isClause 167 = .ok (.iaload, 1) := by decide +kernel
theorem dX12_isClause_168 : decode cX12_isClause 168 = .ok (.bipush 6, 2) := by decide +kernel
theorem dX12_isClause_170 : decode cX12_isClause 170 = .ok (.if_icmp .ge 16, 3) := by decide +kernel
theorem dX12_isClause_173 : decode cX12_isClause 173 = .ok (.aload_n 0, 1) := by decide +kernel
theorem dX12_isClause_174 : decode cX12_isClause 174 = .ok (.aload_n 0, 1) := by decide +kernel
theorem dX12_isClause_175 : decode cX12_isClause 175 = .ok (.getfield 90, 3) := by decide +kernel
theorem dX12_isClause_178 : decode cX12_isClause 178 = .ok (.invokevirtual 93, 3) := by decide +kernel
theorem dX12_isClause_181 : decode cX12_isClause 181 = .ok (.bipush 44, 2) := by decide +kernel
theorem dX12_isClause_183 : decode cX12_isClause 183 = .ok (.if_icmp .eq (-66), 3) := by decide +kernel
theorem dX12_isClause_186 : decode cX12_isClause 186 = .ok (.iconst 1, 1) := by decide +kernel
theorem dX12_isClause_187 : decode cX12_isClause 187 = .ok (.ireturn, 1) := by decide +kernel
theorem dX12_graph_0 : decode cX12_graph 0 = .ok (.aload_n 0, 1) := by decide +kernel
theorem dX12_graph_1 : decode cX12_graph 1 = .ok (.iconst 0, 1) := by decide +kernel
theorem dX12_graph_2 : decode cX12_graph 2 = .ok (.putfield 90, 3) := by decide +kernel
theorem dX12_graph_5 : decode cX12_graph 5 = .ok (.aload_n 0, 1) := by decide +kernel
theorem dX12_graph_6 : decode cX12_graph 6 = .ok (.iconst 0, 1) := by decide +kernel
theorem dX12_graph_7 : decode cX12_graph 7 = .ok (.putfield 100, 3) := by decide +kernel
theorem dX12_graph_10 : decode cX12_graph 10 = .ok (.iconst 1, 1) := by decide +kernel
theorem dX12_graph_11 : decode cX12_graph 11 = .ok (.istore_n 1, 1) := by decide +kernel
theorem dX12_graph_12 : decode cX12_graph 12 = .ok (.iload_n 1, 1) := by decide +kernel
theorem dX12_graph_13 : decode cX12_graph 13 = .ok (.ifCond .eq 54, 3) := by decide +kernel
theorem dX12_graph_16 : decode cX12_graph 16 = .ok (.aload_n 0, 1) := by decide +kernel
theorem dX12_graph_17 : decode cX12_graph 17 = .ok (.getfield 100, 3) := by decide +kernel
theorem dX12_graph_20 : decode cX12_graph 20 = .ok (.ifCond .eq 21, 3) := by decide +kernel
theorem dX12_graph_23 : decode cX12_graph 23 = .ok (.aload_n 0, 1) := by decide +kernel
theorem dX12_graph_24 : decode cX12_graph 24 = .ok (.getfield 100, 3) := by decide +kernel
theorem dX12_graph_27 : decode cX12_graph 27 = .ok (.bipush 8, 2) := by decide +kernel
theorem dX12_graph_29 : decode cX12_graph 29 = .ok (.if_icmp .ge 38, 3) := by decide +kernel
theorem dX12_graph_32 : decode cX12_graph 32 = .ok (.aload_n 0, 1) := by decide +kernel
theorem dX12_graph_33 : decode cX12_graph 33 = .ok (.bipush 59, 2) := by decide +kernel
theorem dX12_graph_35 : decode cX12_graph 35 = .ok (.invokevirtual 107, 3) := by decide +kernel
theorem dX12_graph_38 : decode cX12_graph 38 = .ok (.ifCond .eq 29, 3) := by decide +kernel
theorem dX12_graph_41 : decode cX12_graph 41 = .ok (.aload_n 0, 1) := by decide +kernel
theorem dX12_graph_42 : decode cX12_graph 42 = .ok (.invokevirtual 113, 3) := by decide +kernel
theorem dX12_graph_45 : decode cX12_graph 45 = .ok (.istore_n 1, 1) := by decide +kernel
theorem dX12_graph_46 : decode cX12_graph 46 = .ok (.aload_n 0, 1) := by decide +kernel
theorem dX12_graph_47 : decode cX12_graph 47 = .ok (.dup, 1) := by decide +kernel
theorem dX12_graph_48 : decode cX12_graph 48 = .ok (.getfield 100, 3) := by decide +kernel
theorem dX12_graph_51 : decode cX12_graph 51 = .ok (.iload_n 1, 1) := by decide +kernel
theorem dX12_graph_52 : decode cX12_graph 52 = .ok (.ifCond .eq 7, 3) := by decide +kernel
theorem dX12_graph_55 : decode cX12_graph 55 = .ok (.iconst 1, 1) := by decide +kernel
theorem dX12_graph_56 : decode cX12_graph 56 = .ok (.goto 4, 3) := by decide +kernel
theorem dX12_graph_59 : decode cX12_graph 59 = .ok (.iconst 0, 1) := by decide +kernel
theorem dX12_graph_60 : decode cX12_graph 60 = .ok (.iadd, 1) := by decide +kernel
theorem dX12_graph_61 : decode cX12_graph 61 = .ok (.putfield 100, 3) := by decide +kernel
theorem dX12_graph_64 : decode cX12_graph 64 = .ok (.goto (-52), 3) := by decide +kernel
theorem dX12_graph_67 : decode cX12_graph 67 = .ok (.iload_n 1, 1) := by decide +kernel
theorem dX12_graph_68 : decode cX12_graph 68 = .ok (.ifCond .eq 18, 3) := by decide +kernel
theorem dX12_graph_71 : decode cX12_graph 71 = .ok (.aload_n 0, 1) := by decide +kernel
theorem dX12_graph_72 : decode cX12_graph 72 = .ok (.getfield 90, 3) := by decide +kernel
theorem dX12_graph_75 : decode cX12_graph 75 = .ok (.aload_n 0, 1) := by decide +kernel
theorem dX12_graph_76 : decode cX12_graph 76 = .ok (.getfield 86, 3) := by decide +kernel
theorem dX12_graph_79 : decode cX12_graph 79 = .ok (.if_icmp .ne 7, 3) := by decide +kernel
theorem dX12_graph_82 : decode cX12_graph 82 = .ok (.iconst 1, 1) := by decide +kernel
theorem dX12_graph_83 : decode cX12_graph 83 = .ok (.goto 4, 3) := by decide +kernel
theorem dX12_graph_86 : decode cX12_graph 86 = .ok (.iconst 0, 1) := by decide +kernel
theorem dX12_graph_87 : decode cX12_graph 87 = .ok (.istore_n 1, 1) := by decide +kernel
theorem dX12_graph_88 : decode cX12_graph 88 = .ok (.aload_n 0, 1) := by decide +kernel
theorem dX12_graph_89 : decode cX12_graph 89 = .ok (.iconst 0, 1) := by decide +kernel
theorem dX12_graph_90 : decode cX12_graph 90 = .ok (.putfield 86, 3) := by decide +kernel
theorem dX12_graph_93 : decode cX12_graph 93 = .ok (.iload_n 1, 1) := by decide +kernel
theorem dX12_graph_94 : decode cX12_graph 94 = .ok (.ifCond .ne 11, 3) := by decide +kernel
theorem dX12_graph_97 : decode cX12_graph 97 = .ok (.bipush (-10), 2) := by decide +kernel
theorem dX12_graph_99 : decode cX12_graph 99 = .ok (.aload_n 0, 1) := by decide +kernel
theorem dX12_graph_100 : decode cX12_graph 100 = .ok (.getfield 90, 3) := by decide +kernel
theorem dX12_graph_103 : decode cX12_graph 103 = .ok (.isub, 1) := by decide +kernel
theorem dX12_graph_104 : decode cX12_graph 104 = .ok (.ireturn, 1) := by decide +kernel
theorem dX12_graph_105 : decode cX12_graph 105 = .ok (.iconst 0, 1) := by decide +kernel
theorem dX12_graph_106 : decode cX12_graph 106 = .ok (.istore_n 2, 1) := by decide +kernel
theorem dX12_graph_107 : decode cX12_graph 107 = .ok (.iconst 0, 1) := by decide +kernel
theorem dX12_graph_108 : decode cX12_graph 108 = .ok (.istore_n 3, 1) := by decide +kernel
theorem dX12_graph_109 : decode cX12_graph 109 = .ok (.iload_n 3, 1) := by decide +kernel
theorem dX12_graph_110 : decode cX12_graph 110 = .ok (.aload_n 0, 1) := by decide +kernel
theorem dX12_graph_111 : decode cX12_graph 111 = .ok (.getfield 100, 3) := by decide +kernel
theorem dX12_graph_114 : decode cX12_graph 114 = .ok (.if_icmp .ge 104, 3) := by decide +kernel
theorem dX12_graph_117 : decode cX12_graph 117 = .ok (.bipush 11, 2) := by decide +kernel
theorem dX12_graph_119 : decode cX12_graph 119 = .ok (.iload_n 3, 1) := by decide +kernel
theorem dX12_graph_120 : decode cX12_graph 120 = .ok (.imul, 1) := by decide +kernel
theorem dX12_graph_121 : decode cX12_graph 121 = .ok (.istore 4, 2) := by decide +kernel
theorem dX12_graph_123 : decode cX12_graph 123 = .ok (.aload_n 0, 1) := by decide +kernel
theorem dX12_graph_124 : decode cX12_graph 124 = .ok (.aload_n 0, 1) := by decide +kernel
theorem dX12_graph_125 : decode cX12_graph 125 = .ok (.getfield 24, 3) := by decide +kernel
theorem dX12_graph_128 : decode cX12_graph 128 = .ok (.iload 4, 2) := by decide +kernel
theorem dX12_graph_130 : decode cX12_graph 130 = .ok (.iaload, 1) := by decide +kernel
theorem dX12_graph_131 : decode cX12_graph 131 = .ok (.aload_n 0, 1) := by decide +kernel
theorem dX12_graph_132 : decode cX12_graph 132 = .ok (.getfield 24, 3) := by decide +kernel
theorem dX12_graph_135 : decode cX12_graph 135 = .ok (.iload 4, 2) := by decide +kernel
theorem dX12_graph_137 : decode cX12_graph 137 = .ok (.iconst 1, 1) := by decide +kernel
theorem dX12_graph_138 : decode cX12_graph 138 = .ok (.iadd, 1) := by decide +kernel
theorem dX12_graph_139 : decode cX12_graph 139 = .ok (.iaload, 1) := by decide +kernel
theorem dX12_graph_140 : decode cX12_graph 140 = .ok (.aload_n 0, 1) := by decide +kernel
theorem dX12_graph_141 : decode cX12_graph 141 = .ok (.getfield 24, 3) := by decide +kernel
theorem dX12_graph_144 : decode cX12_graph 144 = .ok (.iload 4, 2) := by decide +kernel
theorem dX12_graph_146 : decode cX12_graph 146 = .ok (.iconst 2, 1) := by decide +kernel
theorem dX12_graph_147 : decode cX12_graph 147 = .ok (.iadd, 1) := by decide +kernel
theorem dX12_graph_148 : decode cX12_graph 148 = .ok (.iaload, 1) := by decide +kernel
theorem dX12_graph_149 : decode cX12_graph 149 = .ok (.aload_n 0, 1) := by decide +kernel
theorem dX12_graph_150 : decode cX12_graph 150 = .ok (.getfield 24, 3) := by decide +kernel
theorem dX12_graph_153 : decode cX12_graph 153 = .ok (.iload 4, 2) := by decide +kernel
theorem dX12_graph_155 : decode cX12_graph 155 = .ok (.iconst 3, 1) := by decide +kernel
theorem dX12_graph_156 : decode cX12_graph 156 = .ok (.iadd, 1) := by decide +kernel
theorem dX12_graph_157 : decode cX12_graph 157 = .ok (.iaload, 1) := by decide +kernel
theorem dX12_graph_158 : decode cX12_graph 158 = .ok (.invokevirtual 117, 3) := by decide +kernel
theorem dX12_graph_161 : decode cX12_graph 161 = .ok (.istore 5, 2) := by decide +kernel
theorem dX12_graph_163 : decode cX12_graph 163 = .ok (.iload 5, 2) := by decide +kernel
theorem dX12_graph_165 : decode cX12_graph 165 = .ok (.ifCond .lt 47, 3) := by decide +kernel
theorem dX12_graph_168 : decode cX12_graph 168 = .ok (.iinc 2 1, 3) := by decide +kernel
theorem dX12_graph_171 : decode cX12_graph 171 = .ok (.iconst 0, 1) := by decide +kernel
theorem dX12_graph_172 : decode cX12_graph 172 = .ok (.istore 6, 2) := by decide +kernel
theorem dX12_graph_174 : decode cX12_graph 174 = .ok (.iload 6, 2) := by decide +kernel
theorem dX12_graph_176 : decode cX12_graph 176 = .ok (.aload_n 0, 1) := by decide +kernel
theorem dX12_graph_177 : decode cX12_graph 177 = .ok (.getfield 24, 3) := by decide +kernel
theorem dX12_graph_180 : decode cX12_graph 180 = .ok (.iload 4, 2) := by decide +kernel
theorem dX12_graph_182 : decode cX12_graph 182 = .ok (.iconst 4, 1) := by decide +kernel
theorem dX12_graph_183 : decode cX12_graph 183 = .ok (.iadd, 1) := by decide +kernel
theorem dX12_graph_184 : decode cX12_graph 184 = .ok (.iaload, 1) := by decide +kernel
theorem dX12_graph_185 : decode cX12_graph 185 = .ok (.if_icmp .ge 27, 3) := by decide +kernel
theorem dX12_graph_188 : decode cX12_graph 188 = .ok (.aload_n 0, 1) := by decide +kernel
theorem dX12_graph_189 : decode cX12_graph 189 = .ok (.iload 5, 2) := by decide +kernel
theorem dX12_graph_191 : decode cX12_graph 191 = .ok (.aload_n 0, 1) := by decide +kernel
theorem dX12_graph_192 : decode cX12_graph 192 = .ok (.getfield 24, 3) := by decide +kernel
theorem dX12_graph_195 : decode cX12_graph 195 = .ok (.iload 4, 2) := by decide +kernel
theorem dX12_graph_197 : decode cX12_graph 197 = .ok (.iconst 5, 1) := by decide +kernel
theorem dX12_graph_198 : decode cX12_graph 198 = .ok (.iadd, 1) := by decide +kernel
theorem dX12_graph_199 : decode cX12_graph 199 = .ok (.iload 6, 2) := by decide +kernel
theorem dX12_graph_201 : decode cX12_graph 201 = .ok (.iadd, 1) := by decide +kernel
theorem dX12_graph_202 : decode cX12_graph 202 = .ok (.iaload, 1) := by decide +kernel
theorem dX12_graph_203 : decode cX12_graph 203 = .ok (.invokevirtual 80, 3) := by decide +kernel
theorem dX12_graph_206 : decode cX12_graph 206 = .ok (.iinc 6 1, 3) := by decide +kernel
theorem dX12_graph_209 : decode cX12_graph 209 = .ok (.goto (-35), 3) := by decide +kernel
theorem dX12_graph_212 : decode cX12_graph 212 = .ok (.iinc 3 1, 3) := by decide +kernel
theorem dX12_graph_215 : decode cX12_graph 215 = .ok (.goto (-106), 3) := by decide +kernel
theorem dX12_graph_218 : decode cX12_graph 218 = .ok (.iload_n 2, 1) := by decide +kernel
theorem dX12_graph_219 : decode cX12_graph 219 = .ok (.ireturn, 1) := by decide +kernel
theorem dX12_canFire_0 : decode cX12_canFire 0 = .ok (.iconst 0, 1) := by decide +kernel
theorem dX12_canFire_1 : decode cX12_canFire 1 = .ok (.istore_n 2, 1) := by decide +kernel
theorem dX12_canFire_2 : decode cX12_canFire 2 = .ok (.iload_n 2, 1) := by decide +kernel
theorem dX12_canFire_3 : decode cX12_canFire 3 = .ok (.aload_n 0, 1) := by decide +kernel
theorem dX12_canFire_4 : decode cX12_canFire 4 = .ok (.getfield 11, 3) := by decide +kernel
theorem dX12_canFire_7 : decode cX12_canFire 7 = .ok (.iconst 1, 1) := by decide +kernel
theorem dX12_canFire_8 : decode cX12_canFire 8 = .ok (.iaload, 1) := by decide +kernel
theorem dX12_canFire_9 : decode cX12_canFire 9 = .ok (.if_icmp .ge 81, 3) := by decide +kernel
theorem dX12_canFire_12 : decode cX12_canFire 12 = .ok (.aload_n 0, 1) := by decide +kernel
theorem dX12_canFire_13 : decode cX12_canFire 13 = .ok (.iload_n 2, 1) := by decide +kernel
theorem dX12_canFire_14 : decode cX12_canFire 14 = .ok (.invokevirtual 73, 3) := by decide +kernel
theorem dX12_canFire_17 : decode cX12_canFire 17 = .ok (.ifCond .ne 6, 3) := by decide +kernel
theorem dX12_canFire_20 : decode cX12_canFire 20 = .ok (.goto 64, 3) := by decide +kernel
theorem dX12_canFire_23 : decode cX12_canFire 23 = .ok (.aload_n 0, 1) := by decide +kernel
theorem dX12_canFire_24 : decode cX12_canFire 24 = .ok (.iload_n 2, 1) := by decide +kernel
theorem dX12_canFire_25 : decode cX12_canFire 25 = .ok (.invokevirtual 76, 3) := by decide +kernel
theorem dX12_canFire_28 : decode cX12_canFire 28 = .ok (.aload_n 0, 1) := by decide +kernel
theorem dX12_canFire_29 : decode cX12_canFire 29 = .ok (.iload_n 2, 1) := by decide +kernel
theorem dX12_canFire_30 : decode cX12_canFire 30 = .ok (.invokevirtual 121, 3) := by decide +kernel
theorem dX12_canFire_33 : decode cX12_canFire 33 = .ok (.iload_n 1, 1) := by decide +kernel
theorem dX12_canFire_34 : decode cX12_canFire 34 = .ok (.if_icmp .ne 11, 3) := by decide +kernel
theorem dX12_canFire_37 : decode cX12_canFire 37 = .ok (.aload_n 0, 1) := by decide +kernel
theorem dX12_canFire_38 : decode cX12_canFire 38 = .ok (.iload_n 2, 1) := by decide +kernel
theorem dX12_canFire_39 : decode cX12_canFire 39 = .ok (.invokevirtual 124, 3) := by decide +kernel
theorem dX12_canFire_42 : decode cX12_canFire 42 = .ok (.goto 4, 3) := by decide +kernel
theorem dX12_canFire_45 : decode cX12_canFire 45 = .ok (.iconst 0, 1) := by decide +kernel
theorem dX12_canFire_46 : decode cX12_canFire 46 = .ok (.isub, 1) := by decide +kernel
theorem dX12_canFire_47 : decode cX12_canFire 47 = .ok (.istore_n 3, 1) := by decide +kernel
theorem dX12_canFire_48 : decode cX12_canFire 48 = .ok (.aload_n 0, 1) := by decide +kernel
theorem dX12_canFire_49 : decode cX12_canFire 49 = .ok (.iload_n 2, 1) := by decide +kernel
theorem dX12_canFire_50 : decode cX12_canFire 50 = .ok (.invokevirtual 121, 3) := by decide +kernel
theorem dX12_canFire_53 : decode cX12_canFire 53 = .ok (.iload_n 1, 1) := by decide +kernel
theorem dX12_canFire_54 : decode cX12_canFire 54 = .ok (.if_icmp .ne 7, 3) := by decide +kernel
theorem dX12_canFire_57 : decode cX12_canFire 57 = .ok (.iload_n 3, 1) := by decide +kernel
theorem dX12_canFire_58 : decode cX12_canFire 58 = .ok (.ifCond .lt 24, 3) := by decide +kernel
theorem dX12_canFire_61 : decode cX12_canFire 61 = .ok (.aload_n 0, 1) := by decide +kernel
theorem dX12_canFire_62 : decode cX12_canFire 62 = .ok (.iload_n 2, 1) := by decide +kernel
theorem dX12_canFire_63 : decode cX12_canFire 63 = .ok (.invokevirtual 127, 3) := by decide +kernel
theorem dX12_canFire_66 : decode cX12_canFire 66 = .ok (.iload_n 1, 1) := by decide +kernel
theorem dX12_canFire_67 : decode cX12_canFire 67 = .ok (.if_icmp .ne 17, 3) := by decide +kernel
theorem dX12_canFire_70 : decode cX12_canFire 70 = .ok (.iload_n 3, 1) := by decide +kernel
theorem dX12_canFire_71 : decode cX12_canFire 71 = .ok (.aload_n 0, 1) := by decide +kernel
theorem dX12_canFire_72 : decode cX12_canFire 72 = .ok (.iload_n 2, 1) := by decide +kernel
theorem dX12_canFire_73 : decode cX12_canFire 73 = .ok (.invokevirtual 130, 3) := by decide +kernel
theorem dX12_canFire_76 : decode cX12_canFire 76 = .ok (.iadd, 1) := by decide +kernel
theorem dX12_canFire_77 : decode cX12_canFire 77 = .ok (.bipush 99, 2) := by decide +kernel
theorem dX12_canFire_79 : decode cX12_canFire 79 = .ok (.if_icmp .le 5, 3) := by decide +kernel
theorem dX12_canFire_82 : decode cX12_canFire 82 = .ok (.iconst 0, 1) := by decide +kernel
theorem dX12_canFire_83 : decode cX12_canFire 83 = .ok (.ireturn, 1) := by decide +kernel
theorem dX12_canFire_84 : decode cX12_canFire 84 = .ok (.iinc 2 1, 3) := by decide +kernel
theorem dX12_canFire_87 : decode cX12_canFire 87 = .ok (.goto (-85), 3) := by decide +kernel
theorem dX12_canFire_90 : decode cX12_canFire 90 = .ok (.iconst 1, 1) := by decide +kernel
theorem dX12_canFire_91 : decode cX12_canFire 91 = .ok (.ireturn, 1) := by decide +kernel
theorem dX12_takesOff_0 : decode cX12_takesOff 0 = .ok (.bipush 74, 2) := by decide +kernel
theorem dX12_takesOff_2 : decode cX12_takesOff 2 = .ok (.bipush 105, 2) := by decide +kernel
theorem dX12_takesOff_4 : decode cX12_takesOff 4 = .ok (.iload_n 1, 1) := by decide +kernel
theorem dX12_takesOff_5 : decode cX12_takesOff 5 = .ok (.imul, 1) := by decide +kernel
theorem dX12_takesOff_6 : decode cX12_takesOff 6 = .ok (.iadd, 1) := by decide +kernel
theorem dX12_takesOff_7 : decode cX12_takesOff 7 = .ok (.bipush 6, 2) := by decide +kernel
theorem dX12_takesOff_9 : decode cX12_takesOff 9 = .ok (.iadd, 1) := by decide +kernel
theorem dX12_takesOff_10 : decode cX12_takesOff 10 = .ok (.istore_n 3, 1) := by decide +kernel
theorem dX12_takesOff_11 : decode cX12_takesOff 11 = .ok (.iconst 0, 1) := by decide +kernel
theorem dX12_takesOff_12 : decode cX12_takesOff 12 = .ok (.istore 4, 2) := by decide +kernel
theorem dX12_takesOff_14 : decode cX12_takesOff 14 = .ok (.iload 4, 2) := by decide +kernel
theorem dX12_takesOff_16 : decode cX12_takesOff 16 = .ok (.iload_n 2, 1) := by decide +kernel
theorem dX12_takesOff_17 : decode cX12_takesOff 17 = .ok (.if_icmp .ge 71, 3) := by decide +kernel
theorem dX12_takesOff_20 : decode cX12_takesOff 20 = .ok (.aload_n 0, 1) := by decide +kernel
theorem dX12_takesOff_21 : decode cX12_takesOff 21 = .ok (.getfield 11, 3) := by decide +kernel
theorem dX12_takesOff_24 : decode cX12_takesOff 24 = .ok (.iload_n 3, 1) := by decide +kernel
theorem dX12_takesOff_25 : decode cX12_takesOff 25 = .ok (.iload 4, 2) := by decide +kernel
theorem dX12_takesOff_27 : decode cX12_takesOff 27 = .ok (.iadd, 1) := by decide +kernel
theorem dX12_takesOff_28 : decode cX12_takesOff 28 = .ok (.iaload, 1) := by decide +kernel
theorem dX12_takesOff_29 : decode cX12_takesOff 29 = .ok (.istore 5, 2) := by decide +kernel
theorem dX12_takesOff_31 : decode cX12_takesOff 31 = .ok (.aload_n 0, 1) := by decide +kernel
theorem dX12_takesOff_32 : decode cX12_takesOff 32 = .ok (.dup, 1) := by decide +kernel
theorem dX12_takesOff_33 : decode cX12_takesOff 33 = .ok (.getfield 133, 3) := by decide +kernel
theorem dX12_takesOff_36 : decode cX12_takesOff 36 = .ok (.iload 5, 2) := by decide +kernel
theorem dX12_takesOff_38 : decode cX12_takesOff 38 = .ok (.iadd, 1) := by decide +kernel
theorem dX12_takesOff_39 : decode cX12_takesOff 39 = .ok (.putfield 133, 3) := by decide +kernel
theorem dX12_takesOff_42 : decode cX12_takesOff 42 = .ok (.aload_n 0, 1) := by decide +kernel
theorem dX12_takesOff_43 : decode cX12_takesOff 43 = .ok (.dup, 1) := by decide +kernel
theorem dX12_takesOff_44 : decode cX12_takesOff 44 = .ok (.getfield 136, 3) := by decide +kernel
theorem dX12_takesOff_47 : decode cX12_takesOff 47 = .ok (.iload 5, 2) := by decide +kernel
theorem dX12_takesOff_49 : decode cX12_takesOff 49 = .ok (.imul, 1) := by decide +kernel
theorem dX12_takesOff_50 : decode cX12_takesOff 50 = .ok (.putfield 136, 3) := by decide +kernel
theorem dX12_takesOff_53 : decode cX12_takesOff 53 = .ok (.aload_n 0, 1) := by decide +kernel
theorem dX12_takesOff_54 : decode cX12_takesOff 54 = .ok (.aload_n 0, 1) := by decide +kernel
theorem dX12_takesOff_55 : decode cX12_takesOff 55 = .ok (.getfield 139, 3) := by decide +kernel
theorem dX12_takesOff_58 : decode cX12_takesOff 58 = .ok (.iload 5, 2) := by decide +kernel
theorem dX12_takesOff_60 : decode cX12_takesOff 60 = .ok (.invokestatic 142, 3) := by decide +kernel
theorem dX12_takesOff_63 : decode cX12_takesOff 63 = .ok (.putfield 139, 3) := by decide +kernel
theorem dX12_takesOff_66 : decode cX12_takesOff 66 = .ok (.aload_n 0, 1) := by decide +kernel
theorem dX12_takesOff_67 : decode cX12_takesOff 67 = .ok (.iload 5, 2) := by decide +kernel
theorem dX12_takesOff_69 : decode cX12_takesOff 69 = .ok (.putfield 148, 3) := by decide +kernel
theorem dX12_takesOff_72 : decode cX12_takesOff 72 = .ok (.aload_n 0, 1) := by decide +kernel
theorem dX12_takesOff_73 : decode cX12_takesOff 73 = .ok (.dup, 1) := by decide +kernel
theorem dX12_takesOff_74 : decode cX12_takesOff 74 = .ok (.getfield 151, 3) := by decide +kernel
theorem dX12_takesOff_77 : decode cX12_takesOff 77 = .ok (.iconst 1, 1) := by decide +kernel
theorem dX12_takesOff_78 : decode cX12_takesOff 78 = .ok (.iadd, 1) := by decide +kernel
theorem dX12_takesOff_79 : decode cX12_takesOff 79 = .ok (.putfield 151, 3) := by decide +kernel
theorem dX12_takesOff_82 : decode cX12_takesOff 82 = .ok (.iinc 4 1, 3) := by decide +kernel
theorem dX12_takesOff_85 : decode cX12_takesOff 85 = .ok (.goto (-71), 3) := by decide +kernel
theorem dX12_takesOff_88 : decode cX12_takesOff 88 = .ok (.aload_n 0, 1) := by decide +kernel
theorem dX12_takesOff_89 : decode cX12_takesOff 89 = .ok (.iload_n 1, 1) := by decide +kernel
theorem dX12_takesOff_90 : decode cX12_takesOff 90 = .ok (.invokevirtual 76, 3) := by decide +kernel
theorem dX12_takesOff_93 : decode cX12_takesOff 93 = .ok (.istore 4, 2) := by decide +kernel
theorem dX12_takesOff_95 : decode cX12_takesOff 95 = .ok (.iload_n 2, 1) := by decide +kernel
theorem dX12_takesOff_96 : decode cX12_takesOff 96 = .ok (.istore 5, 2) := by decide +kernel
theorem dX12_takesOff_98 : decode cX12_takesOff 98 = .ok (.iload 5, 2) := by decide +kernel
theorem dX12_takesOff_100 : decode cX12_takesOff 100 = .ok (.iload 4, 2) := by decide +kernel
theorem dX12_takesOff_102 : decode cX12_takesOff 102 = .ok (.if_icmp .ge 29, 3) := by decide +kernel
theorem dX12_takesOff_105 : decode cX12_takesOff 105 = .ok (.aload_n 0, 1) := by decide +kernel
theorem dX12_takesOff_106 : decode cX12_takesOff 106 = .ok (.getfield 11, 3) := by decide +kernel
theorem dX12_takesOff_109 : decode cX12_takesOff 109 = .ok (.iload_n 3, 1) := by decide +kernel
theorem dX12_takesOff_110 : decode cX12_takesOff 110 = .ok (.iload 5, 2) := by decide +kernel
theorem dX12_takesOff_112 : decode cX12_takesOff 112 = .ok (.iadd, 1) := by decide +kernel
theorem dX12_takesOff_113 : decode cX12_takesOff 113 = .ok (.iload_n 2, 1) := by decide +kernel
theorem dX12_takesOff_114 : decode cX12_takesOff 114 = .ok (.isub, 1) := by decide +kernel
theorem dX12_takesOff_115 : decode cX12_takesOff 115 = .ok (.aload_n 0, 1) := by decide +kernel
theorem dX12_takesOff_116 : decode cX12_takesOff 116 = .ok (.getfield 11, 3) := by decide +kernel
theorem dX12_takesOff_119 : decode cX12_takesOff 119 = .ok (.iload_n 3, 1) := by decide +kernel
theorem dX12_takesOff_120 : decode cX12_takesOff 120 = .ok (.iload 5, 2) := by decide +kernel
theorem dX12_takesOff_122 : decode cX12_takesOff 122 = .ok (.iadd, 1) := by decide +kernel
theorem dX12_takesOff_123 : decode cX12_takesOff 123 = .ok (.iaload, 1) := by decide +kernel
theorem dX12_takesOff_124 : decode cX12_takesOff 124 = .ok (.iastore, 1) := by decide +kernel
theorem dX12_takesOff_125 : decode cX12_takesOff 125 = .ok (.iinc 5 1, 3) := by decide +kernel
theorem dX12_takesOff_128 : decode cX12_takesOff 128 = .ok (.goto (-30), 3) := by decide +kernel
theorem dX12_takesOff_131 : decode cX12_takesOff 131 = .ok (.aload_n 0, 1) := by decide +kernel
theorem dX12_takesOff_132 : decode cX12_takesOff 132 = .ok (.getfield 11, 3) := by decide +kernel
theorem dX12_takesOff_135 : decode cX12_takesOff 135 = .ok (.iload_n 3, 1) := by decide +kernel
theorem dX12_takesOff_136 : decode cX12_takesOff 136 = .ok (.iconst 1, 1) := by decide +kernel
theorem dX12_takesOff_137 : decode cX12_takesOff 137 = .ok (.isub, 1) := by decide +kernel
theorem dX12_takesOff_138 : decode cX12_takesOff 138 = .ok (.iload 4, 2) := by decide +kernel
theorem dX12_takesOff_140 : decode cX12_takesOff 140 = .ok (.iload_n 2, 1) := by decide +kernel
theorem dX12_takesOff_141 : decode cX12_takesOff 141 = .ok (.isub, 1) := by decide +kernel
theorem dX12_takesOff_142 : decode cX12_takesOff 142 = .ok (.iastore, 1) := by decide +kernel
theorem dX12_takesOff_143 : decode cX12_takesOff 143 = .ok (.return_, 1) := by decide +kernel
theorem dX12_put_0 : decode cX12_put 0 = .ok (.iload_n 0, 1) := by decide +kernel
theorem dX12_put_1 : decode cX12_put 1 = .ok (.tableswitch 61 0 4 #[35, 61, 39, 43, 55], 35) := by decide +kernel
theorem dX12_put_36 : decode cX12_put 36 = .ok (.iload_n 1, 1) := by decide +kernel
theorem dX12_put_37 : decode cX12_put 37 = .ok (.iload_n 3, 1) := by decide +kernel
theorem dX12_put_38 : decode cX12_put 38 = .ok (.iadd, 1) := by decide +kernel
theorem dX12_put_39 : decode cX12_put 39 = .ok (.ireturn, 1) := by decide +kernel
theorem dX12_put_40 : decode cX12_put 40 = .ok (.iload_n 1, 1) := by decide +kernel
theorem dX12_put_41 : decode cX12_put 41 = .ok (.iload_n 3, 1) := by decide +kernel
theorem dX12_put_42 : decode cX12_put 42 = .ok (.isub, 1) := by decide +kernel
theorem dX12_put_43 : decode cX12_put 43 = .ok (.ireturn, 1) := by decide +kernel
theorem dX12_put_44 : decode cX12_put 44 = .ok (.iload_n 3, 1) := by decide +kernel
theorem dX12_put_45 : decode cX12_put 45 = .ok (.iconst 2, 1) := by decide +kernel
theorem dX12_put_46 : decode cX12_put 46 = .ok (.irem, 1) := by decide +kernel
theorem dX12_put_47 : decode cX12_put 47 = .ok (.ifCond .ne 7, 3) := by decide +kernel
theorem dX12_put_50 : decode cX12_put 50 = .ok (.iload_n 1, 1) := by decide +kernel
theorem dX12_put_51 : decode cX12_put 51 = .ok (.goto 4, 3) := by decide +kernel
theorem dX12_put_54 : decode cX12_put 54 = .ok (.iload_n 2, 1) := by decide +kernel
theorem dX12_put_55 : decode cX12_put 55 = .ok (.ireturn, 1) := by decide +kernel
theorem dX12_put_56 : decode cX12_put 56 = .ok (.iload_n 1, 1) := by decide +kernel
theorem dX12_put_57 : decode cX12_put 57 = .ok (.iload_n 3, 1) := by decide +kernel
theorem dX12_put_58 : decode cX12_put 58 = .ok (.iconst 1, 1) := by decide +kernel
theorem dX12_put_59 : decode cX12_put 59 = .ok (.iadd, 1) := by decide +kernel
theorem dX12_put_60 : decode cX12_put 60 = .ok (.imul, 1) := by decide +kernel
theorem dX12_put_61 : decode cX12_put 61 = .ok (.ireturn, 1) := by decide +kernel
theorem dX12_put_62 : decode cX12_put 62 = .ok (.iload_n 1, 1) := by decide +kernel
theorem dX12_put_63 : decode cX12_put 63 = .ok (.ireturn, 1) := by decide +kernel
theorem dX12_fires_0 : decode cX12_fires 0 = .ok (.aload_n 0, 1) := by decide +kernel
theorem dX12_fires_1 : decode cX12_fires 1 = .ok (.getfield 11, 3) := by decide +kernel
theorem dX12_fires_4 : decode cX12_fires 4 = .ok (.iconst 5, 1) := by decide +kernel
theorem dX12_fires_5 : decode cX12_fires 5 = .ok (.iconst 3, 1) := by decide +kernel
theorem dX12_fires_6 : decode cX12_fires 6 = .ok (.iload_n 1, 1) := by decide +kernel
theorem dX12_fires_7 : decode cX12_fires 7 = .ok (.imul, 1) := by decide +kernel
theorem dX12_fires_8 : decode cX12_fires 8 = .ok (.iadd, 1) := by decide +kernel
theorem dX12_fires_9 : decode cX12_fires 9 = .ok (.iaload, 1) := by decide +kernel
theorem dX12_fires_10 : decode cX12_fires 10 = .ok (.istore_n 2, 1) := by decide +kernel
theorem dX12_fires_11 : decode cX12_fires 11 = .ok (.aload_n 0, 1) := by decide +kernel
theorem dX12_fires_12 : decode cX12_fires 12 = .ok (.getfield 11, 3) := by decide +kernel
theorem dX12_fires_15 : decode cX12_fires 15 = .ok (.iconst 5, 1) := by decide +kernel
theorem dX12_fires_16 : decode cX12_fires 16 = .ok (.iconst 3, 1) := by decide +kernel
theorem dX12_fires_17 : decode cX12_fires 17 = .ok (.iload_n 1, 1) := by decide +kernel
theorem dX12_fires_18 : decode cX12_fires 18 = .ok (.imul, 1) := by decide +kernel
theorem dX12_fires_19 : decode cX12_fires 19 = .ok (.iadd, 1) := by decide +kernel
theorem dX12_fires_20 : decode cX12_fires 20 = .ok (.iconst 1, 1) := by decide +kernel
theorem dX12_fires_21 : decode cX12_fires 21 = .ok (.iadd, 1) := by decide +kernel
theorem dX12_fires_22 : decode cX12_fires 22 = .ok (.iaload, 1) := by decide +kernel
theorem dX12_fires_23 : decode cX12_fires 23 = .ok (.istore_n 3, 1) := by decide +kernel
theorem dX12_fires_24 : decode cX12_fires 24 = .ok (.aload_n 0, 1) := by decide +kernel
theorem dX12_fires_25 : decode cX12_fires 25 = .ok (.iconst 0, 1) := by decide +kernel
theorem dX12_fires_26 : decode cX12_fires 26 = .ok (.putfield 133, 3) := by decide +kernel
theorem dX12_fires_29 : decode cX12_fires 29 = .ok (.aload_n 0, 1) := by decide +kernel
theorem dX12_fires_30 : decode cX12_fires 30 = .ok (.iload_n 3, 1) := by decide +kernel
theorem dX12_fires_31 : decode cX12_fires 31 = .ok (.putfield 136, 3) := by decide +kernel
theorem dX12_fires_34 : decode cX12_fires 34 = .ok (.aload_n 0, 1) := by decide +kernel
theorem dX12_fires_35 : decode cX12_fires 35 = .ok (.iload_n 3, 1) := by decide +kernel
theorem dX12_fires_36 : decode cX12_fires 36 = .ok (.putfield 139, 3) := by decide +kernel
theorem dX12_fires_39 : decode cX12_fires 39 = .ok (.aload_n 0, 1) := by decide +kernel
theorem dX12_fires_40 : decode cX12_fires 40 = .ok (.iload_n 3, 1) := by decide +kernel
theorem dX12_fires_41 : decode cX12_fires 41 = .ok (.putfield 148, 3) := by decide +kernel
theorem dX12_fires_44 : decode cX12_fires 44 = .ok (.aload_n 0, 1) := by decide +kernel
theorem dX12_fires_45 : decode cX12_fires 45 = .ok (.iconst 0, 1) := by decide +kernel
theorem dX12_fires_46 : decode cX12_fires 46 = .ok (.putfield 151, 3) := by decide +kernel
theorem dX12_fires_49 : decode cX12_fires 49 = .ok (.iconst 0, 1) := by decide +kernel
theorem dX12_fires_50 : decode cX12_fires 50 = .ok (.istore 4, 2) := by decide +kernel
theorem dX12_fires_52 : decode cX12_fires 52 = .ok (.iload 4, 2) := by decide +kernel
theorem dX12_fires_54 : decode cX12_fires 54 = .ok (.aload_n 0, 1) := by decide +kernel
theorem dX12_fires_55 : decode cX12_fires 55 = .ok (.getfield 11, 3) := by decide +kernel
theorem dX12_fires_58 : decode cX12_fires 58 = .ok (.iconst 1, 1) := by decide +kernel
theorem dX12_fires_59 : decode cX12_fires 59 = .ok (.iaload, 1) := by decide +kernel
theorem dX12_fires_60 : decode cX12_fires 60 = .ok (.if_icmp .ge 40, 3) := by decide +kernel
theorem dX12_fires_63 : decode cX12_fires 63 = .ok (.aload_n 0, 1) := by decide +kernel
theorem dX12_fires_64 : decode cX12_fires 64 = .ok (.iload 4, 2) := by decide +kernel
theorem dX12_fires_66 : decode cX12_fires 66 = .ok (.invokevirtual 73, 3) := by decide +kernel
theorem dX12_fires_69 : decode cX12_fires 69 = .ok (.ifCond .eq 25, 3) := by decide +kernel
theorem dX12_fires_72 : decode cX12_fires 72 = .ok (.aload_n 0, 1) := by decide +kernel
theorem dX12_fires_73 : decode cX12_fires 73 = .ok (.iload 4, 2) := by decide +kernel
theorem dX12_fires_75 : decode cX12_fires 75 = .ok (.invokevirtual 121, 3) := by decide +kernel
theorem dX12_fires_78 : decode cX12_fires 78 = .ok (.iload_n 1, 1) := by decide +kernel
theorem dX12_fires_79 : decode cX12_fires 79 = .ok (.if_icmp .ne 15, 3) := by decide +kernel
theorem dX12_fires_82 : decode cX12_fires 82 = .ok (.aload_n 0, 1) := by decide +kernel
theorem dX12_fires_83 : decode cX12_fires 83 = .ok (.iload 4, 2) := by decide +kernel
theorem dX12_fires_85 : decode cX12_fires 85 = .ok (.aload_n 0, 1) := by decide +kernel
theorem dX12_fires_86 : decode cX12_fires 86 = .ok (.iload 4, 2) := by decide +kernel
theorem dX12_fires_88 : decode cX12_fires 88 = .ok (.invokevirtual 124, 3) := by decide +kernel
theorem dX12_fires_91 : decode cX12_fires 91 = .ok (.invokevirtual 154, 3) := by decide +kernel
theorem dX12_fires_94 : decode cX12_fires 94 = .ok (.iinc 4 1, 3) := by decide +kernel
theorem dX12_fires_97 : decode cX12_fires 97 = .ok (.goto (-45), 3) := by decide +kernel
theorem dX12_fires_100 : decode cX12_fires 100 = .ok (.iload_n 2, 1) := by decide +kernel
theorem dX12_fires_101 : decode cX12_fires 101 = .ok (.ifCond .ne 12, 3) := by decide +kernel
theorem dX12_fires_104 : decode cX12_fires 104 = .ok (.iload_n 3, 1) := by decide +kernel
theorem dX12_fires_105 : decode cX12_fires 105 = .ok (.aload_n 0, 1) := by decide +kernel
theorem dX12_fires_106 : decode cX12_fires 106 = .ok (.getfield 133, 3) := by decide +kernel
theorem dX12_fires_109 : decode cX12_fires 109 = .ok (.iadd, 1) := by decide +kernel
theorem dX12_fires_110 : decode cX12_fires 110 = .ok (.goto 58, 3) := by decide +kernel
theorem dX12_fires_113 : decode cX12_fires 113 = .ok (.iload_n 2, 1) := by decide +kernel
theorem dX12_fires_114 : decode cX12_fires 114 = .ok (.iconst 1, 1) := by decide +kernel
theorem dX12_fires_115 : decode cX12_fires 115 = .ok (.if_icmp .ne 10, 3) := by decide +kernel
theorem dX12_fires_118 : decode cX12_fires 118 = .ok (.aload_n 0, 1) := by decide +kernel
theorem dX12_fires_119 : decode cX12_fires 119 = .ok (.getfield 136, 3) := by decide +kernel
theorem dX12_fires_122 : decode cX12_fires 122 = .ok (.goto 46, 3) := by decide +kernel
theorem dX12_fires_125 : decode cX12_fires 125 = .ok (.iload_n 2, 1) := by decide +kernel
theorem dX12_fires_126 : decode cX12_fires 126 = .ok (.iconst 2, 1) := by decide +kernel
theorem dX12_fires_127 : decode cX12_fires 127 = .ok (.if_icmp .ne 10, 3) := by decide +kernel
theorem dX12_fires_130 : decode cX12_fires 130 = .ok (.aload_n 0, 1) := by decide +kernel
theorem dX12_fires_131 : decode cX12_fires 131 = .ok (.getfield 148, 3) := by decide +kernel
theorem dX12_fires_134 : decode cX12_fires 134 = .ok (.goto 34, 3) := by decide +kernel
theorem dX12_fires_137 : decode cX12_fires 137 = .ok (.iload_n 2, 1) := by decide +kernel
theorem dX12_fires_138 : decode cX12_fires 138 = .ok (.iconst 3, 1) := by decide +kernel
theorem dX12_fires_139 : decode cX12_fires 139 = .ok (.if_icmp .ne 10, 3) := by decide +kernel
theorem dX12_fires_142 : decode cX12_fires 142 = .ok (.aload_n 0, 1) := by decide +kernel
theorem dX12_fires_143 : decode cX12_fires 143 = .ok (.getfield 139, 3) := by decide +kernel
theorem dX12_fires_146 : decode cX12_fires 146 = .ok (.goto 22, 3) := by decide +kernel
theorem dX12_fires_149 : decode cX12_fires 149 = .ok (.aload_n 0, 1) := by decide +kernel
theorem dX12_fires_150 : decode cX12_fires 150 = .ok (.getfield 11, 3) := by decide +kernel
theorem dX12_fires_153 : decode cX12_fires 153 = .ok (.iconst 5, 1) := by decide +kernel
theorem dX12_fires_154 : decode cX12_fires 154 = .ok (.iconst 3, 1) := by decide +kernel
theorem dX12_fires_155 : decode cX12_fires 155 = .ok (.iload_n 1, 1) := by decide +kernel
theorem dX12_fires_156 : decode cX12_fires 156 = .ok (.imul, 1) := by decide +kernel
theorem dX12_fires_157 : decode cX12_fires 157 = .ok (.iadd, 1) := by decide +kernel
theorem dX12_fires_158 : decode cX12_fires 158 = .ok (.iconst 2, 1) := by decide +kernel
theorem dX12_fires_159 : decode cX12_fires 159 = .ok (.iadd, 1) := by decide +kernel
theorem dX12_fires_160 : decode cX12_fires 160 = .ok (.iaload, 1) := by decide +kernel
theorem dX12_fires_161 : decode cX12_fires 161 = .ok (.iload_n 3, 1) := by decide +kernel
theorem dX12_fires_162 : decode cX12_fires 162 = .ok (.imul, 1) := by decide +kernel
theorem dX12_fires_163 : decode cX12_fires 163 = .ok (.aload_n 0, 1) := by decide +kernel
theorem dX12_fires_164 : decode cX12_fires 164 = .ok (.getfield 133, 3) := by decide +kernel
theorem dX12_fires_167 : decode cX12_fires 167 = .ok (.iadd, 1) := by decide +kernel
theorem dX12_fires_168 : decode cX12_fires 168 = .ok (.istore 4, 2) := by decide +kernel
theorem dX12_fires_170 : decode cX12_fires 170 = .ok (.iconst 0, 1) := by decide +kernel
theorem dX12_fires_171 : decode cX12_fires 171 = .ok (.istore 5, 2) := by decide +kernel
theorem dX12_fires_173 : decode cX12_fires 173 = .ok (.iload 5, 2) := by decide +kernel
theorem dX12_fires_175 : decode cX12_fires 175 = .ok (.aload_n 0, 1) := by decide +kernel
theorem dX12_fires_176 : decode cX12_fires 176 = .ok (.getfield 11, 3) := by decide +kernel
theorem dX12_fires_179 : decode cX12_fires 179 = .ok (.iconst 1, 1) := by decide +kernel
theorem dX12_fires_180 : decode cX12_fires 180 = .ok (.iaload, 1) := by decide +kernel
theorem dX12_fires_181 : decode cX12_fires 181 = .ok (.if_icmp .ge 63, 3) := by decide +kernel
theorem dX12_fires_184 : decode cX12_fires 184 = .ok (.aload_n 0, 1) := by decide +kernel
theorem dX12_fires_185 : decode cX12_fires 185 = .ok (.iload 5, 2) := by decide +kernel
theorem dX12_fires_187 : decode cX12_fires 187 = .ok (.invokevirtual 73, 3) := by decide +kernel
theorem dX12_fires_190 : decode cX12_fires 190 = .ok (.ifCond .eq 48, 3) := by decide +kernel
theorem dX12_fires_193 : decode cX12_fires 193 = .ok (.aload_n 0, 1) := by decide +kernel
theorem dX12_fires_194 : decode cX12_fires 194 = .ok (.iload 5, 2) := by decide +kernel
theorem dX12_fires_196 : decode cX12_fires 196 = .ok (.invokevirtual 127, 3) := by decide +kernel
theorem dX12_fires_199 : decode cX12_fires 199 = .ok (.iload_n 1, 1) := by decide +kernel
theorem dX12_fires_200 : decode cX12_fires 200 = .ok (.if_icmp .ne 38, 3) := by decide +kernel
theorem dX12_fires_203 : decode cX12_fires 203 = .ok (.iconst 0, 1) := by decide +kernel
theorem dX12_fires_204 : decode cX12_fires 204 = .ok (.istore 6, 2) := by decide +kernel
theorem dX12_fires_206 : decode cX12_fires 206 = .ok (.iload 6, 2) := by decide +kernel
theorem dX12_fires_208 : decode cX12_fires 208 = .ok (.aload_n 0, 1) := by decide +kernel
theorem dX12_fires_209 : decode cX12_fires 209 = .ok (.iload 5, 2) := by decide +kernel
theorem dX12_fires_211 : decode cX12_fires 211 = .ok (.invokevirtual 130, 3) := by decide +kernel
theorem dX12_fires_214 : decode cX12_fires 214 = .ok (.if_icmp .ge 24, 3) := by decide +kernel
theorem dX12_fires_217 : decode cX12_fires 217 = .ok (.aload_n 0, 1) := by decide +kernel
theorem dX12_fires_218 : decode cX12_fires 218 = .ok (.iload 5, 2) := by decide +kernel
theorem dX12_fires_220 : decode cX12_fires 220 = .ok (.iload_n 2, 1) := by decide +kernel
theorem dX12_fires_221 : decode cX12_fires 221 = .ok (.iload 4, 2) := by decide +kernel
theorem dX12_fires_223 : decode cX12_fires 223 = .ok (.iload_n 3, 1) := by decide +kernel
theorem dX12_fires_224 : decode cX12_fires 224 = .ok (.iload 6, 2) := by decide +kernel
theorem dX12_fires_226 : decode cX12_fires 226 = .ok (.invokestatic 157, 3) := by decide +kernel
theorem dX12_fires_229 : decode cX12_fires 229 = .ok (.invokevirtual 80, 3) := by decide +kernel
theorem dX12_fires_232 : decode cX12_fires 232 = .ok (.iinc 6 1, 3) := by decide +kernel
theorem dX12_fires_235 : decode cX12_fires 235 = .ok (.goto (-29), 3) := by decide +kernel
theorem dX12_fires_238 : decode cX12_fires 238 = .ok (.iinc 5 1, 3) := by decide +kernel
theorem dX12_fires_241 : decode cX12_fires 241 = .ok (.goto (-68), 3) := by decide +kernel
theorem dX12_fires_244 : decode cX12_fires 244 = .ok (.aload_n 0, 1) := by decide +kernel
theorem dX12_fires_245 : decode cX12_fires 245 = .ok (.getfield 11, 3) := by decide +kernel
theorem dX12_fires_248 : decode cX12_fires 248 = .ok (.iconst 5, 1) := by decide +kernel
theorem dX12_fires_249 : decode cX12_fires 249 = .ok (.iconst 3, 1) := by decide +kernel
theorem dX12_fires_250 : decode cX12_fires 250 = .ok (.iload_n 1, 1) := by decide +kernel
theorem dX12_fires_251 : decode cX12_fires 251 = .ok (.imul, 1) := by decide +kernel
theorem dX12_fires_252 : decode cX12_fires 252 = .ok (.iadd, 1) := by decide +kernel
theorem dX12_fires_253 : decode cX12_fires 253 = .ok (.iconst 2, 1) := by decide +kernel
theorem dX12_fires_254 : decode cX12_fires 254 = .ok (.iadd, 1) := by decide +kernel
theorem dX12_fires_255 : decode cX12_fires 255 = .ok (.sipush 9999, 3) := by decide +kernel
theorem dX12_fires_258 : decode cX12_fires 258 = .ok (.aload_n 0, 1) := by decide +kernel
theorem dX12_fires_259 : decode cX12_fires 259 = .ok (.getfield 11, 3) := by decide +kernel
theorem dX12_fires_262 : decode cX12_fires 262 = .ok (.iconst 5, 1) := by decide +kernel
theorem dX12_fires_263 : decode cX12_fires 263 = .ok (.iconst 3, 1) := by decide +kernel
theorem dX12_fires_264 : decode cX12_fires 264 = .ok (.iload_n 1, 1) := by decide +kernel
theorem dX12_fires_265 : decode cX12_fires 265 = .ok (.imul, 1) := by decide +kernel
theorem dX12_fires_266 : decode cX12_fires 266 = .ok (.iadd, 1) := by decide +kernel
theorem dX12_fires_267 : decode cX12_fires 267 = .ok (.iconst 2, 1) := by decide +kernel
theorem dX12_fires_268 : decode cX12_fires 268 = .ok (.iadd, 1) := by decide +kernel
theorem dX12_fires_269 : decode cX12_fires 269 = .ok (.iaload, 1) := by decide +kernel
theorem dX12_fires_270 : decode cX12_fires 270 = .ok (.iconst 1, 1) := by decide +kernel
theorem dX12_fires_271 : decode cX12_fires 271 = .ok (.iadd, 1) := by decide +kernel
theorem dX12_fires_272 : decode cX12_fires 272 = .ok (.invokestatic 160, 3) := by decide +kernel
theorem dX12_fires_275 : decode cX12_fires 275 = .ok (.iastore, 1) := by decide +kernel
theorem dX12_fires_276 : decode cX12_fires 276 = .ok (.iload 4, 2) := by decide +kernel
theorem dX12_fires_278 : decode cX12_fires 278 = .ok (.ireturn, 1) := by decide +kernel
theorem dX12_fire_0 : decode cX12_fire 0 = .ok (.aload_n 0, 1) := by decide +kernel
theorem dX12_fire_1 : decode cX12_fire 1 = .ok (.iload_n 1, 1) := by decide +kernel
theorem dX12_fire_2 : decode cX12_fire 2 = .ok (.invokevirtual 69, 3) := by decide +kernel
theorem dX12_fire_5 : decode cX12_fire 5 = .ok (.ifCond .eq 20, 3) := by decide +kernel
theorem dX12_fire_8 : decode cX12_fire 8 = .ok (.aload_n 0, 1) := by decide +kernel
theorem dX12_fire_9 : decode cX12_fire 9 = .ok (.iload_n 1, 1) := by decide +kernel
theorem dX12_fire_10 : decode cX12_fire 10 = .ok (.invokevirtual 163, 3) := by decide +kernel
theorem dX12_fire_13 : decode cX12_fire 13 = .ok (.ifCond .eq 12, 3) := by decide +kernel
theorem dX12_fire_16 : decode cX12_fire 16 = .ok (.aload_n 0, 1) := by decide +kernel
theorem dX12_fire_17 : decode cX12_fire 17 = .ok (.iload_n 1, 1) := by decide +kernel
theorem dX12_fire_18 : decode cX12_fire 18 = .ok (.invokevirtual 166, 3) := by decide +kernel
theorem dX12_fire_21 : decode cX12_fire 21 = .ok (.i2l, 1) := by decide +kernel
theorem dX12_fire_22 : decode cX12_fire 22 = .ok (.goto 6, 3) := by decide +kernel
theorem dX12_fire_25 : decode cX12_fire 25 = .ok (.ldc2_w 169, 3) := by decide +kernel
theorem dX12_fire_28 : decode cX12_fire 28 = .ok (.lreturn, 1) := by decide +kernel
theorem dX12_common_0 : decode cX12_common 0 = .ok (.lload_n 0, 1) := by decide +kernel
theorem dX12_common_1 : decode cX12_common 1 = .ok (.lstore 4, 2) := by decide +kernel
theorem dX12_common_3 : decode cX12_common 3 = .ok (.lload_n 2, 1) := by decide +kernel
theorem dX12_common_4 : decode cX12_common 4 = .ok (.lstore 6, 2) := by decide +kernel
theorem dX12_common_6 : decode cX12_common 6 = .ok (.lload 6, 2) := by decide +kernel
theorem dX12_common_8 : decode cX12_common 8 = .ok (.lconst 0, 1) := by decide +kernel
theorem dX12_common_9 : decode cX12_common 9 = .ok (.lcmp, 1) := by decide +kernel
theorem dX12_common_10 : decode cX12_common 10 = .ok (.ifCond .eq 21, 3) := by decide +kernel
theorem dX12_common_13 : decode cX12_common 13 = .ok (.lload 4, 2) := by decide +kernel
theorem dX12_common_15 : decode cX12_common 15 = .ok (.lload 6, 2) := by decide +kernel
theorem dX12_common_17 : decode cX12_common 17 = .ok (.lrem, 1) := by decide +kernel
theorem dX12_common_18 : decode cX12_common 18 = .ok (.lstore 8, 2) := by decide +kernel
theorem dX12_common_20 : decode cX12_common 20 = .ok (.lload 6, 2) := by decide +kernel
theorem dX12_common_22 : decode cX12_common 22 = .ok (.lstore 4, 2) := by decide +kernel
theorem dX12_common_24 : decode cX12_common 24 = .ok (.lload 8, 2) := by decide +kernel
theorem dX12_common_26 : decode cX12_common 26 = .ok (.lstore 6, 2) := by decide +kernel
theorem dX12_common_28 : decode cX12_common 28 = .ok (.goto (-22), 3) := by decide +kernel
theorem dX12_common_31 : decode cX12_common 31 = .ok (.lload 4, 2) := by decide +kernel
theorem dX12_common_33 : decode cX12_common 33 = .ok (.lreturn, 1) := by decide +kernel
theorem dX12_sets_0 : decode cX12_sets 0 = .ok (.lload_n 2, 1) := by decide +kernel
theorem dX12_sets_1 : decode cX12_sets 1 = .ok (.lload 4, 2) := by decide +kernel
theorem dX12_sets_3 : decode cX12_sets 3 = .ok (.invokestatic 171, 3) := by decide +kernel
theorem dX12_sets_6 : decode cX12_sets 6 = .ok (.lstore 6, 2) := by decide +kernel
theorem dX12_sets_8 : decode cX12_sets 8 = .ok (.aload_n 0, 1) := by decide +kernel
theorem dX12_sets_9 : decode cX12_sets 9 = .ok (.getfield 27, 3) := by decide +kernel
theorem dX12_sets_12 : decode cX12_sets 12 = .ok (.iload_n 1, 1) := by decide +kernel
theorem dX12_sets_13 : decode cX12_sets 13 = .ok (.lload_n 2, 1) := by decide +kernel
theorem dX12_sets_14 : decode cX12_sets 14 = .ok (.lload 6, 2) := by decide +kernel
theorem dX12_sets_16 : decode cX12_sets 16 = .ok (.ldiv, 1) := by decide +kernel
theorem dX12_sets_17 : decode cX12_sets 17 = .ok (.lastore, 1) := by decide +kernel
theorem dX12_sets_18 : decode cX12_sets 18 = .ok (.aload_n 0, 1) := by decide +kernel
theorem dX12_sets_19 : decode cX12_sets 19 = .ok (.getfield 31, 3) := by decide +kernel
theorem dX12_sets_22 : decode cX12_sets 22 = .ok (.iload_n 1, 1) := by decide +kernel
theorem dX12_sets_23 : decode cX12_sets 23 = .ok (.lload 4, 2) := by decide +kernel
theorem dX12_sets_25 : decode cX12_sets 25 = .ok (.lload 6, 2) := by decide +kernel
theorem dX12_sets_27 : decode cX12_sets 27 = .ok (.ldiv, 1) := by decide +kernel
theorem dX12_sets_28 : decode cX12_sets 28 = .ok (.lastore, 1) := by decide +kernel
theorem dX12_sets_29 : decode cX12_sets 29 = .ok (.iconst 1, 1) := by decide +kernel
theorem dX12_sets_30 : decode cX12_sets 30 = .ok (.ireturn, 1) := by decide +kernel
theorem dX12_spreads_0 : decode cX12_spreads 0 = .ok (.iconst 1, 1) := by decide +kernel
theorem dX12_spreads_1 : decode cX12_spreads 1 = .ok (.istore_n 1, 1) := by decide +kernel
theorem dX12_spreads_2 : decode cX12_spreads 2 = .ok (.iload_n 1, 1) := by decide +kernel
theorem dX12_spreads_3 : decode cX12_spreads 3 = .ok (.ifCond .eq 228, 3) := by decide +kernel
theorem dX12_spreads_6 : decode cX12_spreads 6 = .ok (.iconst 0, 1) := by decide +kernel
theorem dX12_spreads_7 : decode cX12_spreads 7 = .ok (.istore_n 1, 1) := by decide +kernel
theorem dX12_spreads_8 : decode cX12_spreads 8 = .ok (.iconst 0, 1) := by decide +kernel
theorem dX12_spreads_9 : decode cX12_spreads 9 = .ok (.istore_n 2, 1) := by decide +kernel
theorem dX12_spreads_10 : decode cX12_spreads 10 = .ok (.iload_n 2, 1) := by decide +kernel
theorem dX12_spreads_11 : decode cX12_spreads 11 = .ok (.aload_n 0, 1) := by decide +kernel
theorem dX12_spreads_12 : decode cX12_spreads 12 = .ok (.getfield 11, 3) := by decide +kernel
theorem dX12_spreads_15 : decode cX12_spreads 15 = .ok (.iconst 1, 1) := by decide +kernel
theorem dX12_spreads_16 : decode cX12_spreads 16 = .ok (.iaload, 1) := by decide +kernel
theorem dX12_spreads_17 : decode cX12_spreads 17 = .ok (.if_icmp .ge 211, 3) := by decide +kernel
theorem dX12_spreads_20 : decode cX12_spreads 20 = .ok (.aload_n 0, 1) := by decide +kernel
theorem dX12_spreads_21 : decode cX12_spreads 21 = .ok (.iload_n 2, 1) := by decide +kernel
theorem dX12_spreads_22 : decode cX12_spreads 22 = .ok (.invokevirtual 127, 3) := by decide +kernel
theorem dX12_spreads_25 : decode cX12_spreads 25 = .ok (.istore_n 3, 1) := by decide +kernel
theorem dX12_spreads_26 : decode cX12_spreads 26 = .ok (.aload_n 0, 1) := by decide +kernel
theorem dX12_spreads_27 : decode cX12_spreads 27 = .ok (.iload_n 2, 1) := by decide +kernel
theorem dX12_spreads_28 : decode cX12_spreads 28 = .ok (.invokevirtual 121, 3) := by decide +kernel
theorem dX12_spreads_31 : decode cX12_spreads 31 = .ok (.istore 4, 2) := by decide +kernel
theorem dX12_spreads_33 : decode cX12_spreads 33 = .ok (.aload_n 0, 1) := by decide +kernel
theorem dX12_spreads_34 : decode cX12_spreads 34 = .ok (.iload_n 2, 1) := by decide +kernel
theorem dX12_spreads_35 : decode cX12_spreads 35 = .ok (.invokevirtual 73, 3) := by decide +kernel
theorem dX12_spreads_38 : decode cX12_spreads 38 = .ok (.ifCond .ne 6, 3) := by decide +kernel
theorem dX12_spreads_41 : decode cX12_spreads 41 = .ok (.goto 181, 3) := by decide +kernel
theorem dX12_spreads_44 : decode cX12_spreads 44 = .ok (.aload_n 0, 1) := by decide +kernel
theorem dX12_spreads_45 : decode cX12_spreads 45 = .ok (.getfield 27, 3) := by decide +kernel
theorem dX12_spreads_48 : decode cX12_spreads 48 = .ok (.iload_n 3, 1) := by decide +kernel
theorem dX12_spreads_49 : decode cX12_spreads 49 = .ok (.laload, 1) := by decide +kernel
theorem dX12_spreads_50 : decode cX12_spreads 50 = .ok (.lconst 0, 1) := by decide +kernel
theorem dX12_spreads_51 : decode cX12_spreads 51 = .ok (.lcmp, 1) := by decide +kernel
theorem dX12_spreads_52 : decode cX12_spreads 52 = .ok (.ifCond .le 51, 3) := by decide +kernel
theorem dX12_spreads_55 : decode cX12_spreads 55 = .ok (.aload_n 0, 1) := by decide +kernel
theorem dX12_spreads_56 : decode cX12_spreads 56 = .ok (.getfield 27, 3) := by decide +kernel
theorem dX12_spreads_59 : decode cX12_spreads 59 = .ok (.iload 4, 2) := by decide +kernel
theorem dX12_spreads_61 : decode cX12_spreads 61 = .ok (.laload, 1) := by decide +kernel
theorem dX12_spreads_62 : decode cX12_spreads 62 = .ok (.lconst 0, 1) := by decide +kernel
theorem dX12_spreads_63 : decode cX12_spreads 63 = .ok (.lcmp, 1) := by decide +kernel
theorem dX12_spreads_64 : decode cX12_spreads 64 = .ok (.ifCond .ne 39, 3) := by decide +kernel
theorem dX12_spreads_67 : decode cX12_spreads 67 = .ok (.aload_n 0, 1) := by decide +kernel
theorem dX12_spreads_68 : decode cX12_spreads 68 = .ok (.iload 4, 2) := by decide +kernel
theorem dX12_spreads_70 : decode cX12_spreads 70 = .ok (.aload_n 0, 1) := by decide +kernel
theorem dX12_spreads_71 : decode cX12_spreads 71 = .ok (.getfield 27, 3) := by decide +kernel
theorem dX12_spreads_74 : decode cX12_spreads 74 = .ok (.iload_n 3, 1) := by decide +kernel
theorem dX12_spreads_75 : decode cX12_spreads 75 = .ok (.laload, 1) := by decide +kernel
theorem dX12_spreads_76 : decode cX12_spreads 76 = .ok (.aload_n 0, 1) := by decide +kernel
theorem dX12_spreads_77 : decode cX12_spreads 77 = .ok (.iload_n 2, 1) := by decide +kernel
theorem dX12_spreads_78 : decode cX12_spreads 78 = .ok (.invokevirtual 130, 3) := by decide +kernel
theorem dX12_spreads_81 : decode cX12_spreads 81 = .ok (.i2l, 1) := by decide +kernel
theorem dX12_spreads_82 : decode cX12_spreads 82 = .ok (.lmul, 1) := by decide +kernel
theorem dX12_spreads_83 : decode cX12_spreads 83 = .ok (.aload_n 0, 1) := by decide +kernel
theorem dX12_spreads_84 : decode cX12_spreads 84 = .ok (.getfield 31, 3) := by decide +kernel
theorem dX12_spreads_87 : decode cX12_spreads 87 = .ok (.iload_n 3, 1) := by decide +kernel
theorem dX12_spreads_88 : decode cX12_spreads 88 = .ok (.laload, 1) := by decide +kernel
theorem dX12_spreads_89 : decode cX12_spreads 89 = .ok (.aload_n 0, 1) := by decide +kernel
theorem dX12_spreads_90 : decode cX12_spreads 90 = .ok (.iload_n 2, 1) := by decide +kernel
theorem dX12_spreads_91 : decode cX12_spreads 91 = .ok (.invokevirtual 124, 3) := by decide +kernel
theorem dX12_spreads_94 : decode cX12_spreads 94 = .ok (.i2l, 1) := by decide +kernel
theorem dX12_spreads_95 : decode cX12_spreads 95 = .ok (.lmul, 1) := by decide +kernel
theorem dX12_spreads_96 : decode cX12_spreads 96 = .ok (.invokevirtual 175, 3) := by decide +kernel
theorem dX12_spreads_99 : decode cX12_spreads 99 = .ok (.istore_n 1, 1) := by decide +kernel
theorem dX12_spreads_100 : decode cX12_spreads 100 = .ok (.goto 122, 3) := by decide +kernel
theorem dX12_spreads_103 : decode cX12_spreads 103 = .ok (.aload_n 0, 1) := by decide +kernel
theorem dX12_spreads_104 : decode cX12_spreads 104 = .ok (.getfield 27, 3) := by decide +kernel
theorem dX12_spreads_107 : decode cX12_spreads 107 = .ok (.iload 4, 2) := by decide +kernel
theorem dX12_spreads_109 : decode cX12_spreads 109 = .ok (.laload, 1) := by decide +kernel
theorem dX12_spreads_110 : decode cX12_spreads 110 = .ok (.lconst 0, 1) := by decide +kernel
theorem dX12_spreads_111 : decode cX12_spreads 111 = .ok (.lcmp, 1) := by decide +kernel
theorem dX12_spreads_112 : decode cX12_spreads 112 = .ok (.ifCond .le 51, 3) := by decide +kernel
theorem dX12_spreads_115 : decode cX12_spreads 115 = .ok (.aload_n 0, 1) := by decide +kernel
theorem dX12_spreads_116 : decode cX12_spreads 116 = .ok (.getfield 27, 3) := by decide +kernel
theorem dX12_spreads_119 : decode cX12_spreads 119 = .ok (.iload_n 3, 1) := by decide +kernel
theorem dX12_spreads_120 : decode cX12_spreads 120 = .ok (.laload, 1) := by decide +kernel
theorem dX12_spreads_121 : decode cX12_spreads 121 = .ok (.lconst 0, 1) := by decide +kernel
theorem dX12_spreads_122 : decode cX12_spreads 122 = .ok (.lcmp, 1) := by decide +kernel
theorem dX12_spreads_123 : decode cX12_spreads 123 = .ok (.ifCond .ne 40, 3) := by decide +kernel
theorem dX12_spreads_126 : decode cX12_spreads 126 = .ok (.aload_n 0, 1) := by decide +kernel
theorem dX12_spreads_127 : decode cX12_spreads 127 = .ok (.iload_n 3, 1) := by decide +kernel
theorem dX12_spreads_128 : decode cX12_spreads 128 = .ok (.aload_n 0, 1) := by decide +kernel
theorem dX12_spreads_129 : decode cX12_spreads 129 = .ok (.getfield 27, 3) := by decide +kernel
theorem dX12_spreads_132 : decode cX12_spreads 132 = .ok (.iload 4, 2) := by decide +kernel
theorem dX12_spreads_134 : decode cX12_spreads 134 = .ok (.laload, 1) := by decide +kernel
theorem dX12_spreads_135 : decode cX12_spreads 135 = .ok (.aload_n 0, 1) := by decide +kernel
theorem dX12_spreads_136 : decode cX12_spreads 136 = .ok (.iload_n 2, 1) := by decide +kernel
theorem dX12_spreads_137 : decode cX12_spreads 137 = .ok (.invokevirtual 124, 3) := by decide +kernel
theorem dX12_spreads_140 : decode cX12_spreads 140 = .ok (.i2l, 1) := by decide +kernel
theorem dX12_spreads_141 : decode cX12_spreads 141 = .ok (.lmul, 1) := by decide +kernel
theorem dX12_spreads_142 : decode cX12_spreads 142 = .ok (.aload_n 0, 1) := by decide +kernel
theorem dX12_spreads_143 : decode cX12_spreads 143 = .ok (.getfield 31, 3) := by decide +kernel
theorem dX12_spreads_146 : decode cX12_spreads 146 = .ok (.iload 4, 2) := by decide +kernel
theorem dX12_spreads_148 : decode cX12_spreads 148 = .ok (.laload, 1) := by decide +kernel
theorem dX12_spreads_149 : decode cX12_spreads 149 = .ok (.aload_n 0, 1) := by decide +kernel
theorem dX12_spreads_150 : decode cX12_spreads 150 = .ok (.iload_n 2, 1) := by decide +kernel
theorem dX12_spreads_151 : decode cX12_spreads 151 = .ok (.invokevirtual 130, 3) := by decide +kernel
theorem dX12_spreads_154 : decode cX12_spreads 154 = .ok (.i2l, 1) := by decide +kernel
theorem dX12_spreads_155 : decode cX12_spreads 155 = .ok (.lmul, 1) := by decide +kernel
theorem dX12_spreads_156 : decode cX12_spreads 156 = .ok (.invokevirtual 175, 3) := by decide +kernel
theorem dX12_spreads_159 : decode cX12_spreads 159 = .ok (.istore_n 1, 1) := by decide +kernel
theorem dX12_spreads_160 : decode cX12_spreads 160 = .ok (.goto 62, 3) := by decide +kernel
theorem dX12_spreads_163 : decode cX12_spreads 163 = .ok (.aload_n 0, 1) := by decide +kernel
theorem dX12_spreads_164 : decode cX12_spreads 164 = .ok (.getfield 27, 3) := by decide +kernel
theorem dX12_spreads_167 : decode cX12_spreads 167 = .ok (.iload_n 3, 1) := by decide +kernel
theorem dX12_spreads_168 : decode cX12_spreads 168 = .ok (.laload, 1) := by decide +kernel
theorem dX12_spreads_169 : decode cX12_spreads 169 = .ok (.lconst 0, 1) := by decide +kernel
theorem dX12_spreads_170 : decode cX12_spreads 170 = .ok (.lcmp, 1) := by decide +kernel
theorem dX12_spreads_171 : decode cX12_spreads 171 = .ok (.ifCond .le 51, 3) := by decide +kernel
theorem dX12_spreads_174 : decode cX12_spreads 174 = .ok (.aload_n 0, 1) := by decide +kernel
theorem dX12_spreads_175 : decode cX12_spreads 175 = .ok (.getfield 27, 3) := by decide +kernel
theorem dX12_spreads_178 : decode cX12_spreads 178 = .ok (.iload_n 3, 1) := by decide +kernel
theorem dX12_spreads_179 : decode cX12_spreads 179 = .ok (.laload, 1) := by decide +kernel
theorem dX12_spreads_180 : decode cX12_spreads 180 = .ok (.aload_n 0, 1) := by decide +kernel
theorem dX12_spreads_181 : decode cX12_spreads 181 = .ok (.iload_n 2, 1) := by decide +kernel
theorem dX12_spreads_182 : decode cX12_spreads 182 = .ok (.invokevirtual 130, 3) := by decide +kernel
theorem dX12_spreads_185 : decode cX12_spreads 185 = .ok (.i2l, 1) := by decide +kernel
theorem dX12_spreads_186 : decode cX12_spreads 186 = .ok (.lmul, 1) := by decide +kernel
theorem dX12_spreads_187 : decode cX12_spreads 187 = .ok (.aload_n 0, 1) := by decide +kernel
theorem dX12_spreads_188 : decode cX12_spreads 188 = .ok (.getfield 31, 3) := by decide +kernel
theorem dX12_spreads_191 : decode cX12_spreads 191 = .ok (.iload 4, 2) := by decide +kernel
theorem dX12_spreads_193 : decode cX12_spreads 193 = .ok (.laload, 1) := by decide +kernel
theorem dX12_spreads_194 : decode cX12_spreads 194 = .ok (.lmul, 1) := by decide +kernel
theorem dX12_spreads_195 : decode cX12_spreads 195 = .ok (.aload_n 0, 1) := by decide +kernel
theorem dX12_spreads_196 : decode cX12_spreads 196 = .ok (.getfield 27, 3) := by decide +kernel
theorem dX12_spreads_199 : decode cX12_spreads 199 = .ok (.iload 4, 2) := by decide +kernel
theorem dX12_spreads_201 : decode cX12_spreads 201 = .ok (.laload, 1) := by decide +kernel
theorem dX12_spreads_202 : decode cX12_spreads 202 = .ok (.aload_n 0, 1) := by decide +kernel
theorem dX12_spreads_203 : decode cX12_spreads 203 = .ok (.iload_n 2, 1) := by decide +kernel
theorem dX12_spreads_204 : decode cX12_spreads 204 = .ok (.invokevirtual 124, 3) := by decide +kernel
theorem dX12_spreads_207 : decode cX12_spreads 207 = .ok (.i2l, 1) := by decide +kernel
theorem dX12_spreads_208 : decode cX12_spreads 208 = .ok (.lmul, 1) := by decide +kernel
theorem dX12_spreads_209 : decode cX12_spreads 209 = .ok (.aload_n 0, 1) := by decide +kernel
theorem dX12_spreads_210 : decode cX12_spreads 210 = .ok (.getfield 31, 3) := by decide +kernel
theorem dX12_spreads_213 : decode cX12_spreads 213 = .ok (.iload_n 3, 1) := by decide +kernel
theorem dX12_spreads_214 : decode cX12_spreads 214 = .ok (.laload, 1) := by decide +kernel
theorem dX12_spreads_215 : decode cX12_spreads 215 = .ok (.lmul, 1) := by decide +kernel
theorem dX12_spreads_216 : decode cX12_spreads 216 = .ok (.lcmp, 1) := by decide +kernel
theorem dX12_spreads_217 : decode cX12_spreads 217 = .ok (.ifCond .eq 5, 3) := by decide +kernel
theorem dX12_spreads_220 : decode cX12_spreads 220 = .ok (.iconst 0, 1) := by decide +kernel
theorem dX12_spreads_221 : decode cX12_spreads 221 = .ok (.ireturn, 1) := by decide +kernel
theorem dX12_spreads_222 : decode cX12_spreads 222 = .ok (.iinc 2 1, 3) := by decide +kernel
theorem dX12_spreads_225 : decode cX12_spreads 225 = .ok (.goto (-215), 3) := by decide +kernel
theorem dX12_spreads_228 : decode cX12_spreads 228 = .ok (.goto (-226), 3) := by decide +kernel
theorem dX12_spreads_231 : decode cX12_spreads 231 = .ok (.iconst 1, 1) := by decide +kernel
theorem dX12_spreads_232 : decode cX12_spreads 232 = .ok (.ireturn, 1) := by decide +kernel
theorem dX12_lotOf_0 : decode cX12_lotOf 0 = .ok (.iconst 1, 1) := by decide +kernel
theorem dX12_lotOf_1 : decode cX12_lotOf 1 = .ok (.iload_n 1, 1) := by decide +kernel
theorem dX12_lotOf_2 : decode cX12_lotOf 2 = .ok (.ishl, 1) := by decide +kernel
theorem dX12_lotOf_3 : decode cX12_lotOf 3 = .ok (.istore_n 2, 1) := by decide +kernel
theorem dX12_lotOf_4 : decode cX12_lotOf 4 = .ok (.iconst 0, 1) := by decide +kernel
theorem dX12_lotOf_5 : decode cX12_lotOf 5 = .ok (.istore_n 3, 1) := by decide +kernel
theorem dX12_lotOf_6 : decode cX12_lotOf 6 = .ok (.iload_n 3, 1) := by decide +kernel
theorem dX12_lotOf_7 : decode cX12_lotOf 7 = .ok (.bipush 6, 2) := by decide +kernel
theorem dX12_lotOf_9 : decode cX12_lotOf 9 = .ok (.if_icmp .ge 102, 3) := by decide +kernel
theorem dX12_lotOf_12 : decode cX12_lotOf 12 = .ok (.iconst 0, 1) := by decide +kernel
theorem dX12_lotOf_13 : decode cX12_lotOf 13 = .ok (.istore 4, 2) := by decide +kernel
theorem dX12_lotOf_15 : decode cX12_lotOf 15 = .ok (.iload 4, 2) := by decide +kernel
theorem dX12_lotOf_17 : decode cX12_lotOf 17 = .ok (.aload_n 0, 1) := by decide +kernel
theorem dX12_lotOf_18 : decode cX12_lotOf 18 = .ok (.getfield 11, 3) := by decide +kernel
theorem dX12_lotOf_21 : decode cX12_lotOf 21 = .ok (.iconst 1, 1) := by decide +kernel
theorem dX12_lotOf_22 : decode cX12_lotOf 22 = .ok (.iaload, 1) := by decide +kernel
theorem dX12_lotOf_23 : decode cX12_lotOf 23 = .ok (.if_icmp .ge 82, 3) := by decide +kernel
theorem dX12_lotOf_26 : decode cX12_lotOf 26 = .ok (.aload_n 0, 1) := by decide +kernel
theorem dX12_lotOf_27 : decode cX12_lotOf 27 = .ok (.iload 4, 2) := by decide +kernel
theorem dX12_lotOf_29 : decode cX12_lotOf 29 = .ok (.invokevirtual 73, 3) := by decide +kernel
theorem dX12_lotOf_32 : decode cX12_lotOf 32 = .ok (.ifCond .eq 35, 3) := by decide +kernel
theorem dX12_lotOf_35 : decode cX12_lotOf 35 = .ok (.iload_n 2, 1) := by decide +kernel
theorem dX12_lotOf_36 : decode cX12_lotOf 36 = .ok (.aload_n 0, 1) := by decide +kernel
theorem dX12_lotOf_37 : decode cX12_lotOf 37 = .ok (.iload 4, 2) := by decide +kernel
theorem dX12_lotOf_39 : decode cX12_lotOf 39 = .ok (.invokevirtual 127, 3) := by decide +kernel
theorem dX12_lotOf_42 : decode cX12_lotOf 42 = .ok (.ishr, 1) := by decide +kernel
theorem dX12_lotOf_43 : decode cX12_lotOf 43 = .ok (.iconst 1, 1) := by decide +kernel
theorem dX12_lotOf_44 : decode cX12_lotOf 44 = .ok (.iand, 1) := by decide +kernel
theorem dX12_lotOf_45 : decode cX12_lotOf 45 = .ok (.iconst 1, 1) := by decide +kernel
theorem dX12_lotOf_46 : decode cX12_lotOf 46 = .ok (.if_icmp .eq 17, 3) := by decide +kernel
theorem dX12_lotOf_49 : decode cX12_lotOf 49 = .ok (.iload_n 2, 1) := by decide +kernel
theorem dX12_lotOf_50 : decode cX12_lotOf 50 = .ok (.aload_n 0, 1) := by decide +kernel
theorem dX12_lotOf_51 : decode cX12_lotOf 51 = .ok (.iload 4, 2) := by decide +kernel
theorem dX12_lotOf_53 : decode cX12_lotOf 53 = .ok (.invokevirtual 121, 3) := by decide +kernel
theorem dX12_lotOf_56 : decode cX12_lotOf 56 = .ok (.ishr, 1) := by decide +kernel
theorem dX12_lotOf_57 : decode cX12_lotOf 57 = .ok (.iconst 1, 1) := by decide +kernel
theorem dX12_lotOf_58 : decode cX12_lotOf 58 = .ok (.iand, 1) := by decide +kernel
theorem dX12_lotOf_59 : decode cX12_lotOf 59 = .ok (.iconst 1, 1) := by decide +kernel
theorem dX12_lotOf_60 : decode cX12_lotOf 60 = .ok (.if_icmp .ne 7, 3) := by decide +kernel
theorem dX12_lotOf_63 : decode cX12_lotOf 63 = .ok (.iconst 1, 1) := by decide +kernel
theorem dX12_lotOf_64 : decode cX12_lotOf 64 = .ok (.goto 4, 3) := by decide +kernel
theorem dX12_lotOf_67 : decode cX12_lotOf 67 = .ok (.iconst 0, 1) := by decide +kernel
theorem dX12_lotOf_68 : decode cX12_lotOf 68 = .ok (.istore 5, 2) := by decide +kernel
theorem dX12_lotOf_70 : decode cX12_lotOf 70 = .ok (.iload_n 2, 1) := by decide +kernel
theorem dX12_lotOf_71 : decode cX12_lotOf 71 = .ok (.iload 5, 2) := by decide +kernel
theorem dX12_lotOf_73 : decode cX12_lotOf 73 = .ok (.ifCond .eq 23, 3) := by decide +kernel
theorem dX12_lotOf_76 : decode cX12_lotOf 76 = .ok (.iconst 1, 1) := by decide +kernel
theorem dX12_lotOf_77 : decode cX12_lotOf 77 = .ok (.aload_n 0, 1) := by decide +kernel
theorem dX12_lotOf_78 : decode cX12_lotOf 78 = .ok (.iload 4, 2) := by decide +kernel
theorem dX12_lotOf_80 : decode cX12_lotOf 80 = .ok (.invokevirtual 127, 3) := by decide +kernel
theorem dX12_lotOf_83 : decode cX12_lotOf 83 = .ok (.ishl, 1) := by decide +kernel
theorem dX12_lotOf_84 : decode cX12_lotOf 84 = .ok (.iconst 1, 1) := by decide +kernel
theorem dX12_lotOf_85 : decode cX12_lotOf 85 = .ok (.aload_n 0, 1) := by decide +kernel
theorem dX12_lotOf_86 : decode cX12_lotOf 86 = .ok (.iload 4, 2) := by decide +kernel
theorem dX12_lotOf_88 : decode cX12_lotOf 88 = .ok (.invokevirtual 121, 3) := by decide +kernel
theorem dX12_lotOf_91 : decode cX12_lotOf 91 = .ok (.ishl, 1) := by decide +kernel
theorem dX12_lotOf_92 : decode cX12_lotOf 92 = .ok (.ior, 1) := by decide +kernel
theorem dX12_lotOf_93 : decode cX12_lotOf 93 = .ok (.goto 4, 3) := by decide +kernel
theorem dX12_lotOf_96 : decode cX12_lotOf 96 = .ok (.iconst 0, 1) := by decide +kernel
theorem dX12_lotOf_97 : decode cX12_lotOf 97 = .ok (.ior, 1) := by decide +kernel
theorem dX12_lotOf_98 : decode cX12_lotOf 98 = .ok (.istore_n 2, 1) := by decide +kernel
theorem dX12_lotOf_99 : decode cX12_lotOf 99 = .ok (.iinc 4 1, 3) := by decide +kernel
theorem dX12_lotOf_102 : decode cX12_lotOf 102 = .ok (.goto (-87), 3) := by decide +kernel
theorem dX12_lotOf_105 : decode cX12_lotOf 105 = .ok (.iinc 3 1, 3) := by decide +kernel
theorem dX12_lotOf_108 : decode cX12_lotOf 108 = .ok (.goto (-102), 3) := by decide +kernel
theorem dX12_lotOf_111 : decode cX12_lotOf 111 = .ok (.iload_n 2, 1) := by decide +kernel
theorem dX12_lotOf_112 : decode cX12_lotOf 112 = .ok (.ireturn, 1) := by decide +kernel
theorem dX12_isEven_0 : decode cX12_isEven 0 = .ok (.iconst 0, 1) := by decide +kernel
theorem dX12_isEven_1 : decode cX12_isEven 1 = .ok (.istore_n 1, 1) := by decide +kernel
theorem dX12_isEven_2 : decode cX12_isEven 2 = .ok (.iload_n 1, 1) := by decide +kernel
theorem dX12_isEven_3 : decode cX12_isEven 3 = .ok (.bipush 6, 2) := by decide +kernel
theorem dX12_isEven_5 : decode cX12_isEven 5 = .ok (.if_icmp .ge 16, 3) := by decide +kernel
theorem dX12_isEven_8 : decode cX12_isEven 8 = .ok (.aload_n 0, 1) := by decide +kernel
theorem dX12_isEven_9 : decode cX12_isEven 9 = .ok (.getfield 27, 3) := by decide +kernel
theorem dX12_isEven_12 : decode cX12_isEven 12 = .ok (.iload_n 1, 1) := by decide +kernel
theorem dX12_isEven_13 : decode cX12_isEven 13 = .ok (.lconst 0, 1) := by decide +kernel
theorem dX12_isEven_14 : decode cX12_isEven 14 = .ok (.lastore, 1) := by decide +kernel
theorem dX12_isEven_15 : decode cX12_isEven 15 = .ok (.iinc 1 1, 3) := by decide +kernel
theorem dX12_isEven_18 : decode cX12_isEven 18 = .ok (.goto (-16), 3) := by decide +kernel
theorem dX12_isEven_21 : decode cX12_isEven 21 = .ok (.iconst 0, 1) := by decide +kernel
theorem dX12_isEven_22 : decode cX12_isEven 22 = .ok (.istore_n 1, 1) := by decide +kernel
theorem dX12_isEven_23 : decode cX12_isEven 23 = .ok (.iload_n 1, 1) := by decide +kernel
theorem dX12_isEven_24 : decode cX12_isEven 24 = .ok (.aload_n 0, 1) := by decide +kernel
theorem dX12_isEven_25 : decode cX12_isEven 25 = .ok (.getfield 11, 3) := by decide +kernel
theorem dX12_isEven_28 : decode cX12_isEven 28 = .ok (.iconst 0, 1) := by decide +kernel
theorem dX12_isEven_29 : decode cX12_isEven 29 = .ok (.iaload, 1) := by decide +kernel
theorem dX12_isEven_30 : decode cX12_isEven 30 = .ok (.if_icmp .ge 55, 3) := by decide +kernel
theorem dX12_isEven_33 : decode cX12_isEven 33 = .ok (.aload_n 0, 1) := by decide +kernel
theorem dX12_isEven_34 : decode cX12_isEven 34 = .ok (.getfield 27, 3) := by decide +kernel
theorem dX12_isEven_37 : decode cX12_isEven 37 = .ok (.iload_n 1, 1) := by decide +kernel
theorem dX12_isEven_38 : decode cX12_isEven 38 = .ok (.laload, 1) := by decide +kernel
theorem dX12_isEven_39 : decode cX12_isEven 39 = .ok (.lconst 0, 1) := by decide +kernel
theorem dX12_isEven_40 : decode cX12_isEven 40 = .ok (.lcmp, 1) := by decide +kernel
theorem dX12_isEven_41 : decode cX12_isEven 41 = .ok (.ifCond .ne 38, 3) := by decide +kernel
theorem dX12_isEven_44 : decode cX12_isEven 44 = .ok (.aload_n 0, 1) := by decide +kernel
theorem dX12_isEven_45 : decode cX12_isEven 45 = .ok (.getfield 27, 3) := by decide +kernel
theorem dX12_isEven_48 : decode cX12_isEven 48 = .ok (.iload_n 1, 1) := by decide +kernel
theorem dX12_isEven_49 : decode cX12_isEven 49 = .ok (.lconst 1, 1) := by decide +kernel
theorem dX12_isEven_50 : decode cX12_isEven 50 = .ok (.lastore, 1) := by decide +kernel
theorem dX12_isEven_51 : decode cX12_isEven 51 = .ok (.aload_n 0, 1) := by decide +kernel
theorem dX12_isEven_52 : decode cX12_isEven 52 = .ok (.getfield 31, 3) := by decide +kernel
theorem dX12_isEven_55 : decode cX12_isEven 55 = .ok (.iload_n 1, 1) := by decide +kernel
theorem dX12_isEven_56 : decode cX12_isEven 56 = .ok (.lconst 1, 1) := by decide +kernel
theorem dX12_isEven_57 : decode cX12_isEven 57 = .ok (.lastore, 1) := by decide +kernel
theorem dX12_isEven_58 : decode cX12_isEven 58 = .ok (.aload_n 0, 1) := by decide +kernel
theorem dX12_isEven_59 : decode cX12_isEven 59 = .ok (.invokevirtual 179, 3) := by decide +kernel
theorem dX12_isEven_62 : decode cX12_isEven 62 = .ok (.ifCond .eq 15, 3) := by decide +kernel
theorem dX12_isEven_65 : decode cX12_isEven 65 = .ok (.aload_n 0, 1) := by decide +kernel
theorem dX12_isEven_66 : decode cX12_isEven 66 = .ok (.aload_n 0, 1) := by decide +kernel
theorem dX12_isEven_67 : decode cX12_isEven 67 = .ok (.iload_n 1, 1) := by decide +kernel
theorem dX12_isEven_68 : decode cX12_isEven 68 = .ok (.invokevirtual 182, 3) := by decide +kernel
theorem dX12_isEven_71 : decode cX12_isEven 71 = .ok (.invokevirtual 185, 3) := by decide +kernel
theorem dX12_isEven_74 : decode cX12_isEven 74 = .ok (.ifCond .ne 5, 3) := by decide +kernel
theorem dX12_isEven_77 : decode cX12_isEven 77 = .ok (.iconst 0, 1) := by decide +kernel
theorem dX12_isEven_78 : decode cX12_isEven 78 = .ok (.ireturn, 1) := by decide +kernel
theorem dX12_isEven_79 : decode cX12_isEven 79 = .ok (.iinc 1 1, 3) := by decide +kernel
theorem dX12_isEven_82 : decode cX12_isEven 82 = .ok (.goto (-59), 3) := by decide +kernel
theorem dX12_isEven_85 : decode cX12_isEven 85 = .ok (.iconst 1, 1) := by decide +kernel
theorem dX12_isEven_86 : decode cX12_isEven 86 = .ok (.ireturn, 1) := by decide +kernel
theorem dX12_isWhole_0 : decode cX12_isWhole 0 = .ok (.lconst 1, 1) := by decide +kernel
theorem dX12_isWhole_1 : decode cX12_isWhole 1 = .ok (.lstore_n 2, 1) := by decide +kernel
theorem dX12_isWhole_2 : decode cX12_isWhole 2 = .ok (.iconst 0, 1) := by decide +kernel
theorem dX12_isWhole_3 : decode cX12_isWhole 3 = .ok (.istore 4, 2) := by decide +kernel
theorem dX12_isWhole_5 : decode cX12_isWhole 5 = .ok (.iload 4, 2) := by decide +kernel
theorem dX12_isWhole_7 : decode cX12_isWhole 7 = .ok (.bipush 6, 2) := by decide +kernel
theorem dX12_isWhole_9 : decode cX12_isWhole 9 = .ok (.if_icmp .ge 45, 3) := by decide +kernel
theorem dX12_isWhole_12 : decode cX12_isWhole 12 = .ok (.iload_n 1, 1) := by decide +kernel
theorem dX12_isWhole_13 : decode cX12_isWhole 13 = .ok (.iload 4, 2) := by decide +kernel
theorem dX12_isWhole_15 : decode cX12_isWhole 15 = .ok (.ishr, 1) := by decide +kernel
theorem dX12_isWhole_16 : decode cX12_isWhole 16 = .ok (.iconst 1, 1) := by decide +kernel
theorem dX12_isWhole_17 : decode cX12_isWhole 17 = .ok (.iand, 1) := by decide +kernel
theorem dX12_isWhole_18 : decode cX12_isWhole 18 = .ok (.iconst 1, 1) := by decide +kernel
theorem dX12_isWhole_19 : decode cX12_isWhole 19 = .ok (.if_icmp .ne 27, 3) := by decide +kernel
theorem dX12_isWhole_22 : decode cX12_isWhole 22 = .ok (.lload_n 2, 1) := by decide +kernel
theorem dX12_isWhole_23 : decode cX12_isWhole 23 = .ok (.lload_n 2, 1) := by decide +kernel
theorem dX12_isWhole_24 : decode cX12_isWhole 24 = .ok (.aload_n 0, 1) := by decide +kernel
theorem dX12_isWhole_25 : decode cX12_isWhole 25 = .ok (.getfield 31, 3) := by decide +kernel
theorem dX12_isWhole_28 : decode cX12_isWhole 28 = .ok (.iload 4, 2) := by decide +kernel
theorem dX12_isWhole_30 : decode cX12_isWhole 30 = .ok (.laload, 1) := by decide +kernel
theorem dX12_isWhole_31 : decode cX12_isWhole 31 = .ok (.invokestatic 171, 3) := by decide +kernel
theorem dX12_isWhole_34 : decode cX12_isWhole 34 = .ok (.ldiv, 1) := by decide +kernel
theorem dX12_isWhole_35 : decode cX12_isWhole 35 = .ok (.aload_n 0, 1) := by decide +kernel
theorem dX12_isWhole_36 : decode cX12_isWhole 36 = .ok (.getfield 31, 3) := by decide +kernel
theorem dX12_isWhole_39 : decode cX12_isWhole 39 = .ok (.iload 4, 2) := by decide +kernel
theorem dX12_isWhole_41 : decode cX12_isWhole 41 = .ok (.laload, 1) := by decide +kernel
theorem dX12_isWhole_42 : decode cX12_isWhole 42 = .ok (.lmul, 1) := by decide +kernel
theorem dX12_isWhole_43 : decode cX12_isWhole 43 = .ok (.goto 4, 3) := by decide +kernel
theorem dX12_isWhole_46 : decode cX12_isWhole 46 = .ok (.lload_n 2, 1) := by decide +kernel
theorem dX12_isWhole_47 : decode cX12_isWhole 47 = .ok (.lstore_n 2, 1) := by decide +kernel
theorem dX12_isWhole_48 : decode cX12_isWhole 48 = .ok (.iinc 4 1, 3) := by decide +kernel
theorem dX12_isWhole_51 : decode cX12_isWhole 51 = .ok (.goto (-46), 3) := by decide +kernel
theorem dX12_isWhole_54 : decode cX12_isWhole 54 = .ok (.lconst 0, 1) := by decide +kernel
theorem dX12_isWhole_55 : decode cX12_isWhole 55 = .ok (.lstore 4, 2) := by decide +kernel
theorem dX12_isWhole_57 : decode cX12_isWhole 57 = .ok (.iconst 0, 1) := by decide +kernel
theorem dX12_isWhole_58 : decode cX12_isWhole 58 = .ok (.istore 6, 2) := by decide +kernel
theorem dX12_isWhole_60 : decode cX12_isWhole 60 = .ok (.iload 6, 2) := by decide +kernel
theorem dX12_isWhole_62 : decode cX12_isWhole 62 = .ok (.bipush 6, 2) := by decide +kernel
theorem dX12_isWhole_64 : decode cX12_isWhole 64 = .ok (.if_icmp .ge 48, 3) := by decide +kernel
theorem dX12_isWhole_67 : decode cX12_isWhole 67 = .ok (.iload_n 1, 1) := by decide +kernel
theorem dX12_isWhole_68 : decode cX12_isWhole 68 = .ok (.iload 6, 2) := by decide +kernel
theorem dX12_isWhole_70 : decode cX12_isWhole 70 = .ok (.ishr, 1) := by decide +kernel
theorem dX12_isWhole_71 : decode cX12_isWhole 71 = .ok (.iconst 1, 1) := by decide +kernel
theorem dX12_isWhole_72 : decode cX12_isWhole 72 = .ok (.iand, 1) := by decide +kernel
theorem dX12_isWhole_73 : decode cX12_isWhole 73 = .ok (.iconst 1, 1) := by decide +kernel
theorem dX12_isWhole_74 : decode cX12_isWhole 74 = .ok (.if_icmp .ne 28, 3) := by decide +kernel
theorem dX12_isWhole_77 : decode cX12_isWhole 77 = .ok (.lload_n 2, 1) := by decide +kernel
theorem dX12_isWhole_78 : decode cX12_isWhole 78 = .ok (.aload_n 0, 1) := by decide +kernel
theorem dX12_isWhole_79 : decode cX12_isWhole 79 = .ok (.getfield 31, 3) := by decide +kernel
theorem dX12_isWhole_82 : decode cX12_isWhole 82 = .ok (.iload 6, 2) := by decide +kernel
theorem dX12_isWhole_84 : decode cX12_isWhole 84 = .ok (.laload, 1) := by decide +kernel
theorem dX12_isWhole_85 : decode cX12_isWhole 85 = .ok (.ldiv, 1) := by decide +kernel
theorem dX12_isWhole_86 : decode cX12_isWhole 86 = .ok (.aload_n 0, 1) := by decide +kernel
theorem dX12_isWhole_87 : decode cX12_isWhole 87 = .ok (.getfield 27, 3) := by decide +kernel
theorem dX12_isWhole_90 : decode cX12_isWhole 90 = .ok (.iload 6, 2) := by decide +kernel
theorem dX12_isWhole_92 : decode cX12_isWhole 92 = .ok (.laload, 1) := by decide +kernel
theorem dX12_isWhole_93 : decode cX12_isWhole 93 = .ok (.lmul, 1) := by decide +kernel
theorem dX12_isWhole_94 : decode cX12_isWhole 94 = .ok (.lload 4, 2) := by decide +kernel
theorem dX12_isWhole_96 : decode cX12_isWhole 96 = .ok (.invokestatic 171, 3) := by decide +kernel
theorem dX12_isWhole_99 : decode cX12_isWhole 99 = .ok (.goto 5, 3) := by decide +kernel
theorem dX12_isWhole_102 : decode cX12_isWhole 102 = .ok (.lload 4, 2) := by decide +kernel
theorem dX12_isWhole_104 : decode cX12_isWhole 104 = .ok (.lstore 4, 2) := by decide +kernel
theorem dX12_isWhole_106 : decode cX12_isWhole 106 = .ok (.iinc 6 1, 3) := by decide +kernel
theorem dX12_isWhole_109 : decode cX12_isWhole 109 = .ok (.goto (-49), 3) := by decide +kernel
theorem dX12_isWhole_112 : decode cX12_isWhole 112 = .ok (.iconst 1, 1) := by decide +kernel
theorem dX12_isWhole_113 : decode cX12_isWhole 113 = .ok (.istore 6, 2) := by decide +kernel
theorem dX12_isWhole_115 : decode cX12_isWhole 115 = .ok (.iconst 0, 1) := by decide +kernel
theorem dX12_isWhole_116 : decode cX12_isWhole 116 = .ok (.istore 7, 2) := by decide +kernel
theorem dX12_isWhole_118 : decode cX12_isWhole 118 = .ok (.iload 7, 2) := by decide +kernel
theorem dX12_isWhole_120 : decode cX12_isWhole 120 = .ok (.bipush 6, 2) := by decide +kernel
theorem dX12_isWhole_122 : decode cX12_isWhole 122 = .ok (.if_icmp .ge 78, 3) := by decide +kernel
theorem dX12_isWhole_125 : decode cX12_isWhole 125 = .ok (.iload_n 1, 1) := by decide +kernel
theorem dX12_isWhole_126 : decode cX12_isWhole 126 = .ok (.iload 7, 2) := by decide +kernel
theorem dX12_isWhole_128 : decode cX12_isWhole 128 = .ok (.ishr, 1) := by decide +kernel
theorem dX12_isWhole_129 : decode cX12_isWhole 129 = .ok (.iconst 1, 1) := by decide +kernel
theorem dX12_isWhole_130 : decode cX12_isWhole 130 = .ok (.iand, 1) := by decide +kernel
theorem dX12_isWhole_131 : decode cX12_isWhole 131 = .ok (.iconst 1, 1) := by decide +kernel
theorem dX12_isWhole_132 : decode cX12_isWhole 132 = .ok (.if_icmp .ne 62, 3) := by decide +kernel
theorem dX12_isWhole_135 : decode cX12_isWhole 135 = .ok (.lload_n 2, 1) := by decide +kernel
theorem dX12_isWhole_136 : decode cX12_isWhole 136 = .ok (.aload_n 0, 1) := by decide +kernel
theorem dX12_isWhole_137 : decode cX12_isWhole 137 = .ok (.getfield 31, 3) := by decide +kernel
theorem dX12_isWhole_140 : decode cX12_isWhole 140 = .ok (.iload 7, 2) := by decide +kernel
theorem dX12_isWhole_142 : decode cX12_isWhole 142 = .ok (.laload, 1) := by decide +kernel
theorem dX12_isWhole_143 : decode cX12_isWhole 143 = .ok (.ldiv, 1) := by decide +kernel
theorem dX12_isWhole_144 : decode cX12_isWhole 144 = .ok (.aload_n 0, 1) := by decide +kernel
theorem dX12_isWhole_145 : decode cX12_isWhole 145 = .ok (.getfield 27, 3) := by decide +kernel
theorem dX12_isWhole_148 : decode cX12_isWhole 148 = .ok (.iload 7, 2) := by decide +kernel
theorem dX12_isWhole_150 : decode cX12_isWhole 150 = .ok (.laload, 1) := by decide +kernel
theorem dX12_isWhole_151 : decode cX12_isWhole 151 = .ok (.lmul, 1) := by decide +kernel
theorem dX12_isWhole_152 : decode cX12_isWhole 152 = .ok (.lload 4, 2) := by decide +kernel
theorem dX12_isWhole_154 : decode cX12_isWhole 154 = .ok (.ldiv, 1) := by decide +kernel
theorem dX12_isWhole_155 : decode cX12_isWhole 155 = .ok (.lstore 8, 2) := by decide +kernel
theorem dX12_isWhole_157 : decode cX12_isWhole 157 = .ok (.iload 6, 2) := by decide +kernel
theorem dX12_isWhole_159 : decode cX12_isWhole 159 = .ok (.ifCond .eq 16, 3) := by decide +kernel
theorem dX12_isWhole_162 : decode cX12_isWhole 162 = .ok (.lload 8, 2) := by decide +kernel
theorem dX12_isWhole_164 : decode cX12_isWhole 164 = .ok (.ldc2_w 188, 3) := by decide +kernel
theorem dX12_isWhole_167 : decode cX12_isWhole 167 = .ok (.lcmp, 1) := by decide +kernel
theorem dX12_isWhole_168 : decode cX12_isWhole 168 = .ok (.ifCond .gt 7, 3) := by decide +kernel
theorem dX12_isWhole_171 : decode cX12_isWhole 171 = .ok (.iconst 1, 1) := by decide +kernel
theorem dX12_isWhole_172 : decode cX12_isWhole 172 = .ok (.goto 4, 3) := by decide +kernel
theorem dX12_isWhole_175 : decode cX12_isWhole 175 = .ok (.iconst 0, 1) := by decide +kernel
theorem dX12_isWhole_176 : decode cX12_isWhole 176 = .ok (.istore 6, 2) := by decide +kernel
theorem dX12_isWhole_178 : decode cX12_isWhole 178 = .ok (.aload_n 0, 1) := by decide +kernel
theorem dX12_isWhole_179 : decode cX12_isWhole 179 = .ok (.getfield 34, 3) := by decide +kernel
theorem dX12_isWhole_182 : decode cX12_isWhole 182 = .ok (.iload 7, 2) := by decide +kernel
theorem dX12_isWhole_184 : decode cX12_isWhole 184 = .ok (.lload 8, 2) := by decide +kernel
theorem dX12_isWhole_186 : decode cX12_isWhole 186 = .ok (.ldc2_w 190, 3) := by decide +kernel
theorem dX12_isWhole_189 : decode cX12_isWhole 189 = .ok (.invokestatic 192, 3) := by decide +kernel
theorem dX12_isWhole_192 : decode cX12_isWhole 192 = .ok (.l2i, 1) := by decide +kernel
theorem dX12_isWhole_193 : decode cX12_isWhole 193 = .ok (.iastore, 1) := by decide +kernel
theorem dX12_isWhole_194 : decode cX12_isWhole 194 = .ok (.iinc 7 1, 3) := by decide +kernel
theorem dX12_isWhole_197 : decode cX12_isWhole 197 = .ok (.goto (-79), 3) := by decide +kernel
theorem dX12_isWhole_200 : decode cX12_isWhole 200 = .ok (.iload 6, 2) := by decide +kernel
theorem dX12_isWhole_202 : decode cX12_isWhole 202 = .ok (.ireturn, 1) := by decide +kernel
theorem dX12_looksAtHeld_0 : decode cX12_looksAtHeld 0 = .ok (.iconst 0, 1) := by decide +kernel
theorem dX12_looksAtHeld_1 : decode cX12_looksAtHeld 1 = .ok (.istore_n 1, 1) := by decide +kernel
theorem dX12_looksAtHeld_2 : decode cX12_looksAtHeld 2 = .ok (.iload_n 1, 1) := by decide +kernel
theorem dX12_looksAtHeld_3 : decode cX12_looksAtHeld 3 = .ok (.aload_n 0, 1) := by decide +kernel
theorem dX12_looksAtHeld_4 : decode cX12_looksAtHeld 4 = .ok (.getfield 11, 3) := by decide +kernel
theorem dX12_looksAtHeld_7 : decode cX12_looksAtHeld 7 = .ok (.iconst 1, 1) := by decide +kernel
theorem dX12_looksAtHeld_8 : decode cX12_looksAtHeld 8 = .ok (.iaload, 1) := by decide +kernel
theorem dX12_looksAtHeld_9 : decode cX12_looksAtHeld 9 = .ok (.if_icmp .ge 41, 3) := by decide +kernel
theorem dX12_looksAtHeld_12 : decode cX12_looksAtHeld 12 = .ok (.aload_n 0, 1) := by decide +kernel
theorem dX12_looksAtHeld_13 : decode cX12_looksAtHeld 13 = .ok (.getfield 40, 3) := by decide +kernel
theorem dX12_looksAtHeld_16 : decode cX12_looksAtHeld 16 = .ok (.iload_n 1, 1) := by decide +kernel
theorem dX12_looksAtHeld_17 : decode cX12_looksAtHeld 17 = .ok (.aload_n 0, 1) := by decide +kernel
theorem dX12_looksAtHeld_18 : decode cX12_looksAtHeld 18 = .ok (.iload_n 1, 1) := by decide +kernel
theorem dX12_looksAtHeld_19 : decode cX12_looksAtHeld 19 = .ok (.invokevirtual 73, 3) := by decide +kernel
theorem dX12_looksAtHeld_22 : decode cX12_looksAtHeld 22 = .ok (.ifCond .eq 20, 3) := by decide +kernel
theorem dX12_looksAtHeld_25 : decode cX12_looksAtHeld 25 = .ok (.aload_n 0, 1) := by decide +kernel
theorem dX12_looksAtHeld_26 : decode cX12_looksAtHeld 26 = .ok (.getfield 40, 3) := by decide +kernel
theorem dX12_looksAtHeld_29 : decode cX12_looksAtHeld 29 = .ok (.iload_n 1, 1) := by decide +kernel
theorem dX12_looksAtHeld_30 : decode cX12_looksAtHeld 30 = .ok (.iaload, 1) := by decide +kernel
theorem dX12_looksAtHeld_31 : decode cX12_looksAtHeld 31 = .ok (.aload_n 0, 1) := by decide +kernel
theorem dX12_looksAtHeld_32 : decode cX12_looksAtHeld 32 = .ok (.iload_n 1, 1) := by decide +kernel
theorem dX12_looksAtHeld_33 : decode cX12_looksAtHeld 33 = .ok (.invokevirtual 76, 3) := by decide +kernel
theorem dX12_looksAtHeld_36 : decode cX12_looksAtHeld 36 = .ok (.invokestatic 142, 3) := by decide +kernel
theorem dX12_looksAtHeld_39 : decode cX12_looksAtHeld 39 = .ok (.goto 4, 3) := by decide +kernel
theorem dX12_looksAtHeld_42 : decode cX12_looksAtHeld 42 = .ok (.iconst 0, 1) := by decide +kernel
theorem dX12_looksAtHeld_43 : decode cX12_looksAtHeld 43 = .ok (.iastore, 1) := by decide +kernel
theorem dX12_looksAtHeld_44 : decode cX12_looksAtHeld 44 = .ok (.iinc 1 1, 3) := by decide +kernel
theorem dX12_looksAtHeld_47 : decode cX12_looksAtHeld 47 = .ok (.goto (-45), 3) := by decide +kernel
theorem dX12_looksAtHeld_50 : decode cX12_looksAtHeld 50 = .ok (.return_, 1) := by decide +kernel
theorem dX12_starts_0 : decode cX12_starts 0 = .ok (.iconst 0, 1) := by decide +kernel
theorem dX12_starts_1 : decode cX12_starts 1 = .ok (.istore_n 1, 1) := by decide +kernel
theorem dX12_starts_2 : decode cX12_starts 2 = .ok (.iload_n 1, 1) := by decide +kernel
theorem dX12_starts_3 : decode cX12_starts 3 = .ok (.bipush 6, 2) := by decide +kernel
theorem dX12_starts_5 : decode cX12_starts 5 = .ok (.if_icmp .ge 35, 3) := by decide +kernel
theorem dX12_starts_8 : decode cX12_starts 8 = .ok (.aload_n 0, 1) := by decide +kernel
theorem dX12_starts_9 : decode cX12_starts 9 = .ok (.getfield 37, 3) := by decide +kernel
theorem dX12_starts_12 : decode cX12_starts 12 = .ok (.iload_n 1, 1) := by decide +kernel
theorem dX12_starts_13 : decode cX12_starts 13 = .ok (.iload_n 1, 1) := by decide +kernel
theorem dX12_starts_14 : decode cX12_starts 14 = .ok (.aload_n 0, 1) := by decide +kernel
theorem dX12_starts_15 : decode cX12_starts 15 = .ok (.getfield 11, 3) := by decide +kernel
theorem dX12_starts_18 : decode cX12_starts 18 = .ok (.iconst 0, 1) := by decide +kernel
theorem dX12_starts_19 : decode cX12_starts 19 = .ok (.iaload, 1) := by decide +kernel
theorem dX12_starts_20 : decode cX12_starts 20 = .ok (.if_icmp .ge 12, 3) := by decide +kernel
theorem dX12_starts_23 : decode cX12_starts 23 = .ok (.aload_n 0, 1) := by decide +kernel
theorem dX12_starts_24 : decode cX12_starts 24 = .ok (.getfield 34, 3) := by decide +kernel
theorem dX12_starts_27 : decode cX12_starts 27 = .ok (.iload_n 1, 1) := by decide +kernel
theorem dX12_starts_28 : decode cX12_starts 28 = .ok (.iaload, 1) := by decide +kernel
theorem dX12_starts_29 : decode cX12_starts 29 = .ok (.goto 4, 3) := by decide +kernel
theorem dX12_starts_32 : decode cX12_starts 32 = .ok (.iconst 0, 1) := by decide +kernel
theorem dX12_starts_33 : decode cX12_starts 33 = .ok (.iastore, 1) := by decide +kernel
theorem dX12_starts_34 : decode cX12_starts 34 = .ok (.iinc 1 1, 3) := by decide +kernel
theorem dX12_starts_37 : decode cX12_starts 37 = .ok (.goto (-35), 3) := by decide +kernel
theorem dX12_starts_40 : decode cX12_starts 40 = .ok (.return_, 1) := by decide +kernel
theorem dX12_nextOne_0 : decode cX12_nextOne 0 = .ok (.iconst 0, 1) := by decide +kernel
theorem dX12_nextOne_1 : decode cX12_nextOne 1 = .ok (.istore_n 1, 1) := by decide +kernel
theorem dX12_nextOne_2 : decode cX12_nextOne 2 = .ok (.iload_n 1, 1) := by decide +kernel
theorem dX12_nextOne_3 : decode cX12_nextOne 3 = .ok (.aload_n 0, 1) := by decide +kernel
theorem dX12_nextOne_4 : decode cX12_nextOne 4 = .ok (.getfield 11, 3) := by decide +kernel
theorem dX12_nextOne_7 : decode cX12_nextOne 7 = .ok (.iconst 0, 1) := by decide +kernel
theorem dX12_nextOne_8 : decode cX12_nextOne 8 = .ok (.iaload, 1) := by decide +kernel
theorem dX12_nextOne_9 : decode cX12_nextOne 9 = .ok (.if_icmp .ge 28, 3) := by decide +kernel
theorem dX12_nextOne_12 : decode cX12_nextOne 12 = .ok (.aload_n 0, 1) := by decide +kernel
theorem dX12_nextOne_13 : decode cX12_nextOne 13 = .ok (.getfield 37, 3) := by decide +kernel
theorem dX12_nextOne_16 : decode cX12_nextOne 16 = .ok (.iload_n 1, 1) := by decide +kernel
theorem dX12_nextOne_17 : decode cX12_nextOne 17 = .ok (.iaload, 1) := by decide +kernel
theorem dX12_nextOne_18 : decode cX12_nextOne 18 = .ok (.ifCond .le 13, 3) := by decide +kernel
theorem dX12_nextOne_21 : decode cX12_nextOne 21 = .ok (.aload_n 0, 1) := by decide +kernel
theorem dX12_nextOne_22 : decode cX12_nextOne 22 = .ok (.iload_n 1, 1) := by decide +kernel
theorem dX12_nextOne_23 : decode cX12_nextOne 23 = .ok (.invokevirtual 163, 3) := by decide +kernel
theorem dX12_nextOne_26 : decode cX12_nextOne 26 = .ok (.ifCond .eq 5, 3) := by decide +kernel
theorem dX12_nextOne_29 : decode cX12_nextOne 29 = .ok (.iload_n 1, 1) := by decide +kernel
theorem dX12_nextOne_30 : decode cX12_nextOne 30 = .ok (.ireturn, 1) := by decide +kernel
theorem dX12_nextOne_31 : decode cX12_nextOne 31 = .ok (.iinc 1 1, 3) := by decide +kernel
theorem dX12_nextOne_34 : decode cX12_nextOne 34 = .ok (.goto (-32), 3) := by decide +kernel
theorem dX12_nextOne_37 : decode cX12_nextOne 37 = .ok (.iconst (-1), 1) := by decide +kernel
theorem dX12_nextOne_38 : decode cX12_nextOne 38 = .ok (.ireturn, 1) := by decide +kernel
theorem dX12_leftAll_0 : decode cX12_leftAll 0 = .ok (.iconst 0, 1) := by decide +kernel
theorem dX12_leftAll_1 : decode cX12_leftAll 1 = .ok (.istore_n 1, 1) := by decide +kernel
theorem dX12_leftAll_2 : decode cX12_leftAll 2 = .ok (.iconst 0, 1) := by decide +kernel
theorem dX12_leftAll_3 : decode cX12_leftAll 3 = .ok (.istore_n 2, 1) := by decide +kernel
theorem dX12_leftAll_4 : decode cX12_leftAll 4 = .ok (.iload_n 2, 1) := by decide +kernel
theorem dX12_leftAll_5 : decode cX12_leftAll 5 = .ok (.bipush 6, 2) := by decide +kernel
theorem dX12_leftAll_7 : decode cX12_leftAll 7 = .ok (.if_icmp .ge 18, 3) := by decide +kernel
theorem dX12_leftAll_10 : decode cX12_leftAll 10 = .ok (.iload_n 1, 1) := by decide +kernel
theorem dX12_leftAll_11 : decode cX12_leftAll 11 = .ok (.aload_n 0, 1) := by decide +kernel
theorem dX12_leftAll_12 : decode cX12_leftAll 12 = .ok (.getfield 37, 3) := by decide +kernel
theorem dX12_leftAll_15 : decode cX12_leftAll 15 = .ok (.iload_n 2, 1) := by decide +kernel
theorem dX12_leftAll_16 : decode cX12_leftAll 16 = .ok (.iaload, 1) := by decide +kernel
theorem dX12_leftAll_17 : decode cX12_leftAll 17 = .ok (.iadd, 1) := by decide +kernel
theorem dX12_leftAll_18 : decode cX12_leftAll 18 = .ok (.istore_n 1, 1) := by decide +kernel
theorem dX12_leftAll_19 : decode cX12_leftAll 19 = .ok (.iinc 2 1, 3) := by decide +kernel
theorem dX12_leftAll_22 : decode cX12_leftAll 22 = .ok (.goto (-18), 3) := by decide +kernel
theorem dX12_leftAll_25 : decode cX12_leftAll 25 = .ok (.iload_n 1, 1) := by decide +kernel
theorem dX12_leftAll_26 : decode cX12_leftAll 26 = .ok (.ireturn, 1) := by decide +kernel
theorem dX12_goes_0 : decode cX12_goes 0 = .ok (.aload_n 0, 1) := by decide +kernel
theorem dX12_goes_1 : decode cX12_goes 1 = .ok (.invokevirtual 194, 3) := by decide +kernel
theorem dX12_goes_4 : decode cX12_goes 4 = .ok (.aload_n 0, 1) := by decide +kernel
theorem dX12_goes_5 : decode cX12_goes 5 = .ok (.bipush (-5), 2) := by decide +kernel
theorem dX12_goes_7 : decode cX12_goes 7 = .ok (.putfield 197, 3) := by decide +kernel
theorem dX12_goes_10 : decode cX12_goes 10 = .ok (.iconst 0, 1) := by decide +kernel
theorem dX12_goes_11 : decode cX12_goes 11 = .ok (.istore_n 1, 1) := by decide +kernel
theorem dX12_goes_12 : decode cX12_goes 12 = .ok (.iload_n 1, 1) := by decide +kernel
theorem dX12_goes_13 : decode cX12_goes 13 = .ok (.bipush 8, 2) := by decide +kernel
theorem dX12_goes_15 : decode cX12_goes 15 = .ok (.if_icmp .ge 16, 3) := by decide +kernel
theorem dX12_goes_18 : decode cX12_goes 18 = .ok (.aload_n 0, 1) := by decide +kernel
theorem dX12_goes_19 : decode cX12_goes 19 = .ok (.getfield 40, 3) := by decide +kernel
theorem dX12_goes_22 : decode cX12_goes 22 = .ok (.iload_n 1, 1) := by decide +kernel
theorem dX12_goes_23 : decode cX12_goes 23 = .ok (.iconst 0, 1) := by decide +kernel
theorem dX12_goes_24 : decode cX12_goes 24 = .ok (.iastore, 1) := by decide +kernel
theorem dX12_goes_25 : decode cX12_goes 25 = .ok (.iinc 1 1, 3) := by decide +kernel
theorem dX12_goes_28 : decode cX12_goes 28 = .ok (.goto (-16), 3) := by decide +kernel
theorem dX12_goes_31 : decode cX12_goes 31 = .ok (.aload_n 0, 1) := by decide +kernel
theorem dX12_goes_32 : decode cX12_goes 32 = .ok (.invokevirtual 200, 3) := by decide +kernel
theorem dX12_goes_35 : decode cX12_goes 35 = .ok (.iconst 0, 1) := by decide +kernel
theorem dX12_goes_36 : decode cX12_goes 36 = .ok (.istore_n 1, 1) := by decide +kernel
theorem dX12_goes_37 : decode cX12_goes 37 = .ok (.aload_n 0, 1) := by decide +kernel
theorem dX12_goes_38 : decode cX12_goes 38 = .ok (.invokevirtual 203, 3) := by decide +kernel
theorem dX12_goes_41 : decode cX12_goes 41 = .ok (.istore_n 2, 1) := by decide +kernel
theorem dX12_goes_42 : decode cX12_goes 42 = .ok (.iload_n 2, 1) := by decide +kernel
theorem dX12_goes_43 : decode cX12_goes 43 = .ok (.ifCond .lt 54, 3) := by decide +kernel
theorem dX12_goes_46 : decode cX12_goes 46 = .ok (.aload_n 0, 1) := by decide +kernel
theorem dX12_goes_47 : decode cX12_goes 47 = .ok (.iload_n 2, 1) := by decide +kernel
theorem dX12_goes_48 : decode cX12_goes 48 = .ok (.invokevirtual 166, 3) := by decide +kernel
theorem dX12_goes_51 : decode cX12_goes 51 = .ok (.istore_n 3, 1) := by decide +kernel
theorem dX12_goes_52 : decode cX12_goes 52 = .ok (.aload_n 0, 1) := by decide +kernel
theorem dX12_goes_53 : decode cX12_goes 53 = .ok (.getfield 37, 3) := by decide +kernel
theorem dX12_goes_56 : decode cX12_goes 56 = .ok (.iload_n 2, 1) := by decide +kernel
theorem dX12_goes_57 : decode cX12_goes 57 = .ok (.dup2, 1) := by decide +kernel
theorem dX12_goes_58 : decode cX12_goes 58 = .ok (.iaload, 1) := by decide +kernel
theorem dX12_goes_59 : decode cX12_goes 59 = .ok (.iconst 1, 1) := by decide +kernel
theorem dX12_goes_60 : decode cX12_goes 60 = .ok (.isub, 1) := by decide +kernel
theorem dX12_goes_61 : decode cX12_goes 61 = .ok (.iastore, 1) := by decide +kernel
theorem dX12_goes_62 : decode cX12_goes 62 = .ok (.aload_n 0, 1) := by decide +kernel
theorem dX12_goes_63 : decode cX12_goes 63 = .ok (.iload_n 1, 1) := by decide +kernel
theorem dX12_goes_64 : decode cX12_goes 64 = .ok (.aload_n 0, 1) := by decide +kernel
theorem dX12_goes_65 : decode cX12_goes 65 = .ok (.getfield 207, 3) := by decide +kernel
theorem dX12_goes_68 : decode cX12_goes 68 = .ok (.if_icmp .ne 7, 3) := by decide +kernel
theorem dX12_goes_71 : decode cX12_goes 71 = .ok (.iload_n 2, 1) := by decide +kernel
theorem dX12_goes_72 : decode cX12_goes 72 = .ok (.goto 7, 3) := by decide +kernel
theorem dX12_goes_75 : decode cX12_goes 75 = .ok (.aload_n 0, 1) := by decide +kernel
theorem dX12_goes_76 : decode cX12_goes 76 = .ok (.getfield 197, 3) := by decide +kernel
theorem dX12_goes_79 : decode cX12_goes 79 = .ok (.putfield 197, 3) := by decide +kernel
theorem dX12_goes_82 : decode cX12_goes 82 = .ok (.iinc 1 1, 3) := by decide +kernel
theorem dX12_goes_85 : decode cX12_goes 85 = .ok (.aload_n 0, 1) := by decide +kernel
theorem dX12_goes_86 : decode cX12_goes 86 = .ok (.invokevirtual 200, 3) := by decide +kernel
theorem dX12_goes_89 : decode cX12_goes 89 = .ok (.aload_n 0, 1) := by decide +kernel
theorem dX12_goes_90 : decode cX12_goes 90 = .ok (.invokevirtual 203, 3) := by decide +kernel
theorem dX12_goes_93 : decode cX12_goes 93 = .ok (.istore_n 2, 1) := by decide +kernel
theorem dX12_goes_94 : decode cX12_goes 94 = .ok (.goto (-52), 3) := by decide +kernel
theorem dX12_goes_97 : decode cX12_goes 97 = .ok (.aload_n 0, 1) := by decide +kernel
theorem dX12_goes_98 : decode cX12_goes 98 = .ok (.invokevirtual 210, 3) := by decide +kernel
theorem dX12_goes_101 : decode cX12_goes 101 = .ok (.ifCond .ne 7, 3) := by decide +kernel
theorem dX12_goes_104 : decode cX12_goes 104 = .ok (.iconst 1, 1) := by decide +kernel
theorem dX12_goes_105 : decode cX12_goes 105 = .ok (.goto 4, 3) := by decide +kernel
theorem dX12_goes_108 : decode cX12_goes 108 = .ok (.iconst 0, 1) := by decide +kernel
theorem dX12_goes_109 : decode cX12_goes 109 = .ok (.ireturn, 1) := by decide +kernel
theorem dX12_periods_0 : decode cX12_periods 0 = .ok (.iconst 0, 1) := by decide +kernel
theorem dX12_periods_1 : decode cX12_periods 1 = .ok (.istore_n 2, 1) := by decide +kernel
theorem dX12_periods_2 : decode cX12_periods 2 = .ok (.iload_n 2, 1) := by decide +kernel
theorem dX12_periods_3 : decode cX12_periods 3 = .ok (.iload_n 1, 1) := by decide +kernel
theorem dX12_periods_4 : decode cX12_periods 4 = .ok (.if_icmp .ge 40, 3) := by decide +kernel
theorem dX12_periods_7 : decode cX12_periods 7 = .ok (.aload_n 0, 1) := by decide +kernel
theorem dX12_periods_8 : decode cX12_periods 8 = .ok (.getfield 11, 3) := by decide +kernel
theorem dX12_periods_11 : decode cX12_periods 11 = .ok (.aload_n 0, 1) := by decide +kernel
theorem dX12_periods_12 : decode cX12_periods 12 = .ok (.getfield 43, 3) := by decide +kernel
theorem dX12_periods_15 : decode cX12_periods 15 = .ok (.invokestatic 213, 3) := by decide +kernel
theorem dX12_periods_18 : decode cX12_periods 18 = .ok (.aload_n 0, 1) := by decide +kernel
theorem dX12_periods_19 : decode cX12_periods 19 = .ok (.invokevirtual 217, 3) := by decide +kernel
theorem dX12_periods_22 : decode cX12_periods 22 = .ok (.ifCond .ne 16, 3) := by decide +kernel
theorem dX12_periods_25 : decode cX12_periods 25 = .ok (.aload_n 0, 1) := by decide +kernel
theorem dX12_periods_26 : decode cX12_periods 26 = .ok (.getfield 43, 3) := by decide +kernel
theorem dX12_periods_29 : decode cX12_periods 29 = .ok (.aload_n 0, 1) := by decide +kernel
theorem dX12_periods_30 : decode cX12_periods 30 = .ok (.getfield 11, 3) := by decide +kernel
theorem dX12_periods_33 : decode cX12_periods 33 = .ok (.invokestatic 213, 3) := by decide +kernel
theorem dX12_periods_36 : decode cX12_periods 36 = .ok (.iload_n 2, 1) := by decide +kernel
theorem dX12_periods_37 : decode cX12_periods 37 = .ok (.ireturn, 1) := by decide +kernel
theorem dX12_periods_38 : decode cX12_periods 38 = .ok (.iinc 2 1, 3) := by decide +kernel
theorem dX12_periods_41 : decode cX12_periods 41 = .ok (.goto (-39), 3) := by decide +kernel
theorem dX12_periods_44 : decode cX12_periods 44 = .ok (.iload_n 2, 1) := by decide +kernel
theorem dX12_periods_45 : decode cX12_periods 45 = .ok (.ireturn, 1) := by decide +kernel
theorem dX12_period_0 : decode cX12_period 0 = .ok (.iload_n 1, 1) := by decide +kernel
theorem dX12_period_1 : decode cX12_period 1 = .ok (.i2l, 1) := by decide +kernel
theorem dX12_period_2 : decode cX12_period 2 = .ok (.lconst 0, 1) := by decide +kernel
theorem dX12_period_3 : decode cX12_period 3 = .ok (.ldc2_w 67, 3) := by decide +kernel
theorem dX12_period_6 : decode cX12_period 6 = .ok (.invokestatic 61, 3) := by decide +kernel
theorem dX12_period_9 : decode cX12_period 9 = .ok (.ifCond .ne 6, 3) := by decide +kernel
theorem dX12_period_12 : decode cX12_period 12 = .ok (.bipush (-2), 2) := by decide +kernel
theorem dX12_period_14 : decode cX12_period 14 = .ok (.ireturn, 1) := by decide +kernel
theorem dX12_period_15 : decode cX12_period 15 = .ok (.aload_n 0, 1) := by decide +kernel
theorem dX12_period_16 : decode cX12_period 16 = .ok (.invokevirtual 220, 3) := by decide +kernel
theorem dX12_period_19 : decode cX12_period 19 = .ok (.ifCond .eq 11, 3) := by decide +kernel
theorem dX12_period_22 : decode cX12_period 22 = .ok (.aload_n 0, 1) := by decide +kernel
theorem dX12_period_23 : decode cX12_period 23 = .ok (.iload_n 1, 1) := by decide +kernel
theorem dX12_period_24 : decode cX12_period 24 = .ok (.invokevirtual 223, 3) := by decide +kernel
theorem dX12_period_27 : decode cX12_period 27 = .ok (.goto 5, 3) := by decide +kernel
theorem dX12_period_30 : decode cX12_period 30 = .ok (.bipush (-3), 2) := by decide +kernel
theorem dX12_period_32 : decode cX12_period 32 = .ok (.ireturn, 1) := by decide +kernel
theorem dX12_thinks_0 : decode cX12_thinks 0 = .ok (.aload_n 0, 1) := by decide +kernel
theorem dX12_thinks_1 : decode cX12_thinks 1 = .ok (.getfield 11, 3) := by decide +kernel
theorem dX12_thinks_4 : decode cX12_thinks 4 = .ok (.aload_n 0, 1) := by decide +kernel
theorem dX12_thinks_5 : decode cX12_thinks 5 = .ok (.getfield 15, 3) := by decide +kernel
theorem dX12_thinks_8 : decode cX12_thinks 8 = .ok (.invokestatic 213, 3) := by decide +kernel
theorem dX12_thinks_11 : decode cX12_thinks 11 = .ok (.aload_n 0, 1) := by decide +kernel
theorem dX12_thinks_12 : decode cX12_thinks 12 = .ok (.invokevirtual 217, 3) := by decide +kernel
theorem dX12_thinks_15 : decode cX12_thinks 15 = .ok (.istore_n 1, 1) := by decide +kernel
theorem dX12_thinks_16 : decode cX12_thinks 16 = .ok (.aload_n 0, 1) := by decide +kernel
theorem dX12_thinks_17 : decode cX12_thinks 17 = .ok (.getfield 15, 3) := by decide +kernel
theorem dX12_thinks_20 : decode cX12_thinks 20 = .ok (.aload_n 0, 1) := by decide +kernel
theorem dX12_thinks_21 : decode cX12_thinks 21 = .ok (.getfield 11, 3) := by decide +kernel
theorem dX12_thinks_24 : decode cX12_thinks 24 = .ok (.invokestatic 213, 3) := by decide +kernel
theorem dX12_thinks_27 : decode cX12_thinks 27 = .ok (.iload_n 1, 1) := by decide +kernel
theorem dX12_thinks_28 : decode cX12_thinks 28 = .ok (.ifCond .eq 7, 3) := by decide +kernel
theorem dX12_thinks_31 : decode cX12_thinks 31 = .ok (.iconst 1, 1) := by decide +kernel
theorem dX12_thinks_32 : decode cX12_thinks 32 = .ok (.goto 4, 3) := by decide +kernel
theorem dX12_thinks_35 : decode cX12_thinks 35 = .ok (.iconst 0, 1) := by decide +kernel
theorem dX12_thinks_36 : decode cX12_thinks 36 = .ok (.ireturn, 1) := by decide +kernel
theorem dX12_tokensAll_0 : decode cX12_tokensAll 0 = .ok (.iconst 0, 1) := by decide +kernel
theorem dX12_tokensAll_1 : decode cX12_tokensAll 1 = .ok (.istore_n 1, 1) := by decide +kernel
theorem dX12_tokensAll_2 : decode cX12_tokensAll 2 = .ok (.iconst 0, 1) := by decide +kernel
theorem dX12_tokensAll_3 : decode cX12_tokensAll 3 = .ok (.istore_n 2, 1) := by decide +kernel
theorem dX12_tokensAll_4 : decode cX12_tokensAll 4 = .ok (.iload_n 2, 1) := by decide +kernel
theorem dX12_tokensAll_5 : decode cX12_tokensAll 5 = .ok (.aload_n 0, 1) := by decide +kernel
theorem dX12_tokensAll_6 : decode cX12_tokensAll 6 = .ok (.getfield 11, 3) := by decide +kernel
theorem dX12_tokensAll_9 : decode cX12_tokensAll 9 = .ok (.iconst 1, 1) := by decide +kernel
theorem dX12_tokensAll_10 : decode cX12_tokensAll 10 = .ok (.iaload, 1) := by decide +kernel
theorem dX12_tokensAll_11 : decode cX12_tokensAll 11 = .ok (.if_icmp .ge 29, 3) := by decide +kernel
theorem dX12_tokensAll_14 : decode cX12_tokensAll 14 = .ok (.iload_n 1, 1) := by decide +kernel
theorem dX12_tokensAll_15 : decode cX12_tokensAll 15 = .ok (.aload_n 0, 1) := by decide +kernel
theorem dX12_tokensAll_16 : decode cX12_tokensAll 16 = .ok (.iload_n 2, 1) := by decide +kernel
theorem dX12_tokensAll_17 : decode cX12_tokensAll 17 = .ok (.invokevirtual 73, 3) := by decide +kernel
theorem dX12_tokensAll_20 : decode cX12_tokensAll 20 = .ok (.ifCond .eq 11, 3) := by decide +kernel
theorem dX12_tokensAll_23 : decode cX12_tokensAll 23 = .ok (.aload_n 0, 1) := by decide +kernel
theorem dX12_tokensAll_24 : decode cX12_tokensAll 24 = .ok (.iload_n 2, 1) := by decide +kernel
theorem dX12_tokensAll_25 : decode cX12_tokensAll 25 = .ok (.invokevirtual 76, 3) := by decide +kernel
theorem dX12_tokensAll_28 : decode cX12_tokensAll 28 = .ok (.goto 4, 3) := by decide +kernel
theorem dX12_tokensAll_31 : decode cX12_tokensAll 31 = .ok (.iconst 0, 1) := by decide +kernel
theorem dX12_tokensAll_32 : decode cX12_tokensAll 32 = .ok (.iadd, 1) := by decide +kernel
theorem dX12_tokensAll_33 : decode cX12_tokensAll 33 = .ok (.istore_n 1, 1) := by decide +kernel
theorem dX12_tokensAll_34 : decode cX12_tokensAll 34 = .ok (.iinc 2 1, 3) := by decide +kernel
theorem dX12_tokensAll_37 : decode cX12_tokensAll 37 = .ok (.goto (-33), 3) := by decide +kernel
theorem dX12_tokensAll_40 : decode cX12_tokensAll 40 = .ok (.iload_n 1, 1) := by decide +kernel
theorem dX12_tokensAll_41 : decode cX12_tokensAll 41 = .ok (.ireturn, 1) := by decide +kernel
theorem dX12_timesAll_0 : decode cX12_timesAll 0 = .ok (.iconst 0, 1) := by decide +kernel
theorem dX12_timesAll_1 : decode cX12_timesAll 1 = .ok (.istore_n 1, 1) := by decide +kernel
theorem dX12_timesAll_2 : decode cX12_timesAll 2 = .ok (.iconst 0, 1) := by decide +kernel
theorem dX12_timesAll_3 : decode cX12_timesAll 3 = .ok (.istore_n 2, 1) := by decide +kernel
theorem dX12_timesAll_4 : decode cX12_timesAll 4 = .ok (.iload_n 2, 1) := by decide +kernel
theorem dX12_timesAll_5 : decode cX12_timesAll 5 = .ok (.aload_n 0, 1) := by decide +kernel
theorem dX12_timesAll_6 : decode cX12_timesAll 6 = .ok (.getfield 11, 3) := by decide +kernel
theorem dX12_timesAll_9 : decode cX12_timesAll 9 = .ok (.iconst 0, 1) := by decide +kernel
theorem dX12_timesAll_10 : decode cX12_timesAll 10 = .ok (.iaload, 1) := by decide +kernel
theorem dX12_timesAll_11 : decode cX12_timesAll 11 = .ok (.if_icmp .ge 18, 3) := by decide +kernel
theorem dX12_timesAll_14 : decode cX12_timesAll 14 = .ok (.iload_n 1, 1) := by decide +kernel
theorem dX12_timesAll_15 : decode cX12_timesAll 15 = .ok (.aload_n 0, 1) := by decide +kernel
theorem dX12_timesAll_16 : decode cX12_timesAll 16 = .ok (.getfield 34, 3) := by decide +kernel
theorem dX12_timesAll_19 : decode cX12_timesAll 19 = .ok (.iload_n 2, 1) := by decide +kernel
theorem dX12_timesAll_20 : decode cX12_timesAll 20 = .ok (.iaload, 1) := by decide +kernel
theorem dX12_timesAll_21 : decode cX12_timesAll 21 = .ok (.iadd, 1) := by decide +kernel
theorem dX12_timesAll_22 : decode cX12_timesAll 22 = .ok (.istore_n 1, 1) := by decide +kernel
theorem dX12_timesAll_23 : decode cX12_timesAll 23 = .ok (.iinc 2 1, 3) := by decide +kernel
theorem dX12_timesAll_26 : decode cX12_timesAll 26 = .ok (.goto (-22), 3) := by decide +kernel
theorem dX12_timesAll_29 : decode cX12_timesAll 29 = .ok (.iload_n 1, 1) := by decide +kernel
theorem dX12_timesAll_30 : decode cX12_timesAll 30 = .ok (.ireturn, 1) := by decide +kernel
theorem dX12_hold_0 : decode cX12_hold 0 = .ok (.aload_n 0, 1) := by decide +kernel
theorem dX12_hold_1 : decode cX12_hold 1 = .ok (.invokevirtual 226, 3) := by decide +kernel
theorem dX12_hold_4 : decode cX12_hold 4 = .ok (.istore_n 1, 1) := by decide +kernel
theorem dX12_hold_5 : decode cX12_hold 5 = .ok (.iconst 0, 1) := by decide +kernel
theorem dX12_hold_6 : decode cX12_hold 6 = .ok (.istore_n 2, 1) := by decide +kernel
theorem dX12_hold_7 : decode cX12_hold 7 = .ok (.iconst 0, 1) := by decide +kernel
theorem dX12_hold_8 : decode cX12_hold 8 = .ok (.istore_n 3, 1) := by decide +kernel
theorem dX12_hold_9 : decode cX12_hold 9 = .ok (.iload_n 3, 1) := by decide +kernel
theorem dX12_hold_10 : decode cX12_hold 10 = .ok (.bipush 8, 2) := by decide +kernel
theorem dX12_hold_12 : decode cX12_hold 12 = .ok (.if_icmp .ge 18, 3) := by decide +kernel
theorem dX12_hold_15 : decode cX12_hold 15 = .ok (.iload_n 2, 1) := by decide +kernel
theorem dX12_hold_16 : decode cX12_hold 16 = .ok (.aload_n 0, 1) := by decide +kernel
theorem dX12_hold_17 : decode cX12_hold 17 = .ok (.getfield 40, 3) := by decide +kernel
theorem dX12_hold_20 : decode cX12_hold 20 = .ok (.iload_n 3, 1) := by decide +kernel
theorem dX12_hold_21 : decode cX12_hold 21 = .ok (.iaload, 1) := by decide +kernel
theorem dX12_hold_22 : decode cX12_hold 22 = .ok (.iadd, 1) := by decide +kernel
theorem dX12_hold_23 : decode cX12_hold 23 = .ok (.istore_n 2, 1) := by decide +kernel
