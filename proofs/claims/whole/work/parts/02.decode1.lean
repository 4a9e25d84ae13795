theorem dX0_init_0 : decode cX0_init 0 = .ok (.aload_n 0, 1) := by decide +kernel
theorem dX0_init_1 : decode cX0_init 1 = .ok (.invokespecial 3, 3) := by decide +kernel
theorem dX0_init_4 : decode cX0_init 4 = .ok (.aload_n 0, 1) := by decide +kernel
theorem dX0_init_5 : decode cX0_init 5 = .ok (.iconst 0, 1) := by decide +kernel
theorem dX0_init_6 : decode cX0_init 6 = .ok (.iconst 0, 1) := by decide +kernel
theorem dX0_init_7 : decode cX0_init 7 = .ok (.invokevirtual 9, 3) := by decide +kernel
theorem dX0_init_10 : decode cX0_init 10 = .ok (.return_, 1) := by decide +kernel
theorem dX0_become_0 : decode cX0_become 0 = .ok (.aload_n 0, 1) := by decide +kernel
theorem dX0_become_1 : decode cX0_become 1 = .ok (.iload_n 1, 1) := by decide +kernel
theorem dX0_become_2 : decode cX0_become 2 = .ok (.putfield 15, 3) := by decide +kernel
theorem dX0_become_5 : decode cX0_become 5 = .ok (.aload_n 0, 1) := by decide +kernel
theorem dX0_become_6 : decode cX0_become 6 = .ok (.iload_n 2, 1) := by decide +kernel
theorem dX0_become_7 : decode cX0_become 7 = .ok (.putfield 19, 3) := by decide +kernel
theorem dX0_become_10 : decode cX0_become 10 = .ok (.aload_n 0, 1) := by decide +kernel
theorem dX0_become_11 : decode cX0_become 11 = .ok (.iconst 0, 1) := by decide +kernel
theorem dX0_become_12 : decode cX0_become 12 = .ok (.putfield 22, 3) := by decide +kernel
theorem dX0_become_15 : decode cX0_become 15 = .ok (.return_, 1) := by decide +kernel
theorem dX0_copyFrom_0 : decode cX0_copyFrom 0 = .ok (.aload_n 0, 1) := by decide +kernel
theorem dX0_copyFrom_1 : decode cX0_copyFrom 1 = .ok (.aload_n 1, 1) := by decide +kernel
theorem dX0_copyFrom_2 : decode cX0_copyFrom 2 = .ok (.getfield 15, 3) := by decide +kernel
theorem dX0_copyFrom_5 : decode cX0_copyFrom 5 = .ok (.putfield 15, 3) := by decide +kernel
theorem dX0_copyFrom_8 : decode cX0_copyFrom 8 = .ok (.aload_n 0, 1) := by decide +kernel
theorem dX0_copyFrom_9 : decode cX0_copyFrom 9 = .ok (.aload_n 1, 1) := by decide +kernel
theorem dX0_copyFrom_10 : decode cX0_copyFrom 10 = .ok (.getfield 19, 3) := by decide +kernel
theorem dX0_copyFrom_13 : decode cX0_copyFrom 13 = .ok (.putfield 19, 3) := by decide +kernel
theorem dX0_copyFrom_16 : decode cX0_copyFrom 16 = .ok (.aload_n 0, 1) := by decide +kernel
theorem dX0_copyFrom_17 : decode cX0_copyFrom 17 = .ok (.aload_n 1, 1) := by decide +kernel
theorem dX0_copyFrom_18 : decode cX0_copyFrom 18 = .ok (.getfield 22, 3) := by decide +kernel
theorem dX0_copyFrom_21 : decode cX0_copyFrom 21 = .ok (.putfield 22, 3) := by decide +kernel
theorem dX0_copyFrom_24 : decode cX0_copyFrom 24 = .ok (.return_, 1) := by decide +kernel
theorem dX0_madeOfNothing_0 : decode cX0_madeOfNothing 0 = .ok (.aload_n 0, 1) := by decide +kernel
theorem dX0_madeOfNothing_1 : decode cX0_madeOfNothing 1 = .ok (.getfield 15, 3) := by decide +kernel
theorem dX0_madeOfNothing_4 : decode cX0_madeOfNothing 4 = .ok (.iconst 4, 1) := by decide +kernel
theorem dX0_madeOfNothing_5 : decode cX0_madeOfNothing 5 = .ok (.if_icmp .ne 15, 3) := by decide +kernel
theorem dX0_madeOfNothing_8 : decode cX0_madeOfNothing 8 = .ok (.aload_n 0, 1) := by decide +kernel
theorem dX0_madeOfNothing_9 : decode cX0_madeOfNothing 9 = .ok (.getfield 22, 3) := by decide +kernel
theorem dX0_madeOfNothing_12 : decode cX0_madeOfNothing 12 = .ok (.aload_n 0, 1) := by decide +kernel
theorem dX0_madeOfNothing_13 : decode cX0_madeOfNothing 13 = .ok (.getfield 19, 3) := by decide +kernel
theorem dX0_madeOfNothing_16 : decode cX0_madeOfNothing 16 = .ok (.imul, 1) := by decide +kernel
theorem dX0_madeOfNothing_17 : decode cX0_madeOfNothing 17 = .ok (.goto 7, 3) := by decide +kernel
theorem dX0_madeOfNothing_20 : decode cX0_madeOfNothing 20 = .ok (.aload_n 0, 1) := by decide +kernel
theorem dX0_madeOfNothing_21 : decode cX0_madeOfNothing 21 = .ok (.getfield 19, 3) := by decide +kernel
theorem dX0_madeOfNothing_24 : decode cX0_madeOfNothing 24 = .ok (.ireturn, 1) := by decide +kernel
theorem dX0_madeWith_0 : decode cX0_madeWith 0 = .ok (.aload_n 0, 1) := by decide +kernel
theorem dX0_madeWith_1 : decode cX0_madeWith 1 = .ok (.getfield 15, 3) := by decide +kernel
theorem dX0_madeWith_4 : decode cX0_madeWith 4 = .ok (.tableswitch 40 1 3 #[28, 32, 34], 28) := by decide +kernel
theorem dX0_madeWith_32 : decode cX0_madeWith 32 = .ok (.iload_n 1, 1) := by decide +kernel
theorem dX0_madeWith_33 : decode cX0_madeWith 33 = .ok (.iload_n 2, 1) := by decide +kernel
theorem dX0_madeWith_34 : decode cX0_madeWith 34 = .ok (.imul, 1) := by decide +kernel
theorem dX0_madeWith_35 : decode cX0_madeWith 35 = .ok (.ireturn, 1) := by decide +kernel
theorem dX0_madeWith_36 : decode cX0_madeWith 36 = .ok (.iload_n 2, 1) := by decide +kernel
theorem dX0_madeWith_37 : decode cX0_madeWith 37 = .ok (.ireturn, 1) := by decide +kernel
theorem dX0_madeWith_38 : decode cX0_madeWith 38 = .ok (.iload_n 1, 1) := by decide +kernel
theorem dX0_madeWith_39 : decode cX0_madeWith 39 = .ok (.iload_n 2, 1) := by decide +kernel
theorem dX0_madeWith_40 : decode cX0_madeWith 40 = .ok (.invokestatic 25, 3) := by decide +kernel
theorem dX0_madeWith_43 : decode cX0_madeWith 43 = .ok (.ireturn, 1) := by decide +kernel
theorem dX0_madeWith_44 : decode cX0_madeWith 44 = .ok (.iload_n 1, 1) := by decide +kernel
theorem dX0_madeWith_45 : decode cX0_madeWith 45 = .ok (.iload_n 2, 1) := by decide +kernel
theorem dX0_madeWith_46 : decode cX0_madeWith 46 = .ok (.iadd, 1) := by decide +kernel
theorem dX0_madeWith_47 : decode cX0_madeWith 47 = .ok (.ireturn, 1) := by decide +kernel
theorem dX0_tokenOf_0 : decode cX0_tokenOf 0 = .ok (.aload_n 0, 1) := by decide +kernel
theorem dX0_tokenOf_1 : decode cX0_tokenOf 1 = .ok (.getfield 15, 3) := by decide +kernel
theorem dX0_tokenOf_4 : decode cX0_tokenOf 4 = .ok (.tableswitch 65 0 4 #[36, 65, 40, 44, 59], 36) := by decide +kernel
theorem dX0_tokenOf_40 : decode cX0_tokenOf 40 = .ok (.iload_n 1, 1) := by decide +kernel
theorem dX0_tokenOf_41 : decode cX0_tokenOf 41 = .ok (.iload_n 2, 1) := by decide +kernel
theorem dX0_tokenOf_42 : decode cX0_tokenOf 42 = .ok (.iadd, 1) := by decide +kernel
theorem dX0_tokenOf_43 : decode cX0_tokenOf 43 = .ok (.ireturn, 1) := by decide +kernel
theorem dX0_tokenOf_44 : decode cX0_tokenOf 44 = .ok (.iload_n 1, 1) := by decide +kernel
theorem dX0_tokenOf_45 : decode cX0_tokenOf 45 = .ok (.iload_n 2, 1) := by decide +kernel
theorem dX0_tokenOf_46 : decode cX0_tokenOf 46 = .ok (.isub, 1) := by decide +kernel
theorem dX0_tokenOf_47 : decode cX0_tokenOf 47 = .ok (.ireturn, 1) := by decide +kernel
theorem dX0_tokenOf_48 : decode cX0_tokenOf 48 = .ok (.iload_n 2, 1) := by decide +kernel
theorem dX0_tokenOf_49 : decode cX0_tokenOf 49 = .ok (.iconst 2, 1) := by decide +kernel
theorem dX0_tokenOf_50 : decode cX0_tokenOf 50 = .ok (.irem, 1) := by decide +kernel
theorem dX0_tokenOf_51 : decode cX0_tokenOf 51 = .ok (.ifCond .ne 7, 3) := by decide +kernel
theorem dX0_tokenOf_54 : decode cX0_tokenOf 54 = .ok (.iload_n 1, 1) := by decide +kernel
theorem dX0_tokenOf_55 : decode cX0_tokenOf 55 = .ok (.goto 7, 3) := by decide +kernel
theorem dX0_tokenOf_58 : decode cX0_tokenOf 58 = .ok (.aload_n 0, 1) := by decide +kernel
theorem dX0_tokenOf_59 : decode cX0_tokenOf 59 = .ok (.getfield 19, 3) := by decide +kernel
theorem dX0_tokenOf_62 : decode cX0_tokenOf 62 = .ok (.ireturn, 1) := by decide +kernel
theorem dX0_tokenOf_63 : decode cX0_tokenOf 63 = .ok (.iload_n 1, 1) := by decide +kernel
theorem dX0_tokenOf_64 : decode cX0_tokenOf 64 = .ok (.iload_n 2, 1) := by decide +kernel
theorem dX0_tokenOf_65 : decode cX0_tokenOf 65 = .ok (.iconst 1, 1) := by decide +kernel
theorem dX0_tokenOf_66 : decode cX0_tokenOf 66 = .ok (.iadd, 1) := by decide +kernel
theorem dX0_tokenOf_67 : decode cX0_tokenOf 67 = .ok (.imul, 1) := by decide +kernel
theorem dX0_tokenOf_68 : decode cX0_tokenOf 68 = .ok (.ireturn, 1) := by decide +kernel
theorem dX0_tokenOf_69 : decode cX0_tokenOf 69 = .ok (.iload_n 1, 1) := by decide +kernel
theorem dX0_tokenOf_70 : decode cX0_tokenOf 70 = .ok (.ireturn, 1) := by decide +kernel
theorem dX0_noteFiring_0 : decode cX0_noteFiring 0 = .ok (.aload_n 0, 1) := by decide +kernel
theorem dX0_noteFiring_1 : decode cX0_noteFiring 1 = .ok (.aload_n 0, 1) := by decide +kernel
theorem dX0_noteFiring_2 : decode cX0_noteFiring 2 = .ok (.getfield 22, 3) := by decide +kernel
theorem dX0_noteFiring_5 : decode cX0_noteFiring 5 = .ok (.iconst 1, 1) := by decide +kernel
theorem dX0_noteFiring_6 : decode cX0_noteFiring 6 = .ok (.iadd, 1) := by decide +kernel
theorem dX0_noteFiring_7 : decode cX0_noteFiring 7 = .ok (.sipush 9999, 3) := by decide +kernel
theorem dX0_noteFiring_10 : decode cX0_noteFiring 10 = .ok (.invokestatic 31, 3) := by decide +kernel
theorem dX0_noteFiring_13 : decode cX0_noteFiring 13 = .ok (.putfield 22, 3) := by decide +kernel
theorem dX0_noteFiring_16 : decode cX0_noteFiring 16 = .ok (.return_, 1) := by decide +kernel
theorem dX1_init_0 : decode cX1_init 0 = .ok (.aload_n 0, 1) := by decide +kernel
theorem dX1_init_1 : decode cX1_init 1 = .ok (.invokespecial 3, 3) := by decide +kernel
theorem dX1_init_4 : decode cX1_init 4 = .ok (.aload_n 0, 1) := by decide +kernel
theorem dX1_init_5 : decode cX1_init 5 = .ok (.bipush 6, 2) := by decide +kernel
theorem dX1_init_7 : decode cX1_init 7 = .ok (.newarray .int, 2) := by decide +kernel
theorem dX1_init_9 : decode cX1_init 9 = .ok (.putfield 9, 3) := by decide +kernel
theorem dX1_init_12 : decode cX1_init 12 = .ok (.return_, 1) := by decide +kernel
theorem dX2_init_0 : decode cX2_init 0 = .ok (.aload_n 0, 1) := by decide +kernel
theorem dX2_init_1 : decode cX2_init 1 = .ok (.invokespecial 3, 3) := by decide +kernel
theorem dX2_init_4 : decode cX2_init 4 = .ok (.aload_n 0, 1) := by decide +kernel
theorem dX2_init_5 : decode cX2_init 5 = .ok (.bipush 8, 2) := by decide +kernel
theorem dX2_init_7 : decode cX2_init 7 = .ok (.newarray .int, 2) := by decide +kernel
theorem dX2_init_9 : decode cX2_init 9 = .ok (.putfield 9, 3) := by decide +kernel
theorem dX2_init_12 : decode cX2_init 12 = .ok (.return_, 1) := by decide +kernel
theorem dX2_load_0 : decode cX2_load 0 = .ok (.iconst 0, 1) := by decide +kernel
theorem dX2_load_1 : decode cX2_load 1 = .ok (.istore_n 2, 1) := by decide +kernel
theorem dX2_load_2 : decode cX2_load 2 = .ok (.iload_n 2, 1) := by decide +kernel
theorem dX2_load_3 : decode cX2_load 3 = .ok (.bipush 8, 2) := by decide +kernel
theorem dX2_load_5 : decode cX2_load 5 = .ok (.if_icmp .ge 24, 3) := by decide +kernel
theorem dX2_load_8 : decode cX2_load 8 = .ok (.aload_n 0, 1) := by decide +kernel
theorem dX2_load_9 : decode cX2_load 9 = .ok (.getfield 9, 3) := by decide +kernel
theorem dX2_load_12 : decode cX2_load 12 = .ok (.iload_n 2, 1) := by decide +kernel
theorem dX2_load_13 : decode cX2_load 13 = .ok (.aload_n 1, 1) := by decide +kernel
theorem dX2_load_14 : decode cX2_load 14 = .ok (.getfield 15, 3) := by decide +kernel
theorem dX2_load_17 : decode cX2_load 17 = .ok (.iload_n 2, 1) := by decide +kernel
theorem dX2_load_18 : decode cX2_load 18 = .ok (.aaload, 1) := by decide +kernel
theorem dX2_load_19 : decode cX2_load 19 = .ok (.getfield 21, 3) := by decide +kernel
theorem dX2_load_22 : decode cX2_load 22 = .ok (.iastore, 1) := by decide +kernel
theorem dX2_load_23 : decode cX2_load 23 = .ok (.iinc 2 1, 3) := by decide +kernel
theorem dX2_load_26 : decode cX2_load 26 = .ok (.goto (-24), 3) := by decide +kernel
theorem dX2_load_29 : decode cX2_load 29 = .ok (.return_, 1) := by decide +kernel
theorem dX2_canFire_0 : decode cX2_canFire 0 = .ok (.iconst 0, 1) := by decide +kernel
theorem dX2_canFire_1 : decode cX2_canFire 1 = .ok (.istore_n 3, 1) := by decide +kernel
theorem dX2_canFire_2 : decode cX2_canFire 2 = .ok (.iload_n 3, 1) := by decide +kernel
theorem dX2_canFire_3 : decode cX2_canFire 3 = .ok (.bipush 8, 2) := by decide +kernel
theorem dX2_canFire_5 : decode cX2_canFire 5 = .ok (.if_icmp .ge 71, 3) := by decide +kernel
theorem dX2_canFire_8 : decode cX2_canFire 8 = .ok (.aload_n 1, 1) := by decide +kernel
theorem dX2_canFire_9 : decode cX2_canFire 9 = .ok (.getfield 15, 3) := by decide +kernel
theorem dX2_canFire_12 : decode cX2_canFire 12 = .ok (.iload_n 3, 1) := by decide +kernel
theorem dX2_canFire_13 : decode cX2_canFire 13 = .ok (.aaload, 1) := by decide +kernel
theorem dX2_canFire_14 : decode cX2_canFire 14 = .ok (.astore 4, 2) := by decide +kernel
theorem dX2_canFire_16 : decode cX2_canFire 16 = .ok (.aload 4, 2) := by decide +kernel
theorem dX2_canFire_18 : decode cX2_canFire 18 = .ok (.iload_n 2, 1) := by decide +kernel
theorem dX2_canFire_19 : decode cX2_canFire 19 = .ok (.invokevirtual 27, 3) := by decide +kernel
theorem dX2_canFire_22 : decode cX2_canFire 22 = .ok (.ifCond .eq 19, 3) := by decide +kernel
theorem dX2_canFire_25 : decode cX2_canFire 25 = .ok (.aload_n 0, 1) := by decide +kernel
theorem dX2_canFire_26 : decode cX2_canFire 26 = .ok (.getfield 9, 3) := by decide +kernel
theorem dX2_canFire_29 : decode cX2_canFire 29 = .ok (.iload_n 3, 1) := by decide +kernel
theorem dX2_canFire_30 : decode cX2_canFire 30 = .ok (.iaload, 1) := by decide +kernel
theorem dX2_canFire_31 : decode cX2_canFire 31 = .ok (.aload 4, 2) := by decide +kernel
theorem dX2_canFire_33 : decode cX2_canFire 33 = .ok (.getfield 31, 3) := by decide +kernel
theorem dX2_canFire_36 : decode cX2_canFire 36 = .ok (.if_icmp .ge 5, 3) := by decide +kernel
theorem dX2_canFire_39 : decode cX2_canFire 39 = .ok (.iconst 0, 1) := by decide +kernel
theorem dX2_canFire_40 : decode cX2_canFire 40 = .ok (.ireturn, 1) := by decide +kernel
theorem dX2_canFire_41 : decode cX2_canFire 41 = .ok (.aload 4, 2) := by decide +kernel
theorem dX2_canFire_43 : decode cX2_canFire 43 = .ok (.iload_n 2, 1) := by decide +kernel
theorem dX2_canFire_44 : decode cX2_canFire 44 = .ok (.invokevirtual 34, 3) := by decide +kernel
theorem dX2_canFire_47 : decode cX2_canFire 47 = .ok (.ifCond .eq 23, 3) := by decide +kernel
theorem dX2_canFire_50 : decode cX2_canFire 50 = .ok (.aload_n 0, 1) := by decide +kernel
theorem dX2_canFire_51 : decode cX2_canFire 51 = .ok (.getfield 9, 3) := by decide +kernel
theorem dX2_canFire_54 : decode cX2_canFire 54 = .ok (.iload_n 3, 1) := by decide +kernel
theorem dX2_canFire_55 : decode cX2_canFire 55 = .ok (.iaload, 1) := by decide +kernel
theorem dX2_canFire_56 : decode cX2_canFire 56 = .ok (.aload 4, 2) := by decide +kernel
theorem dX2_canFire_58 : decode cX2_canFire 58 = .ok (.iload_n 2, 1) := by decide +kernel
theorem dX2_canFire_59 : decode cX2_canFire 59 = .ok (.invokevirtual 37, 3) := by decide +kernel
theorem dX2_canFire_62 : decode cX2_canFire 62 = .ok (.iadd, 1) := by decide +kernel
theorem dX2_canFire_63 : decode cX2_canFire 63 = .ok (.bipush 99, 2) := by decide +kernel
theorem dX2_canFire_65 : decode cX2_canFire 65 = .ok (.if_icmp .le 5, 3) := by decide +kernel
theorem dX2_canFire_68 : decode cX2_canFire 68 = .ok (.iconst 0, 1) := by decide +kernel
theorem dX2_canFire_69 : decode cX2_canFire 69 = .ok (.ireturn, 1) := by decide +kernel
theorem dX2_canFire_70 : decode cX2_canFire 70 = .ok (.iinc 3 1, 3) := by decide +kernel
theorem dX2_canFire_73 : decode cX2_canFire 73 = .ok (.goto (-71), 3) := by decide +kernel
theorem dX2_canFire_76 : decode cX2_canFire 76 = .ok (.iconst 1, 1) := by decide +kernel
theorem dX2_canFire_77 : decode cX2_canFire 77 = .ok (.ireturn, 1) := by decide +kernel
theorem dX2_fireBox_0 : decode cX2_fireBox 0 = .ok (.iconst 0, 1) := by decide +kernel
theorem dX2_fireBox_1 : decode cX2_fireBox 1 = .ok (.istore_n 3, 1) := by decide +kernel
theorem dX2_fireBox_2 : decode cX2_fireBox 2 = .ok (.iload_n 3, 1) := by decide +kernel
theorem dX2_fireBox_3 : decode cX2_fireBox 3 = .ok (.bipush 8, 2) := by decide +kernel
theorem dX2_fireBox_5 : decode cX2_fireBox 5 = .ok (.if_icmp .ge 28, 3) := by decide +kernel
theorem dX2_fireBox_8 : decode cX2_fireBox 8 = .ok (.aload_n 0, 1) := by decide +kernel
theorem dX2_fireBox_9 : decode cX2_fireBox 9 = .ok (.getfield 9, 3) := by decide +kernel
theorem dX2_fireBox_12 : decode cX2_fireBox 12 = .ok (.iload_n 3, 1) := by decide +kernel
theorem dX2_fireBox_13 : decode cX2_fireBox 13 = .ok (.dup2, 1) := by decide +kernel
theorem dX2_fireBox_14 : decode cX2_fireBox 14 = .ok (.iaload, 1) := by decide +kernel
theorem dX2_fireBox_15 : decode cX2_fireBox 15 = .ok (.aload_n 1, 1) := by decide +kernel
theorem dX2_fireBox_16 : decode cX2_fireBox 16 = .ok (.getfield 15, 3) := by decide +kernel
theorem dX2_fireBox_19 : decode cX2_fireBox 19 = .ok (.iload_n 3, 1) := by decide +kernel
theorem dX2_fireBox_20 : decode cX2_fireBox 20 = .ok (.aaload, 1) := by decide +kernel
theorem dX2_fireBox_21 : decode cX2_fireBox 21 = .ok (.iload_n 2, 1) := by decide +kernel
theorem dX2_fireBox_22 : decode cX2_fireBox 22 = .ok (.invokevirtual 37, 3) := by decide +kernel
theorem dX2_fireBox_25 : decode cX2_fireBox 25 = .ok (.iadd, 1) := by decide +kernel
theorem dX2_fireBox_26 : decode cX2_fireBox 26 = .ok (.iastore, 1) := by decide +kernel
theorem dX2_fireBox_27 : decode cX2_fireBox 27 = .ok (.iinc 3 1, 3) := by decide +kernel
theorem dX2_fireBox_30 : decode cX2_fireBox 30 = .ok (.goto (-28), 3) := by decide +kernel
theorem dX2_fireBox_33 : decode cX2_fireBox 33 = .ok (.return_, 1) := by decide +kernel
theorem dX2_takeBack_0 : decode cX2_takeBack 0 = .ok (.iconst 0, 1) := by decide +kernel
theorem dX2_takeBack_1 : decode cX2_takeBack 1 = .ok (.istore_n 3, 1) := by decide +kernel
theorem dX2_takeBack_2 : decode cX2_takeBack 2 = .ok (.iload_n 3, 1) := by decide +kernel
theorem dX2_takeBack_3 : decode cX2_takeBack 3 = .ok (.bipush 8, 2) := by decide +kernel
theorem dX2_takeBack_5 : decode cX2_takeBack 5 = .ok (.if_icmp .ge 28, 3) := by decide +kernel
theorem dX2_takeBack_8 : decode cX2_takeBack 8 = .ok (.aload_n 0, 1) := by decide +kernel
theorem dX2_takeBack_9 : decode cX2_takeBack 9 = .ok (.getfield 9, 3) := by decide +kernel
theorem dX2_takeBack_12 : decode cX2_takeBack 12 = .ok (.iload_n 3, 1) := by decide +kernel
theorem dX2_takeBack_13 : decode cX2_takeBack 13 = .ok (.dup2, 1) := by decide +kernel
theorem dX2_takeBack_14 : decode cX2_takeBack 14 = .ok (.iaload, 1) := by decide +kernel
theorem dX2_takeBack_15 : decode cX2_takeBack 15 = .ok (.aload_n 1, 1) := by decide +kernel
theorem dX2_takeBack_16 : decode cX2_takeBack 16 = .ok (.getfield 15, 3) := by decide +kernel
theorem dX2_takeBack_19 : decode cX2_takeBack 19 = .ok (.iload_n 3, 1) := by decide +kernel
theorem dX2_takeBack_20 : decode cX2_takeBack 20 = .ok (.aaload, 1) := by decide +kernel
theorem dX2_takeBack_21 : decode cX2_takeBack 21 = .ok (.iload_n 2, 1) := by decide +kernel
theorem dX2_takeBack_22 : decode cX2_takeBack 22 = .ok (.invokevirtual 37, 3) := by decide +kernel
theorem dX2_takeBack_25 : decode cX2_takeBack 25 = .ok (.isub, 1) := by decide +kernel
theorem dX2_takeBack_26 : decode cX2_takeBack 26 = .ok (.iastore, 1) := by decide +kernel
theorem dX2_takeBack_27 : decode cX2_takeBack 27 = .ok (.iinc 3 1, 3) := by decide +kernel
theorem dX2_takeBack_30 : decode cX2_takeBack 30 = .ok (.goto (-28), 3) := by decide +kernel
theorem dX2_takeBack_33 : decode cX2_takeBack 33 = .ok (.return_, 1) := by decide +kernel
theorem dX3_init_0 : decode cX3_init 0 = .ok (.aload_n 0, 1) := by decide +kernel
theorem dX3_init_1 : decode cX3_init 1 = .ok (.invokespecial 3, 3) := by decide +kernel
theorem dX3_init_4 : decode cX3_init 4 = .ok (.aload_n 0, 1) := by decide +kernel
theorem dX3_init_5 : decode cX3_init 5 = .ok (.bipush 6, 2) := by decide +kernel
theorem dX3_init_7 : decode cX3_init 7 = .ok (.anewarray 9, 3) := by decide +kernel
theorem dX3_init_10 : decode cX3_init 10 = .ok (.putfield 11, 3) := by decide +kernel
theorem dX3_init_13 : decode cX3_init 13 = .ok (.iconst 0, 1) := by decide +kernel
theorem dX3_init_14 : decode cX3_init 14 = .ok (.istore_n 1, 1) := by decide +kernel
theorem dX3_init_15 : decode cX3_init 15 = .ok (.iload_n 1, 1) := by decide +kernel
theorem dX3_init_16 : decode cX3_init 16 = .ok (.bipush 6, 2) := by decide +kernel
theorem dX3_init_18 : decode cX3_init 18 = .ok (.if_icmp .ge 22, 3) := by decide +kernel
theorem dX3_init_21 : decode cX3_init 21 = .ok (.aload_n 0, 1) := by decide +kernel
theorem dX3_init_22 : decode cX3_init 22 = .ok (.getfield 11, 3) := by decide +kernel
theorem dX3_init_25 : decode cX3_init 25 = .ok (.iload_n 1, 1) := by decide +kernel
theorem dX3_init_26 : decode cX3_init 26 = .ok (.new 9, 3) := by decide +kernel
theorem dX3_init_29 : decode cX3_init 29 = .ok (.dup, 1) := by decide +kernel
theorem dX3_init_30 : decode cX3_init 30 = .ok (.invokespecial 17, 3) := by decide +kernel
theorem dX3_init_33 : decode cX3_init 33 = .ok (.aastore, 1) := by decide +kernel
theorem dX3_init_34 : decode cX3_init 34 = .ok (.iinc 1 1, 3) := by decide +kernel
theorem dX3_init_37 : decode cX3_init 37 = .ok (.goto (-22), 3) := by decide +kernel
theorem dX3_init_40 : decode cX3_init 40 = .ok (.aload_n 0, 1) := by decide +kernel
theorem dX3_init_41 : decode cX3_init 41 = .ok (.bipush 8, 2) := by decide +kernel
theorem dX3_init_43 : decode cX3_init 43 = .ok (.anewarray 18, 3) := by decide +kernel
theorem dX3_init_46 : decode cX3_init 46 = .ok (.putfield 20, 3) := by decide +kernel
theorem dX3_init_49 : decode cX3_init 49 = .ok (.iconst 0, 1) := by decide +kernel
theorem dX3_init_50 : decode cX3_init 50 = .ok (.istore_n 1, 1) := by decide +kernel
theorem dX3_init_51 : decode cX3_init 51 = .ok (.iload_n 1, 1) := by decide +kernel
theorem dX3_init_52 : decode cX3_init 52 = .ok (.bipush 8, 2) := by decide +kernel
theorem dX3_init_54 : decode cX3_init 54 = .ok (.if_icmp .ge 22, 3) := by decide +kernel
theorem dX3_init_57 : decode cX3_init 57 = .ok (.aload_n 0, 1) := by decide +kernel
theorem dX3_init_58 : decode cX3_init 58 = .ok (.getfield 20, 3) := by decide +kernel
theorem dX3_init_61 : decode cX3_init 61 = .ok (.iload_n 1, 1) := by decide +kernel
theorem dX3_init_62 : decode cX3_init 62 = .ok (.new 18, 3) := by decide +kernel
theorem dX3_init_65 : decode cX3_init 65 = .ok (.dup, 1) := by decide +kernel
theorem dX3_init_66 : decode cX3_init 66 = .ok (.invokespecial 24, 3) := by decide +kernel
theorem dX3_init_69 : decode cX3_init 69 = .ok (.aastore, 1) := by decide +kernel
theorem dX3_init_70 : decode cX3_init 70 = .ok (.iinc 1 1, 3) := by decide +kernel
theorem dX3_init_73 : decode cX3_init 73 = .ok (.goto (-22), 3) := by decide +kernel
theorem dX3_init_76 : decode cX3_init 76 = .ok (.aload_n 0, 1) := by decide +kernel
theorem dX3_init_77 : decode cX3_init 77 = .ok (.iconst 0, 1) := by decide +kernel
theorem dX3_init_78 : decode cX3_init 78 = .ok (.putfield 25, 3) := by decide +kernel
theorem dX3_init_81 : decode cX3_init 81 = .ok (.aload_n 0, 1) := by decide +kernel
theorem dX3_init_82 : decode cX3_init 82 = .ok (.iconst 0, 1) := by decide +kernel
theorem dX3_init_83 : decode cX3_init 83 = .ok (.putfield 29, 3) := by decide +kernel
theorem dX3_init_86 : decode cX3_init 86 = .ok (.return_, 1) := by decide +kernel
theorem dX3_copyFrom_0 : decode cX3_copyFrom 0 = .ok (.iconst 0, 1) := by decide +kernel
theorem dX3_copyFrom_1 : decode cX3_copyFrom 1 = .ok (.istore_n 2, 1) := by decide +kernel
theorem dX3_copyFrom_2 : decode cX3_copyFrom 2 = .ok (.iload_n 2, 1) := by decide +kernel
theorem dX3_copyFrom_3 : decode cX3_copyFrom 3 = .ok (.bipush 6, 2) := by decide +kernel
theorem dX3_copyFrom_5 : decode cX3_copyFrom 5 = .ok (.if_icmp .ge 24, 3) := by decide +kernel
theorem dX3_copyFrom_8 : decode cX3_copyFrom 8 = .ok (.aload_n 0, 1) := by decide +kernel
theorem dX3_copyFrom_9 : decode cX3_copyFrom 9 = .ok (.getfield 11, 3) := by decide +kernel
theorem dX3_copyFrom_12 : decode cX3_copyFrom 12 = .ok (.iload_n 2, 1) := by decide +kernel
theorem dX3_copyFrom_13 : decode cX3_copyFrom 13 = .ok (.aaload, 1) := by decide +kernel
theorem dX3_copyFrom_14 : decode cX3_copyFrom 14 = .ok (.aload_n 1, 1) := by decide +kernel
theorem dX3_copyFrom_15 : decode cX3_copyFrom 15 = .ok (.getfield 11, 3) := by decide +kernel
theorem dX3_copyFrom_18 : decode cX3_copyFrom 18 = .ok (.iload_n 2, 1) := by decide +kernel
theorem dX3_copyFrom_19 : decode cX3_copyFrom 19 = .ok (.aaload, 1) := by decide +kernel
theorem dX3_copyFrom_20 : decode cX3_copyFrom 20 = .ok (.invokevirtual 32, 3) := by decide +kernel
theorem dX3_copyFrom_23 : decode cX3_copyFrom 23 = .ok (.iinc 2 1, 3) := by decide +kernel
theorem dX3_copyFrom_26 : decode cX3_copyFrom 26 = .ok (.goto (-24), 3) := by decide +kernel
theorem dX3_copyFrom_29 : decode cX3_copyFrom 29 = .ok (.iconst 0, 1) := by decide +kernel
theorem dX3_copyFrom_30 : decode cX3_copyFrom 30 = .ok (.istore_n 2, 1) := by decide +kernel
theorem dX3_copyFrom_31 : decode cX3_copyFrom 31 = .ok (.iload_n 2, 1) := by decide +kernel
theorem dX3_copyFrom_32 : decode cX3_copyFrom 32 = .ok (.bipush 8, 2) := by decide +kernel
theorem dX3_copyFrom_34 : decode cX3_copyFrom 34 = .ok (.if_icmp .ge 24, 3) := by decide +kernel
theorem dX3_copyFrom_37 : decode cX3_copyFrom 37 = .ok (.aload_n 0, 1) := by decide +kernel
theorem dX3_copyFrom_38 : decode cX3_copyFrom 38 = .ok (.getfield 20, 3) := by decide +kernel
theorem dX3_copyFrom_41 : decode cX3_copyFrom 41 = .ok (.iload_n 2, 1) := by decide +kernel
theorem dX3_copyFrom_42 : decode cX3_copyFrom 42 = .ok (.aaload, 1) := by decide +kernel
theorem dX3_copyFrom_43 : decode cX3_copyFrom 43 = .ok (.aload_n 1, 1) := by decide +kernel
theorem dX3_copyFrom_44 : decode cX3_copyFrom 44 = .ok (.getfield 20, 3) := by decide +kernel
theorem dX3_copyFrom_47 : decode cX3_copyFrom 47 = .ok (.iload_n 2, 1) := by decide +kernel
theorem dX3_copyFrom_48 : decode cX3_copyFrom 48 = .ok (.aaload, 1) := by decide +kernel
theorem dX3_copyFrom_49 : decode cX3_copyFrom 49 = .ok (.invokevirtual 36, 3) := by decide +kernel
theorem dX3_copyFrom_52 : decode cX3_copyFrom 52 = .ok (.iinc 2 1, 3) := by decide +kernel
theorem dX3_copyFrom_55 : decode cX3_copyFrom 55 = .ok (.goto (-24), 3) := by decide +kernel
theorem dX3_copyFrom_58 : decode cX3_copyFrom 58 = .ok (.aload_n 0, 1) := by decide +kernel
theorem dX3_copyFrom_59 : decode cX3_copyFrom 59 = .ok (.aload_n 1, 1) := by decide +kernel
theorem dX3_copyFrom_60 : decode cX3_copyFrom 60 = .ok (.getfield 25, 3) := by decide +kernel
theorem dX3_copyFrom_63 : decode cX3_copyFrom 63 = .ok (.putfield 25, 3) := by decide +kernel
theorem dX3_copyFrom_66 : decode cX3_copyFrom 66 = .ok (.aload_n 0, 1) := by decide +kernel
theorem dX3_copyFrom_67 : decode cX3_copyFrom 67 = .ok (.aload_n 1, 1) := by decide +kernel
theorem dX3_copyFrom_68 : decode cX3_copyFrom 68 = .ok (.getfield 29, 3) := by decide +kernel
theorem dX3_copyFrom_71 : decode cX3_copyFrom 71 = .ok (.putfield 29, 3) := by decide +kernel
theorem dX3_copyFrom_74 : decode cX3_copyFrom 74 = .ok (.return_, 1) := by decide +kernel
theorem dX3_hasBox_0 : decode cX3_hasBox 0 = .ok (.iload_n 1, 1) := by decide +kernel
theorem dX3_hasBox_1 : decode cX3_hasBox 1 = .ok (.ifCond .lt 21, 3) := by decide +kernel
theorem dX3_hasBox_4 : decode cX3_hasBox 4 = .ok (.iload_n 1, 1) := by decide +kernel
theorem dX3_hasBox_5 : decode cX3_hasBox 5 = .ok (.aload_n 0, 1) := by decide +kernel
theorem dX3_hasBox_6 : decode cX3_hasBox 6 = .ok (.getfield 25, 3) := by decide +kernel
theorem dX3_hasBox_9 : decode cX3_hasBox 9 = .ok (.if_icmp .ge 13, 3) := by decide +kernel
theorem dX3_hasBox_12 : decode cX3_hasBox 12 = .ok (.iload_n 1, 1) := by decide +kernel
theorem dX3_hasBox_13 : decode cX3_hasBox 13 = .ok (.bipush 6, 2) := by decide +kernel
theorem dX3_hasBox_15 : decode cX3_hasBox 15 = .ok (.if_icmp .ge 7, 3) := by decide +kernel
theorem dX3_hasBox_18 : decode cX3_hasBox 18 = .ok (.iconst 1, 1) := by decide +kernel
theorem dX3_hasBox_19 : decode cX3_hasBox 19 = .ok (.goto 4, 3) := by decide +kernel
theorem dX3_hasBox_22 : decode cX3_hasBox 22 = .ok (.iconst 0, 1) := by decide +kernel
theorem dX3_hasBox_23 : decode cX3_hasBox 23 = .ok (.ireturn, 1) := by decide +kernel
theorem dX3_hasWire_0 : decode cX3_hasWire 0 = .ok (.iload_n 1, 1) := by decide +kernel
theorem dX3_hasWire_1 : decode cX3_hasWire 1 = .ok (.ifCond .lt 25, 3) := by decide +kernel
theorem dX3_hasWire_4 : decode cX3_hasWire 4 = .ok (.iload_n 1, 1) := by decide +kernel
theorem dX3_hasWire_5 : decode cX3_hasWire 5 = .ok (.bipush 8, 2) := by decide +kernel
theorem dX3_hasWire_7 : decode cX3_hasWire 7 = .ok (.if_icmp .ge 19, 3) := by decide +kernel
theorem dX3_hasWire_10 : decode cX3_hasWire 10 = .ok (.aload_n 0, 1) := by decide +kernel
theorem dX3_hasWire_11 : decode cX3_hasWire 11 = .ok (.getfield 20, 3) := by decide +kernel
theorem dX3_hasWire_14 : decode cX3_hasWire 14 = .ok (.iload_n 1, 1) := by decide +kernel
theorem dX3_hasWire_15 : decode cX3_hasWire 15 = .ok (.aaload, 1) := by decide +kernel
theorem dX3_hasWire_16 : decode cX3_hasWire 16 = .ok (.getfield 39, 3) := by decide +kernel
theorem dX3_hasWire_19 : decode cX3_hasWire 19 = .ok (.ifCond .eq 7, 3) := by decide +kernel
theorem dX3_hasWire_22 : decode cX3_hasWire 22 = .ok (.iconst 1, 1) := by decide +kernel
theorem dX3_hasWire_23 : decode cX3_hasWire 23 = .ok (.goto 4, 3) := by decide +kernel
theorem dX3_hasWire_26 : decode cX3_hasWire 26 = .ok (.iconst 0, 1) := by decide +kernel
theorem dX3_hasWire_27 : decode cX3_hasWire 27 = .ok (.ireturn, 1) := by decide +kernel
theorem dX3_addBox_0 : decode cX3_addBox 0 = .ok (.aload_n 0, 1) := by decide +kernel
theorem dX3_addBox_1 : decode cX3_addBox 1 = .ok (.getfield 25, 3) := by decide +kernel
theorem dX3_addBox_4 : decode cX3_addBox 4 = .ok (.bipush 6, 2) := by decide +kernel
theorem dX3_addBox_6 : decode cX3_addBox 6 = .ok (.if_icmp .lt 6, 3) := by decide +kernel
theorem dX3_addBox_9 : decode cX3_addBox 9 = .ok (.bipush (-4), 2) := by decide +kernel
theorem dX3_addBox_11 : decode cX3_addBox 11 = .ok (.ireturn, 1) := by decide +kernel
theorem dX3_addBox_12 : decode cX3_addBox 12 = .ok (.aload_n 0, 1) := by decide +kernel
theorem dX3_addBox_13 : decode cX3_addBox 13 = .ok (.getfield 11, 3) := by decide +kernel
theorem dX3_addBox_16 : decode cX3_addBox 16 = .ok (.aload_n 0, 1) := by decide +kernel
theorem dX3_addBox_17 : decode cX3_addBox 17 = .ok (.getfield 25, 3) := by decide +kernel
theorem dX3_addBox_20 : decode cX3_addBox 20 = .ok (.aaload, 1) := by decide +kernel
theorem dX3_addBox_21 : decode cX3_addBox 21 = .ok (.iload_n 1, 1) := by decide +kernel
theorem dX3_addBox_22 : decode cX3_addBox 22 = .ok (.iload_n 2, 1) := by decide +kernel
theorem dX3_addBox_23 : decode cX3_addBox 23 = .ok (.invokevirtual 43, 3) := by decide +kernel
theorem dX3_addBox_26 : decode cX3_addBox 26 = .ok (.aload_n 0, 1) := by decide +kernel
theorem dX3_addBox_27 : decode cX3_addBox 27 = .ok (.dup, 1) := by decide +kernel
theorem dX3_addBox_28 : decode cX3_addBox 28 = .ok (.getfield 25, 3) := by decide +kernel
theorem dX3_addBox_31 : decode cX3_addBox 31 = .ok (.iconst 1, 1) := by decide +kernel
theorem dX3_addBox_32 : decode cX3_addBox 32 = .ok (.iadd, 1) := by decide +kernel
theorem dX3_addBox_33 : decode cX3_addBox 33 = .ok (.putfield 25, 3) := by decide +kernel
theorem dX3_addBox_36 : decode cX3_addBox 36 = .ok (.aload_n 0, 1) := by decide +kernel
theorem dX3_addBox_37 : decode cX3_addBox 37 = .ok (.getfield 25, 3) := by decide +kernel
theorem dX3_addBox_40 : decode cX3_addBox 40 = .ok (.iconst 1, 1) := by decide +kernel
theorem dX3_addBox_41 : decode cX3_addBox 41 = .ok (.isub, 1) := by decide +kernel
theorem dX3_addBox_42 : decode cX3_addBox 42 = .ok (.ireturn, 1) := by decide +kernel
theorem dX3_addWire_0 : decode cX3_addWire 0 = .ok (.aload_n 0, 1) := by decide +kernel
theorem dX3_addWire_1 : decode cX3_addWire 1 = .ok (.iload_n 1, 1) := by decide +kernel
theorem dX3_addWire_2 : decode cX3_addWire 2 = .ok (.invokevirtual 47, 3) := by decide +kernel
theorem dX3_addWire_5 : decode cX3_addWire 5 = .ok (.ifCond .eq 11, 3) := by decide +kernel
theorem dX3_addWire_8 : decode cX3_addWire 8 = .ok (.aload_n 0, 1) := by decide +kernel
theorem dX3_addWire_9 : decode cX3_addWire 9 = .ok (.iload_n 2, 1) := by decide +kernel
theorem dX3_addWire_10 : decode cX3_addWire 10 = .ok (.invokevirtual 47, 3) := by decide +kernel
theorem dX3_addWire_13 : decode cX3_addWire 13 = .ok (.ifCond .ne 5, 3) := by decide +kernel
theorem dX3_addWire_16 : decode cX3_addWire 16 = .ok (.iconst (-1), 1) := by decide +kernel
theorem dX3_addWire_17 : decode cX3_addWire 17 = .ok (.ireturn, 1) := by decide +kernel
theorem dX3_addWire_18 : decode cX3_addWire 18 = .ok (.iload_n 3, 1) := by decide +kernel
theorem dX3_addWire_19 : decode cX3_addWire 19 = .ok (.iconst 1, 1) := by decide +kernel
theorem dX3_addWire_20 : decode cX3_addWire 20 = .ok (.if_icmp .lt 20, 3) := by decide +kernel
theorem dX3_addWire_23 : decode cX3_addWire 23 = .ok (.iload_n 3, 1) := by decide +kernel
theorem dX3_addWire_24 : decode cX3_addWire 24 = .ok (.iconst 4, 1) := by decide +kernel
theorem dX3_addWire_25 : decode cX3_addWire 25 = .ok (.if_icmp .gt 15, 3) := by decide +kernel
theorem dX3_addWire_28 : decode cX3_addWire 28 = .ok (.iload 4, 2) := by decide +kernel
theorem dX3_addWire_30 : decode cX3_addWire 30 = .ok (.iconst 1, 1) := by decide +kernel
theorem dX3_addWire_31 : decode cX3_addWire 31 = .ok (.if_icmp .lt 9, 3) := by decide +kernel
theorem dX3_addWire_34 : decode cX3_addWire 34 = .ok (.iload 4, 2) := by decide +kernel
theorem dX3_addWire_36 : decode cX3_addWire 36 = .ok (.iconst 4, 1) := by decide +kernel
theorem dX3_addWire_37 : decode cX3_addWire 37 = .ok (.if_icmp .le 6, 3) := by decide +kernel
theorem dX3_addWire_40 : decode cX3_addWire 40 = .ok (.bipush (-2), 2) := by decide +kernel
theorem dX3_addWire_42 : decode cX3_addWire 42 = .ok (.ireturn, 1) := by decide +kernel
theorem dX3_addWire_43 : decode cX3_addWire 43 = .ok (.aload_n 0, 1) := by decide +kernel
theorem dX3_addWire_44 : decode cX3_addWire 44 = .ok (.getfield 29, 3) := by decide +kernel
theorem dX3_addWire_47 : decode cX3_addWire 47 = .ok (.bipush 8, 2) := by decide +kernel
theorem dX3_addWire_49 : decode cX3_addWire 49 = .ok (.if_icmp .lt 6, 3) := by decide +kernel
theorem dX3_addWire_52 : decode cX3_addWire 52 = .ok (.bipush (-4), 2) := by decide +kernel
theorem dX3_addWire_54 : decode cX3_addWire 54 = .ok (.ireturn, 1) := by decide +kernel
theorem dX3_addWire_55 : decode cX3_addWire 55 = .ok (.aload_n 0, 1) := by decide +kernel
theorem dX3_addWire_56 : decode cX3_addWire 56 = .ok (.getfield 20, 3) := by decide +kernel
theorem dX3_addWire_59 : decode cX3_addWire 59 = .ok (.aload_n 0, 1) := by decide +kernel
theorem dX3_addWire_60 : decode cX3_addWire 60 = .ok (.getfield 29, 3) := by decide +kernel
theorem dX3_addWire_63 : decode cX3_addWire 63 = .ok (.aaload, 1) := by decide +kernel
theorem dX3_addWire_64 : decode cX3_addWire 64 = .ok (.iload_n 1, 1) := by decide +kernel
theorem dX3_addWire_65 : decode cX3_addWire 65 = .ok (.iload_n 2, 1) := by decide +kernel
theorem dX3_addWire_66 : decode cX3_addWire 66 = .ok (.iload_n 3, 1) := by decide +kernel
theorem dX3_addWire_67 : decode cX3_addWire 67 = .ok (.iload 4, 2) := by decide +kernel
theorem dX3_addWire_69 : decode cX3_addWire 69 = .ok (.invokevirtual 51, 3) := by decide +kernel
theorem dX3_addWire_72 : decode cX3_addWire 72 = .ok (.aload_n 0, 1) := by decide +kernel
theorem dX3_addWire_73 : decode cX3_addWire 73 = .ok (.dup, 1) := by decide +kernel
theorem dX3_addWire_74 : decode cX3_addWire 74 = .ok (.getfield 29, 3) := by decide +kernel
theorem dX3_addWire_77 : decode cX3_addWire 77 = .ok (.iconst 1, 1) := by decide +kernel
theorem dX3_addWire_78 : decode cX3_addWire 78 = .ok (.iadd, 1) := by decide +kernel
theorem dX3_addWire_79 : decode cX3_addWire 79 = .ok (.putfield 29, 3) := by decide +kernel
theorem dX3_addWire_82 : decode cX3_addWire 82 = .ok (.aload_n 0, 1) := by decide +kernel
theorem dX3_addWire_83 : decode cX3_addWire 83 = .ok (.getfield 29, 3) := by decide +kernel
theorem dX3_addWire_86 : decode cX3_addWire 86 = .ok (.iconst 1, 1) := by decide +kernel
theorem dX3_addWire_87 : decode cX3_addWire 87 = .ok (.isub, 1) := by decide +kernel
theorem dX3_addWire_88 : decode cX3_addWire 88 = .ok (.ireturn, 1) := by decide +kernel
theorem dX3_fireBox_0 : decode cX3_fireBox 0 = .ok (.aload_n 0, 1) := by decide +kernel
theorem dX3_fireBox_1 : decode cX3_fireBox 1 = .ok (.iload_n 1, 1) := by decide +kernel
theorem dX3_fireBox_2 : decode cX3_fireBox 2 = .ok (.invokevirtual 47, 3) := by decide +kernel
theorem dX3_fireBox_5 : decode cX3_fireBox 5 = .ok (.ifCond .ne 5, 3) := by decide +kernel
theorem dX3_fireBox_8 : decode cX3_fireBox 8 = .ok (.iconst 0, 1) := by decide +kernel
theorem dX3_fireBox_9 : decode cX3_fireBox 9 = .ok (.ireturn, 1) := by decide +kernel
theorem dX3_fireBox_10 : decode cX3_fireBox 10 = .ok (.aload_n 0, 1) := by decide +kernel
theorem dX3_fireBox_11 : decode cX3_fireBox 11 = .ok (.getfield 11, 3) := by decide +kernel
theorem dX3_fireBox_14 : decode cX3_fireBox 14 = .ok (.iload_n 1, 1) := by decide +kernel
theorem dX3_fireBox_15 : decode cX3_fireBox 15 = .ok (.aaload, 1) := by decide +kernel
theorem dX3_fireBox_16 : decode cX3_fireBox 16 = .ok (.astore_n 2, 1) := by decide +kernel
theorem dX3_fireBox_17 : decode cX3_fireBox 17 = .ok (.aload_n 0, 1) := by decide +kernel
theorem dX3_fireBox_18 : decode cX3_fireBox 18 = .ok (.iload_n 1, 1) := by decide +kernel
theorem dX3_fireBox_19 : decode cX3_fireBox 19 = .ok (.aload_n 2, 1) := by decide +kernel
theorem dX3_fireBox_20 : decode cX3_fireBox 20 = .ok (.invokevirtual 54, 3) := by decide +kernel
theorem dX3_fireBox_23 : decode cX3_fireBox 23 = .ok (.istore_n 3, 1) := by decide +kernel
theorem dX3_fireBox_24 : decode cX3_fireBox 24 = .ok (.iconst 0, 1) := by decide +kernel
theorem dX3_fireBox_25 : decode cX3_fireBox 25 = .ok (.istore 4, 2) := by decide +kernel
theorem dX3_fireBox_27 : decode cX3_fireBox 27 = .ok (.iload 4, 2) := by decide +kernel
theorem dX3_fireBox_29 : decode cX3_fireBox 29 = .ok (.bipush 8, 2) := by decide +kernel
theorem dX3_fireBox_31 : decode cX3_fireBox 31 = .ok (.if_icmp .ge 35, 3) := by decide +kernel
theorem dX3_fireBox_34 : decode cX3_fireBox 34 = .ok (.aload_n 0, 1) := by decide +kernel
theorem dX3_fireBox_35 : decode cX3_fireBox 35 = .ok (.getfield 20, 3) := by decide +kernel
theorem dX3_fireBox_38 : decode cX3_fireBox 38 = .ok (.iload 4, 2) := by decide +kernel
theorem dX3_fireBox_40 : decode cX3_fireBox 40 = .ok (.aaload, 1) := by decide +kernel
theorem dX3_fireBox_41 : decode cX3_fireBox 41 = .ok (.iload_n 1, 1) := by decide +kernel
theorem dX3_fireBox_42 : decode cX3_fireBox 42 = .ok (.invokevirtual 58, 3) := by decide +kernel
theorem dX3_fireBox_45 : decode cX3_fireBox 45 = .ok (.ifCond .eq 15, 3) := by decide +kernel
theorem dX3_fireBox_48 : decode cX3_fireBox 48 = .ok (.aload_n 0, 1) := by decide +kernel
theorem dX3_fireBox_49 : decode cX3_fireBox 49 = .ok (.getfield 20, 3) := by decide +kernel
theorem dX3_fireBox_52 : decode cX3_fireBox 52 = .ok (.iload 4, 2) := by decide +kernel
theorem dX3_fireBox_54 : decode cX3_fireBox 54 = .ok (.aaload, 1) := by decide +kernel
theorem dX3_fireBox_55 : decode cX3_fireBox 55 = .ok (.aload_n 2, 1) := by decide +kernel
theorem dX3_fireBox_56 : decode cX3_fireBox 56 = .ok (.iload_n 3, 1) := by decide +kernel
theorem dX3_fireBox_57 : decode cX3_fireBox 57 = .ok (.invokestatic 61, 3) := by decide +kernel
theorem dX3_fireBox_60 : decode cX3_fireBox 60 = .ok (.iinc 4 1, 3) := by decide +kernel
theorem dX3_fireBox_63 : decode cX3_fireBox 63 = .ok (.goto (-36), 3) := by decide +kernel
theorem dX3_fireBox_66 : decode cX3_fireBox 66 = .ok (.aload_n 2, 1) := by decide +kernel
theorem dX3_fireBox_67 : decode cX3_fireBox 67 = .ok (.invokevirtual 65, 3) := by decide +kernel
theorem dX3_fireBox_70 : decode cX3_fireBox 70 = .ok (.iload_n 3, 1) := by decide +kernel
theorem dX3_fireBox_71 : decode cX3_fireBox 71 = .ok (.ireturn, 1) := by decide +kernel
theorem dX3_takeAll_0 : decode cX3_takeAll 0 = .ok (.aload_n 2, 1) := by decide +kernel
theorem dX3_takeAll_1 : decode cX3_takeAll 1 = .ok (.invokevirtual 68, 3) := by decide +kernel
theorem dX3_takeAll_4 : decode cX3_takeAll 4 = .ok (.istore_n 3, 1) := by decide +kernel
theorem dX3_takeAll_5 : decode cX3_takeAll 5 = .ok (.iconst 0, 1) := by decide +kernel
theorem dX3_takeAll_6 : decode cX3_takeAll 6 = .ok (.istore 4, 2) := by decide +kernel
theorem dX3_takeAll_8 : decode cX3_takeAll 8 = .ok (.iload 4, 2) := by decide +kernel
theorem dX3_takeAll_10 : decode cX3_takeAll 10 = .ok (.bipush 8, 2) := by decide +kernel
theorem dX3_takeAll_12 : decode cX3_takeAll 12 = .ok (.if_icmp .ge 65, 3) := by decide +kernel
theorem dX3_takeAll_15 : decode cX3_takeAll 15 = .ok (.aload_n 0, 1) := by decide +kernel
theorem dX3_takeAll_16 : decode cX3_takeAll 16 = .ok (.getfield 20, 3) := by decide +kernel
theorem dX3_takeAll_19 : decode cX3_takeAll 19 = .ok (.iload 4, 2) := by decide +kernel
theorem dX3_takeAll_21 : decode cX3_takeAll 21 = .ok (.aaload, 1) := by decide +kernel
theorem dX3_takeAll_22 : decode cX3_takeAll 22 = .ok (.astore 5, 2) := by decide +kernel
theorem dX3_takeAll_24 : decode cX3_takeAll 24 = .ok (.aload 5, 2) := by decide +kernel
theorem dX3_takeAll_26 : decode cX3_takeAll 26 = .ok (.iload_n 1, 1) := by decide +kernel
theorem dX3_takeAll_27 : decode cX3_takeAll 27 = .ok (.invokevirtual 72, 3) := by decide +kernel
theorem dX3_takeAll_30 : decode cX3_takeAll 30 = .ok (.ifCond .eq 11, 3) := by decide +kernel
theorem dX3_takeAll_33 : decode cX3_takeAll 33 = .ok (.aload 5, 2) := by decide +kernel
theorem dX3_takeAll_35 : decode cX3_takeAll 35 = .ok (.getfield 75, 3) := by decide +kernel
theorem dX3_takeAll_38 : decode cX3_takeAll 38 = .ok (.goto 4, 3) := by decide +kernel
theorem dX3_takeAll_41 : decode cX3_takeAll 41 = .ok (.iconst 0, 1) := by decide +kernel
theorem dX3_takeAll_42 : decode cX3_takeAll 42 = .ok (.istore 6, 2) := by decide +kernel
theorem dX3_takeAll_44 : decode cX3_takeAll 44 = .ok (.iconst 0, 1) := by decide +kernel
theorem dX3_takeAll_45 : decode cX3_takeAll 45 = .ok (.istore 7, 2) := by decide +kernel
theorem dX3_takeAll_47 : decode cX3_takeAll 47 = .ok (.iload 7, 2) := by decide +kernel
theorem dX3_takeAll_49 : decode cX3_takeAll 49 = .ok (.iload 6, 2) := by decide +kernel
theorem dX3_takeAll_51 : decode cX3_takeAll 51 = .ok (.if_icmp .ge 20, 3) := by decide +kernel
theorem dX3_takeAll_54 : decode cX3_takeAll 54 = .ok (.aload_n 2, 1) := by decide +kernel
theorem dX3_takeAll_55 : decode cX3_takeAll 55 = .ok (.iload_n 3, 1) := by decide +kernel
theorem dX3_takeAll_56 : decode cX3_takeAll 56 = .ok (.aload 5, 2) := by decide +kernel
theorem dX3_takeAll_58 : decode cX3_takeAll 58 = .ok (.invokevirtual 78, 3) := by decide +kernel
theorem dX3_takeAll_61 : decode cX3_takeAll 61 = .ok (.invokevirtual 81, 3) := by decide +kernel
theorem dX3_takeAll_64 : decode cX3_takeAll 64 = .ok (.istore_n 3, 1) := by decide +kernel
theorem dX3_takeAll_65 : decode cX3_takeAll 65 = .ok (.iinc 7 1, 3) := by decide +kernel
theorem dX3_takeAll_68 : decode cX3_takeAll 68 = .ok (.goto (-21), 3) := by decide +kernel
theorem dX3_takeAll_71 : decode cX3_takeAll 71 = .ok (.iinc 4 1, 3) := by decide +kernel
theorem dX3_takeAll_74 : decode cX3_takeAll 74 = .ok (.goto (-66), 3) := by decide +kernel
theorem dX3_takeAll_77 : decode cX3_takeAll 77 = .ok (.iload_n 3, 1) := by decide +kernel
theorem dX3_takeAll_78 : decode cX3_takeAll 78 = .ok (.ireturn, 1) := by decide +kernel
theorem dX3_putOn_0 : decode cX3_putOn 0 = .ok (.iconst 0, 1) := by decide +kernel
theorem dX3_putOn_1 : decode cX3_putOn 1 = .ok (.istore_n 3, 1) := by decide +kernel
theorem dX3_putOn_2 : decode cX3_putOn 2 = .ok (.iload_n 3, 1) := by decide +kernel
theorem dX3_putOn_3 : decode cX3_putOn 3 = .ok (.aload_n 0, 1) := by decide +kernel
theorem dX3_putOn_4 : decode cX3_putOn 4 = .ok (.getfield 85, 3) := by decide +kernel
theorem dX3_putOn_7 : decode cX3_putOn 7 = .ok (.if_icmp .ge 19, 3) := by decide +kernel
theorem dX3_putOn_10 : decode cX3_putOn 10 = .ok (.aload_n 0, 1) := by decide +kernel
theorem dX3_putOn_11 : decode cX3_putOn 11 = .ok (.aload_n 1, 1) := by decide +kernel
theorem dX3_putOn_12 : decode cX3_putOn 12 = .ok (.iload_n 2, 1) := by decide +kernel
theorem dX3_putOn_13 : decode cX3_putOn 13 = .ok (.iload_n 3, 1) := by decide +kernel
theorem dX3_putOn_14 : decode cX3_putOn 14 = .ok (.invokevirtual 88, 3) := by decide +kernel
theorem dX3_putOn_17 : decode cX3_putOn 17 = .ok (.invokevirtual 91, 3) := by decide +kernel
theorem dX3_putOn_20 : decode cX3_putOn 20 = .ok (.iinc 3 1, 3) := by decide +kernel
theorem dX3_putOn_23 : decode cX3_putOn 23 = .ok (.goto (-21), 3) := by decide +kernel
theorem dX3_putOn_26 : decode cX3_putOn 26 = .ok (.return_, 1) := by decide +kernel
theorem dX3_wiresTo_0 : decode cX3_wiresTo 0 = .ok (.iconst 0, 1) := by decide +kernel
theorem dX3_wiresTo_1 : decode cX3_wiresTo 1 = .ok (.istore_n 2, 1) := by decide +kernel
theorem dX3_wiresTo_2 : decode cX3_wiresTo 2 = .ok (.iconst 0, 1) := by decide +kernel
theorem dX3_wiresTo_3 : decode cX3_wiresTo 3 = .ok (.istore_n 3, 1) := by decide +kernel
theorem dX3_wiresTo_4 : decode cX3_wiresTo 4 = .ok (.iload_n 3, 1) := by decide +kernel
theorem dX3_wiresTo_5 : decode cX3_wiresTo 5 = .ok (.bipush 8, 2) := by decide +kernel
theorem dX3_wiresTo_7 : decode cX3_wiresTo 7 = .ok (.if_icmp .ge 32, 3) := by decide +kernel
theorem dX3_wiresTo_10 : decode cX3_wiresTo 10 = .ok (.iload_n 2, 1) := by decide +kernel
theorem dX3_wiresTo_11 : decode cX3_wiresTo 11 = .ok (.aload_n 0, 1) := by decide +kernel
theorem dX3_wiresTo_12 : decode cX3_wiresTo 12 = .ok (.getfield 20, 3) := by decide +kernel
theorem dX3_wiresTo_15 : decode cX3_wiresTo 15 = .ok (.iload_n 3, 1) := by decide +kernel
theorem dX3_wiresTo_16 : decode cX3_wiresTo 16 = .ok (.aaload, 1) := by decide +kernel
theorem dX3_wiresTo_17 : decode cX3_wiresTo 17 = .ok (.iload_n 1, 1) := by decide +kernel
theorem dX3_wiresTo_18 : decode cX3_wiresTo 18 = .ok (.invokevirtual 72, 3) := by decide +kernel
theorem dX3_wiresTo_21 : decode cX3_wiresTo 21 = .ok (.ifCond .eq 9, 3) := by decide +kernel
theorem dX3_wiresTo_24 : decode cX3_wiresTo 24 = .ok (.iconst 1, 1) := by decide +kernel
theorem dX3_wiresTo_25 : decode cX3_wiresTo 25 = .ok (.iload_n 3, 1) := by decide +kernel
theorem dX3_wiresTo_26 : decode cX3_wiresTo 26 = .ok (.ishl, 1) := by decide +kernel
theorem dX3_wiresTo_27 : decode cX3_wiresTo 27 = .ok (.goto 4, 3) := by decide +kernel
theorem dX3_wiresTo_30 : decode cX3_wiresTo 30 = .ok (.iconst 0, 1) := by decide +kernel
theorem dX3_wiresTo_31 : decode cX3_wiresTo 31 = .ok (.ior, 1) := by decide +kernel
theorem dX3_wiresTo_32 : decode cX3_wiresTo 32 = .ok (.istore_n 2, 1) := by decide +kernel
theorem dX3_wiresTo_33 : decode cX3_wiresTo 33 = .ok (.iinc 3 1, 3) := by decide +kernel
theorem dX3_wiresTo_36 : decode cX3_wiresTo 36 = .ok (.goto (-32), 3) := by decide +kernel
theorem dX3_wiresTo_39 : decode cX3_wiresTo 39 = .ok (.iload_n 2, 1) := by decide +kernel
theorem dX3_wiresTo_40 : decode cX3_wiresTo 40 = .ok (.ireturn, 1) := by decide +kernel
theorem dX3_wiresFrom_0 : decode cX3_wiresFrom 0 = .ok (.iconst 0, 1) := by decide +kernel
theorem dX3_wiresFrom_1 : decode cX3_wiresFrom 1 = .ok (.istore_n 2, 1) := by decide +kernel
theorem dX3_wiresFrom_2 : decode cX3_wiresFrom 2 = .ok (.iconst 0, 1) := by decide +kernel
theorem dX3_wiresFrom_3 : decode cX3_wiresFrom 3 = .ok (.istore_n 3, 1) := by decide +kernel
theorem dX3_wiresFrom_4 : decode cX3_wiresFrom 4 = .ok (.iload_n 3, 1) := by decide +kernel
theorem dX3_wiresFrom_5 : decode cX3_wiresFrom 5 = .ok (.bipush 8, 2) := by decide +kernel
theorem dX3_wiresFrom_7 : decode cX3_wiresFrom 7 = .ok (.if_icmp .ge 32, 3) := by decide +kernel
theorem dX3_wiresFrom_10 : decode cX3_wiresFrom 10 = .ok (.iload_n 2, 1) := by decide +kernel
theorem dX3_wiresFrom_11 : decode cX3_wiresFrom 11 = .ok (.aload_n 0, 1) := by decide +kernel
theorem dX3_wiresFrom_12 : decode cX3_wiresFrom 12 = .ok (.getfield 20, 3) := by decide +kernel
theorem dX3_wiresFrom_15 : decode cX3_wiresFrom 15 = .ok (.iload_n 3, 1) := by decide +kernel
theorem dX3_wiresFrom_16 : decode cX3_wiresFrom 16 = .ok (.aaload, 1) := by decide +kernel
theorem dX3_wiresFrom_17 : decode cX3_wiresFrom 17 = .ok (.iload_n 1, 1) := by decide +kernel
theorem dX3_wiresFrom_18 : decode cX3_wiresFrom 18 = .ok (.invokevirtual 58, 3) := by decide +kernel
theorem dX3_wiresFrom_21 : decode cX3_wiresFrom 21 = .ok (.ifCond .eq 9, 3) := by decide +kernel
theorem dX3_wiresFrom_24 : decode cX3_wiresFrom 24 = .ok (.iconst 1, 1) := by decide +kernel
theorem dX3_wiresFrom_25 : decode cX3_wiresFrom 25 = .ok (.iload_n 3, 1) := by decide +kernel
theorem dX3_wiresFrom_26 : decode cX3_wiresFrom 26 = .ok (.ishl, 1) := by decide +kernel
theorem dX3_wiresFrom_27 : decode cX3_wiresFrom 27 = .ok (.goto 4, 3) := by decide +kernel
theorem dX3_wiresFrom_30 : decode cX3_wiresFrom 30 = .ok (.iconst 0, 1) := by decide +kernel
theorem dX3_wiresFrom_31 : decode cX3_wiresFrom 31 = .ok (.ior, 1) := by decide +kernel
theorem dX3_wiresFrom_32 : decode cX3_wiresFrom 32 = .ok (.istore_n 2, 1) := by decide +kernel
theorem dX3_wiresFrom_33 : decode cX3_wiresFrom 33 = .ok (.iinc 3 1, 3) := by decide +kernel
theorem dX3_wiresFrom_36 : decode cX3_wiresFrom 36 = .ok (.goto (-32), 3) := by decide +kernel
theorem dX3_wiresFrom_39 : decode cX3_wiresFrom 39 = .ok (.iload_n 2, 1) := by decide +kernel
theorem dX3_wiresFrom_40 : decode cX3_wiresFrom 40 = .ok (.ireturn, 1) := by decide +kernel
theorem dX3_wiresThere_0 : decode cX3_wiresThere 0 = .ok (.iconst 0, 1) := by decide +kernel
theorem dX3_wiresThere_1 : decode cX3_wiresThere 1 = .ok (.istore_n 1, 1) := by decide +kernel
theorem dX3_wiresThere_2 : decode cX3_wiresThere 2 = .ok (.iconst 0, 1) := by decide +kernel
theorem dX3_wiresThere_3 : decode cX3_wiresThere 3 = .ok (.istore_n 2, 1) := by decide +kernel
theorem dX3_wiresThere_4 : decode cX3_wiresThere 4 = .ok (.iload_n 2, 1) := by decide +kernel
theorem dX3_wiresThere_5 : decode cX3_wiresThere 5 = .ok (.bipush 8, 2) := by decide +kernel
theorem dX3_wiresThere_7 : decode cX3_wiresThere 7 = .ok (.if_icmp .ge 29, 3) := by decide +kernel
theorem dX3_wiresThere_10 : decode cX3_wiresThere 10 = .ok (.iload_n 1, 1) := by decide +kernel
theorem dX3_wiresThere_11 : decode cX3_wiresThere 11 = .ok (.aload_n 0, 1) := by decide +kernel
theorem dX3_wiresThere_12 : decode cX3_wiresThere 12 = .ok (.getfield 20, 3) := by decide +kernel
theorem dX3_wiresThere_15 : decode cX3_wiresThere 15 = .ok (.iload_n 2, 1) := by decide +kernel
theorem dX3_wiresThere_16 : decode cX3_wiresThere 16 = .ok (.aaload, 1) := by decide +kernel
theorem dX3_wiresThere_17 : decode cX3_wiresThere 17 = .ok (.getfield 39, 3) := by decide +kernel
theorem dX3_wiresThere_20 : decode cX3_wiresThere 20 = .ok (.ifCond .eq 7, 3) := by decide +kernel
theorem dX3_wiresThere_23 : decode cX3_wiresThere 23 = .ok (.iconst 1, 1) := by decide +kernel
theorem dX3_wiresThere_24 : decode cX3_wiresThere 24 = .ok (.goto 4, 3) := by decide +kernel
theorem dX3_wiresThere_27 : decode cX3_wiresThere 27 = .ok (.iconst 0, 1) := by decide +kernel
theorem dX3_wiresThere_28 : decode cX3_wiresThere 28 = .ok (.iadd, 1) := by decide +kernel
theorem dX3_wiresThere_29 : decode cX3_wiresThere 29 = .ok (.istore_n 1, 1) := by decide +kernel
theorem dX3_wiresThere_30 : decode cX3_wiresThere 30 = .ok (.iinc 2 1, 3) := by decide +kernel
theorem dX3_wiresThere_33 : decode cX3_wiresThere 33 = .ok (.goto (-29), 3) := by decide +kernel
theorem dX3_wiresThere_36 : decode cX3_wiresThere 36 = .ok (.iload_n 1, 1) := by decide +kernel
theorem dX3_wiresThere_37 : decode cX3_wiresThere 37 = .ok (.ireturn, 1) := by decide +kernel
theorem dX3_feedback_0 : decode cX3_feedback 0 = .ok (.aload_n 0, 1) := by decide +kernel
theorem dX3_feedback_1 : decode cX3_feedback 1 = .ok (.iload_n 1, 1) := by decide +kernel
theorem dX3_feedback_2 : decode cX3_feedback 2 = .ok (.invokevirtual 95, 3) := by decide +kernel
theorem dX3_feedback_5 : decode cX3_feedback 5 = .ok (.istore_n 2, 1) := by decide +kernel
theorem dX3_feedback_6 : decode cX3_feedback 6 = .ok (.iconst 0, 1) := by decide +kernel
theorem dX3_feedback_7 : decode cX3_feedback 7 = .ok (.istore_n 3, 1) := by decide +kernel
theorem dX3_feedback_8 : decode cX3_feedback 8 = .ok (.iconst 0, 1) := by decide +kernel
theorem dX3_feedback_9 : decode cX3_feedback 9 = .ok (.istore 4, 2) := by decide +kernel
theorem dX3_feedback_11 : decode cX3_feedback 11 = .ok (.iload 4, 2) := by decide +kernel
theorem dX3_feedback_13 : decode cX3_feedback 13 = .ok (.bipush 6, 2) := by decide +kernel
theorem dX3_feedback_15 : decode cX3_feedback 15 = .ok (.if_icmp .ge 56, 3) := by decide +kernel
theorem dX3_feedback_18 : decode cX3_feedback 18 = .ok (.iload_n 2, 1) := by decide +kernel
theorem dX3_feedback_19 : decode cX3_feedback 19 = .ok (.iload 4, 2) := by decide +kernel
theorem dX3_feedback_21 : decode cX3_feedback 21 = .ok (.ishr, 1) := by decide +kernel
theorem dX3_feedback_22 : decode cX3_feedback 22 = .ok (.iconst 1, 1) := by decide +kernel
theorem dX3_feedback_23 : decode cX3_feedback 23 = .ok (.iand, 1) := by decide +kernel
theorem dX3_feedback_24 : decode cX3_feedback 24 = .ok (.iconst 1, 1) := by decide +kernel
theorem dX3_feedback_25 : decode cX3_feedback 25 = .ok (.if_icmp .ne 21, 3) := by decide +kernel
theorem dX3_feedback_28 : decode cX3_feedback 28 = .ok (.aload_n 0, 1) := by decide +kernel
theorem dX3_feedback_29 : decode cX3_feedback 29 = .ok (.iload 4, 2) := by decide +kernel
theorem dX3_feedback_31 : decode cX3_feedback 31 = .ok (.invokevirtual 95, 3) := by decide +kernel
theorem dX3_feedback_34 : decode cX3_feedback 34 = .ok (.iload_n 1, 1) := by decide +kernel
theorem dX3_feedback_35 : decode cX3_feedback 35 = .ok (.ishr, 1) := by decide +kernel
theorem dX3_feedback_36 : decode cX3_feedback 36 = .ok (.iconst 1, 1) := by decide +kernel
theorem dX3_feedback_37 : decode cX3_feedback 37 = .ok (.iand, 1) := by decide +kernel
theorem dX3_feedback_38 : decode cX3_feedback 38 = .ok (.iconst 1, 1) := by decide +kernel
theorem dX3_feedback_39 : decode cX3_feedback 39 = .ok (.if_icmp .ne 7, 3) := by decide +kernel
theorem dX3_feedback_42 : decode cX3_feedback 42 = .ok (.iconst 1, 1) := by decide +kernel
theorem dX3_feedback_43 : decode cX3_feedback 43 = .ok (.goto 4, 3) := by decide +kernel
theorem dX3_feedback_46 : decode cX3_feedback 46 = .ok (.iconst 0, 1) := by decide +kernel
theorem dX3_feedback_47 : decode cX3_feedback 47 = .ok (.istore 5, 2) := by decide +kernel
theorem dX3_feedback_49 : decode cX3_feedback 49 = .ok (.iload_n 3, 1) := by decide +kernel
theorem dX3_feedback_50 : decode cX3_feedback 50 = .ok (.iload 5, 2) := by decide +kernel
theorem dX3_feedback_52 : decode cX3_feedback 52 = .ok (.ifCond .eq 10, 3) := by decide +kernel
theorem dX3_feedback_55 : decode cX3_feedback 55 = .ok (.iconst 1, 1) := by decide +kernel
theorem dX3_feedback_56 : decode cX3_feedback 56 = .ok (.iload 4, 2) := by decide +kernel
theorem dX3_feedback_58 : decode cX3_feedback 58 = .ok (.ishl, 1) := by decide +kernel
theorem dX3_feedback_59 : decode cX3_feedback 59 = .ok (.goto 4, 3) := by decide +kernel
theorem dX3_feedback_62 : decode cX3_feedback 62 = .ok (.iconst 0, 1) := by decide +kernel
theorem dX3_feedback_63 : decode cX3_feedback 63 = .ok (.ior, 1) := by decide +kernel
theorem dX3_feedback_64 : decode cX3_feedback 64 = .ok (.istore_n 3, 1) := by decide +kernel
theorem dX3_feedback_65 : decode cX3_feedback 65 = .ok (.iinc 4 1, 3) := by decide +kernel
theorem dX3_feedback_68 : decode cX3_feedback 68 = .ok (.goto (-57), 3) := by decide +kernel
theorem dX3_feedback_71 : decode cX3_feedback 71 = .ok (.iload_n 3, 1) := by decide +kernel
theorem dX3_feedback_72 : decode cX3_feedback 72 = .ok (.ireturn, 1) := by decide +kernel
theorem dX3_reachedFrom_0 : decode cX3_reachedFrom 0 = .ok (.aload_n 0, 1) := by decide +kernel
theorem dX3_reachedFrom_1 : decode cX3_reachedFrom 1 = .ok (.iconst 1, 1) := by decide +kernel
theorem dX3_reachedFrom_2 : decode cX3_reachedFrom 2 = .ok (.iload_n 1, 1) := by decide +kernel
theorem dX3_reachedFrom_3 : decode cX3_reachedFrom 3 = .ok (.ishl, 1) := by decide +kernel
theorem dX3_reachedFrom_4 : decode cX3_reachedFrom 4 = .ok (.invokevirtual 99, 3) := by decide +kernel
theorem dX3_reachedFrom_7 : decode cX3_reachedFrom 7 = .ok (.istore_n 2, 1) := by decide +kernel
theorem dX3_reachedFrom_8 : decode cX3_reachedFrom 8 = .ok (.iconst 1, 1) := by decide +kernel
theorem dX3_reachedFrom_9 : decode cX3_reachedFrom 9 = .ok (.istore_n 3, 1) := by decide +kernel
theorem dX3_reachedFrom_10 : decode cX3_reachedFrom 10 = .ok (.iload_n 3, 1) := by decide +kernel
theorem dX3_reachedFrom_11 : decode cX3_reachedFrom 11 = .ok (.bipush 6, 2) := by decide +kernel
theorem dX3_reachedFrom_13 : decode cX3_reachedFrom 13 = .ok (.if_icmp .ge 17, 3) := by decide +kernel
theorem dX3_reachedFrom_16 : decode cX3_reachedFrom 16 = .ok (.iload_n 2, 1) := by decide +kernel
theorem dX3_reachedFrom_17 : decode cX3_reachedFrom 17 = .ok (.aload_n 0, 1) := by decide +kernel
theorem dX3_reachedFrom_18 : decode cX3_reachedFrom 18 = .ok (.iload_n 2, 1) := by decide +kernel
theorem dX3_reachedFrom_19 : decode cX3_reachedFrom 19 = .ok (.invokevirtual 99, 3) := by decide +kernel
theorem dX3_reachedFrom_22 : decode cX3_reachedFrom 22 = .ok (.ior, 1) := by decide +kernel
theorem dX3_reachedFrom_23 : decode cX3_reachedFrom 23 = .ok (.istore_n 2, 1) := by decide +kernel
theorem dX3_reachedFrom_24 : decode cX3_reachedFrom 24 = .ok (.iinc 3 1, 3) := by decide +kernel
theorem dX3_reachedFrom_27 : decode cX3_reachedFrom 27 = .ok (.goto (-17), 3) := by decide +kernel
theorem dX3_reachedFrom_30 : decode cX3_reachedFrom 30 = .ok (.iload_n 2, 1) := by decide +kernel
theorem dX3_reachedFrom_31 : decode cX3_reachedFrom 31 = .ok (.ireturn, 1) := by decide +kernel
theorem dX3_onwardFrom_0 : decode cX3_onwardFrom 0 = .ok (.iconst 0, 1) := by decide +kernel
theorem dX3_onwardFrom_1 : decode cX3_onwardFrom 1 = .ok (.istore_n 2, 1) := by decide +kernel
theorem dX3_onwardFrom_2 : decode cX3_onwardFrom 2 = .ok (.iconst 0, 1) := by decide +kernel
theorem dX3_onwardFrom_3 : decode cX3_onwardFrom 3 = .ok (.istore_n 3, 1) := by decide +kernel
theorem dX3_onwardFrom_4 : decode cX3_onwardFrom 4 = .ok (.iload_n 3, 1) := by decide +kernel
theorem dX3_onwardFrom_5 : decode cX3_onwardFrom 5 = .ok (.bipush 8, 2) := by decide +kernel
theorem dX3_onwardFrom_7 : decode cX3_onwardFrom 7 = .ok (.if_icmp .ge 48, 3) := by decide +kernel
theorem dX3_onwardFrom_10 : decode cX3_onwardFrom 10 = .ok (.aload_n 0, 1) := by decide +kernel
theorem dX3_onwardFrom_11 : decode cX3_onwardFrom 11 = .ok (.getfield 20, 3) := by decide +kernel
theorem dX3_onwardFrom_14 : decode cX3_onwardFrom 14 = .ok (.iload_n 3, 1) := by decide +kernel
theorem dX3_onwardFrom_15 : decode cX3_onwardFrom 15 = .ok (.aaload, 1) := by decide +kernel
theorem dX3_onwardFrom_16 : decode cX3_onwardFrom 16 = .ok (.astore 4, 2) := by decide +kernel
theorem dX3_onwardFrom_18 : decode cX3_onwardFrom 18 = .ok (.aload 4, 2) := by decide +kernel
theorem dX3_onwardFrom_20 : decode cX3_onwardFrom 20 = .ok (.getfield 39, 3) := by decide +kernel
theorem dX3_onwardFrom_23 : decode cX3_onwardFrom 23 = .ok (.ifCond .eq 26, 3) := by decide +kernel
theorem dX3_onwardFrom_26 : decode cX3_onwardFrom 26 = .ok (.iload_n 1, 1) := by decide +kernel
theorem dX3_onwardFrom_27 : decode cX3_onwardFrom 27 = .ok (.aload 4, 2) := by decide +kernel
theorem dX3_onwardFrom_29 : decode cX3_onwardFrom 29 = .ok (.getfield 102, 3) := by decide +kernel
theorem dX3_onwardFrom_32 : decode cX3_onwardFrom 32 = .ok (.ishr, 1) := by decide +kernel
theorem dX3_onwardFrom_33 : decode cX3_onwardFrom 33 = .ok (.iconst 1, 1) := by decide +kernel
theorem dX3_onwardFrom_34 : decode cX3_onwardFrom 34 = .ok (.iand, 1) := by decide +kernel
theorem dX3_onwardFrom_35 : decode cX3_onwardFrom 35 = .ok (.iconst 1, 1) := by decide +kernel
theorem dX3_onwardFrom_36 : decode cX3_onwardFrom 36 = .ok (.if_icmp .ne 13, 3) := by decide +kernel
theorem dX3_onwardFrom_39 : decode cX3_onwardFrom 39 = .ok (.iload_n 2, 1) := by decide +kernel
theorem dX3_onwardFrom_40 : decode cX3_onwardFrom 40 = .ok (.iconst 1, 1) := by decide +kernel
theorem dX3_onwardFrom_41 : decode cX3_onwardFrom 41 = .ok (.aload 4, 2) := by decide +kernel
theorem dX3_onwardFrom_43 : decode cX3_onwardFrom 43 = .ok (.getfield 105, 3) := by decide +kernel
theorem dX3_onwardFrom_46 : decode cX3_onwardFrom 46 = .ok (.ishl, 1) := by decide +kernel
theorem dX3_onwardFrom_47 : decode cX3_onwardFrom 47 = .ok (.ior, 1) := by decide +kernel
theorem dX3_onwardFrom_48 : decode cX3_onwardFrom 48 = .ok (.istore_n 2, 1) := by decide +kernel
theorem dX3_onwardFrom_49 : decode cX3_onwardFrom 49 = .ok (.iinc 3 1, 3) := by decide +kernel
theorem dX3_onwardFrom_52 : decode cX3_onwardFrom 52 = .ok (.goto (-48), 3) := by decide +kernel
theorem dX3_onwardFrom_55 : decode cX3_onwardFrom 55 = .ok (.iload_n 2, 1) := by decide +kernel
theorem dX3_onwardFrom_56 : decode cX3_onwardFrom 56 = .ok (.ireturn, 1) := by decide +kernel
theorem dX3_tokenCount_0 : decode cX3_tokenCount 0 = .ok (.iconst 0, 1) := by decide +kernel
theorem dX3_tokenCount_1 : decode cX3_tokenCount 1 = .ok (.istore_n 1, 1) := by decide +kernel
theorem dX3_tokenCount_2 : decode cX3_tokenCount 2 = .ok (.iconst 0, 1) := by decide +kernel
theorem dX3_tokenCount_3 : decode cX3_tokenCount 3 = .ok (.istore_n 2, 1) := by decide +kernel
theorem dX3_tokenCount_4 : decode cX3_tokenCount 4 = .ok (.iload_n 2, 1) := by decide +kernel
theorem dX3_tokenCount_5 : decode cX3_tokenCount 5 = .ok (.bipush 8, 2) := by decide +kernel
theorem dX3_tokenCount_7 : decode cX3_tokenCount 7 = .ok (.if_icmp .ge 37, 3) := by decide +kernel
theorem dX3_tokenCount_10 : decode cX3_tokenCount 10 = .ok (.iload_n 1, 1) := by decide +kernel
theorem dX3_tokenCount_11 : decode cX3_tokenCount 11 = .ok (.aload_n 0, 1) := by decide +kernel
theorem dX3_tokenCount_12 : decode cX3_tokenCount 12 = .ok (.getfield 20, 3) := by decide +kernel
theorem dX3_tokenCount_15 : decode cX3_tokenCount 15 = .ok (.iload_n 2, 1) := by decide +kernel
theorem dX3_tokenCount_16 : decode cX3_tokenCount 16 = .ok (.aaload, 1) := by decide +kernel
theorem dX3_tokenCount_17 : decode cX3_tokenCount 17 = .ok (.getfield 39, 3) := by decide +kernel
theorem dX3_tokenCount_20 : decode cX3_tokenCount 20 = .ok (.ifCond .eq 15, 3) := by decide +kernel
theorem dX3_tokenCount_23 : decode cX3_tokenCount 23 = .ok (.aload_n 0, 1) := by decide +kernel
theorem dX3_tokenCount_24 : decode cX3_tokenCount 24 = .ok (.getfield 20, 3) := by decide +kernel
theorem dX3_tokenCount_27 : decode cX3_tokenCount 27 = .ok (.iload_n 2, 1) := by decide +kernel
theorem dX3_tokenCount_28 : decode cX3_tokenCount 28 = .ok (.aaload, 1) := by decide +kernel
theorem dX3_tokenCount_29 : decode cX3_tokenCount 29 = .ok (.getfield 108, 3) := by decide +kernel
theorem dX3_tokenCount_32 : decode cX3_tokenCount 32 = .ok (.goto 4, 3) := by decide +kernel
theorem dX3_tokenCount_35 : decode cX3_tokenCount 35 = .ok (.iconst 0, 1) := by decide +kernel
theorem dX3_tokenCount_36 : decode cX3_tokenCount 36 = .ok (.iadd, 1) := by decide +kernel
theorem dX3_tokenCount_37 : decode cX3_tokenCount 37 = .ok (.istore_n 1, 1) := by decide +kernel
theorem dX3_tokenCount_38 : decode cX3_tokenCount 38 = .ok (.iinc 2 1, 3) := by decide +kernel
theorem dX3_tokenCount_41 : decode cX3_tokenCount 41 = .ok (.goto (-37), 3) := by decide +kernel
theorem dX3_tokenCount_44 : decode cX3_tokenCount 44 = .ok (.iload_n 1, 1) := by decide +kernel
theorem dX3_tokenCount_45 : decode cX3_tokenCount 45 = .ok (.ireturn, 1) := by decide +kernel
theorem dX3_valuesTogether_0 : decode cX3_valuesTogether 0 = .ok (.lconst 0, 1) := by decide +kernel
theorem dX3_valuesTogether_1 : decode cX3_valuesTogether 1 = .ok (.lstore_n 1, 1) := by decide +kernel
theorem dX3_valuesTogether_2 : decode cX3_valuesTogether 2 = .ok (.iconst 0, 1) := by decide +kernel
theorem dX3_valuesTogether_3 : decode cX3_valuesTogether 3 = .ok (.istore_n 3, 1) := by decide +kernel
theorem dX3_valuesTogether_4 : decode cX3_valuesTogether 4 = .ok (.iload_n 3, 1) := by decide +kernel
theorem dX3_valuesTogether_5 : decode cX3_valuesTogether 5 = .ok (.bipush 8, 2) := by decide +kernel
theorem dX3_valuesTogether_7 : decode cX3_valuesTogether 7 = .ok (.if_icmp .ge 63, 3) := by decide +kernel
theorem dX3_valuesTogether_10 : decode cX3_valuesTogether 10 = .ok (.aload_n 0, 1) := by decide +kernel
theorem dX3_valuesTogether_11 : decode cX3_valuesTogether 11 = .ok (.getfield 20, 3) := by decide +kernel
theorem dX3_valuesTogether_14 : decode cX3_valuesTogether 14 = .ok (.iload_n 3, 1) := by decide +kernel
theorem dX3_valuesTogether_15 : decode cX3_valuesTogether 15 = .ok (.aaload, 1) := by decide +kernel
theorem dX3_valuesTogether_16 : decode cX3_valuesTogether 16 = .ok (.astore 4, 2) := by decide +kernel
theorem dX3_valuesTogether_18 : decode cX3_valuesTogether 18 = .ok (.aload 4, 2) := by decide +kernel
theorem dX3_valuesTogether_20 : decode cX3_valuesTogether 20 = .ok (.getfield 39, 3) := by decide +kernel
theorem dX3_valuesTogether_23 : decode cX3_valuesTogether 23 = .ok (.ifCond .eq 11, 3) := by decide +kernel
theorem dX3_valuesTogether_26 : decode cX3_valuesTogether 26 = .ok (.aload 4, 2) := by decide +kernel
theorem dX3_valuesTogether_28 : decode cX3_valuesTogether 28 = .ok (.getfield 108, 3) := by decide +kernel
theorem dX3_valuesTogether_31 : decode cX3_valuesTogether 31 = .ok (.goto 4, 3) := by decide +kernel
theorem dX3_valuesTogether_34 : decode cX3_valuesTogether 34 = .ok (.iconst 0, 1) := by decide +kernel
theorem dX3_valuesTogether_35 : decode cX3_valuesTogether 35 = .ok (.istore 5, 2) := by decide +kernel
theorem dX3_valuesTogether_37 : decode cX3_valuesTogether 37 = .ok (.iconst 0, 1) := by decide +kernel
theorem dX3_valuesTogether_38 : decode cX3_valuesTogether 38 = .ok (.istore 6, 2) := by decide +kernel
theorem dX3_valuesTogether_40 : decode cX3_valuesTogether 40 = .ok (.iload 6, 2) := by decide +kernel
theorem dX3_valuesTogether_42 : decode cX3_valuesTogether 42 = .ok (.iload 5, 2) := by decide +kernel
theorem dX3_valuesTogether_44 : decode cX3_valuesTogether 44 = .ok (.if_icmp .ge 20, 3) := by decide +kernel
theorem dX3_valuesTogether_47 : decode cX3_valuesTogether 47 = .ok (.lload_n 1, 1) := by decide +kernel
theorem dX3_valuesTogether_48 : decode cX3_valuesTogether 48 = .ok (.aload 4, 2) := by decide +kernel
theorem dX3_valuesTogether_50 : decode cX3_valuesTogether 50 = .ok (.iload 6, 2) := by decide +kernel
theorem dX3_valuesTogether_52 : decode cX3_valuesTogether 52 = .ok (.invokevirtual 111, 3) := by decide +kernel
theorem dX3_valuesTogether_55 : decode cX3_valuesTogether 55 = .ok (.i2l, 1) := by decide +kernel
theorem dX3_valuesTogether_56 : decode cX3_valuesTogether 56 = .ok (.ladd, 1) := by decide +kernel
theorem dX3_valuesTogether_57 : decode cX3_valuesTogether 57 = .ok (.lstore_n 1, 1) := by decide +kernel
theorem dX3_valuesTogether_58 : decode cX3_valuesTogether 58 = .ok (.iinc 6 1, 3) := by decide +kernel
theorem dX3_valuesTogether_61 : decode cX3_valuesTogether 61 = .ok (.goto (-21), 3) := by decide +kernel
theorem dX3_valuesTogether_64 : decode cX3_valuesTogether 64 = .ok (.iinc 3 1, 3) := by decide +kernel
theorem dX3_valuesTogether_67 : decode cX3_valuesTogether 67 = .ok (.goto (-63), 3) := by decide +kernel
theorem dX3_valuesTogether_70 : decode cX3_valuesTogether 70 = .ok (.lload_n 1, 1) := by decide +kernel
theorem dX3_valuesTogether_71 : decode cX3_valuesTogether 71 = .ok (.lreturn, 1) := by decide +kernel
theorem dX4_init_0 : decode cX4_init 0 = .ok (.aload_n 0, 1) := by decide +kernel
theorem dX4_init_1 : decode cX4_init 1 = .ok (.invokespecial 3, 3) := by decide +kernel
theorem dX4_init_4 : decode cX4_init 4 = .ok (.aload_n 0, 1) := by decide +kernel
theorem dX4_init_5 : decode cX4_init 5 = .ok (.new 9, 3) := by decide +kernel
theorem dX4_init_8 : decode cX4_init 8 = .ok (.dup, 1) := by decide +kernel
theorem dX4_init_9 : decode cX4_init 9 = .ok (.invokespecial 11, 3) := by decide +kernel
theorem dX4_init_12 : decode cX4_init 12 = .ok (.putfield 12, 3) := by decide +kernel
theorem dX4_init_15 : decode cX4_init 15 = .ok (.aload_n 0, 1) := by decide +kernel
theorem dX4_init_16 : decode cX4_init 16 = .ok (.bipush 6, 2) := by decide +kernel
theorem dX4_init_18 : decode cX4_init 18 = .ok (.newarray .int, 2) := by decide +kernel
theorem dX4_init_20 : decode cX4_init 20 = .ok (.putfield 18, 3) := by decide +kernel
theorem dX4_init_23 : decode cX4_init 23 = .ok (.aload_n 0, 1) := by decide +kernel
theorem dX4_init_24 : decode cX4_init 24 = .ok (.bipush 9, 2) := by decide +kernel
theorem dX4_init_26 : decode cX4_init 26 = .ok (.bipush 8, 2) := by decide +kernel
theorem dX4_init_28 : decode cX4_init 28 = .ok (.multianewarray 22 2, 4) := by decide +kernel
theorem dX4_init_32 : decode cX4_init 32 = .ok (.putfield 24, 3) := by decide +kernel
theorem dX4_init_35 : decode cX4_init 35 = .ok (.return_, 1) := by decide +kernel
theorem dX4_least_0 : decode cX4_least 0 = .ok (.aload_n 0, 1) := by decide +kernel
theorem dX4_least_1 : decode cX4_least 1 = .ok (.getfield 12, 3) := by decide +kernel
theorem dX4_least_4 : decode cX4_least 4 = .ok (.aload_n 1, 1) := by decide +kernel
theorem dX4_least_5 : decode cX4_least 5 = .ok (.invokevirtual 27, 3) := by decide +kernel
theorem dX4_least_8 : decode cX4_least 8 = .ok (.aload_n 2, 1) := by decide +kernel
theorem dX4_least_9 : decode cX4_least 9 = .ok (.getfield 31, 3) := by decide +kernel
theorem dX4_least_12 : decode cX4_least 12 = .ok (.iconst 0, 1) := by decide +kernel
theorem dX4_least_13 : decode cX4_least 13 = .ok (.aload_n 0, 1) := by decide +kernel
theorem dX4_least_14 : decode cX4_least 14 = .ok (.getfield 18, 3) := by decide +kernel
theorem dX4_least_17 : decode cX4_least 17 = .ok (.iconst 0, 1) := by decide +kernel
theorem dX4_least_18 : decode cX4_least 18 = .ok (.bipush 6, 2) := by decide +kernel
theorem dX4_least_20 : decode cX4_least 20 = .ok (.invokestatic 36, 3) := by decide +kernel
theorem dX4_least_23 : decode cX4_least 23 = .ok (.aload_n 0, 1) := by decide +kernel
theorem dX4_least_24 : decode cX4_least 24 = .ok (.aload_n 2, 1) := by decide +kernel
theorem dX4_least_25 : decode cX4_least 25 = .ok (.getfield 42, 3) := by decide +kernel
theorem dX4_least_28 : decode cX4_least 28 = .ok (.putfield 46, 3) := by decide +kernel
theorem dX4_least_31 : decode cX4_least 31 = .ok (.aload_n 0, 1) := by decide +kernel
theorem dX4_least_32 : decode cX4_least 32 = .ok (.ldc 49, 2) := by decide +kernel
theorem dX4_least_34 : decode cX4_least 34 = .ok (.putfield 50, 3) := by decide +kernel
theorem dX4_least_37 : decode cX4_least 37 = .ok (.iconst 0, 1) := by decide +kernel
theorem dX4_least_38 : decode cX4_least 38 = .ok (.istore_n 3, 1) := by decide +kernel
theorem dX4_least_39 : decode cX4_least 39 = .ok (.iconst 0, 1) := by decide +kernel
theorem dX4_least_40 : decode cX4_least 40 = .ok (.istore 4, 2) := by decide +kernel
theorem dX4_least_42 : decode cX4_least 42 = .ok (.iload 4, 2) := by decide +kernel
theorem dX4_least_44 : decode cX4_least 44 = .ok (.bipush 8, 2) := by decide +kernel
theorem dX4_least_46 : decode cX4_least 46 = .ok (.if_icmp .ge 41, 3) := by decide +kernel
theorem dX4_least_49 : decode cX4_least 49 = .ok (.aload_n 0, 1) := by decide +kernel
theorem dX4_least_50 : decode cX4_least 50 = .ok (.getfield 24, 3) := by decide +kernel
theorem dX4_least_53 : decode cX4_least 53 = .ok (.iconst 0, 1) := by decide +kernel
theorem dX4_least_54 : decode cX4_least 54 = .ok (.aaload, 1) := by decide +kernel
theorem dX4_least_55 : decode cX4_least 55 = .ok (.iload 4, 2) := by decide +kernel
theorem dX4_least_57 : decode cX4_least 57 = .ok (.aload_n 0, 1) := by decide +kernel
theorem dX4_least_58 : decode cX4_least 58 = .ok (.getfield 12, 3) := by decide +kernel
theorem dX4_least_61 : decode cX4_least 61 = .ok (.getfield 53, 3) := by decide +kernel
theorem dX4_least_64 : decode cX4_least 64 = .ok (.iload 4, 2) := by decide +kernel
theorem dX4_least_66 : decode cX4_least 66 = .ok (.iaload, 1) := by decide +kernel
theorem dX4_least_67 : decode cX4_least 67 = .ok (.iastore, 1) := by decide +kernel
theorem dX4_least_68 : decode cX4_least 68 = .ok (.iload_n 3, 1) := by decide +kernel
theorem dX4_least_69 : decode cX4_least 69 = .ok (.aload_n 0, 1) := by decide +kernel
theorem dX4_least_70 : decode cX4_least 70 = .ok (.getfield 12, 3) := by decide +kernel
theorem dX4_least_73 : decode cX4_least 73 = .ok (.getfield 53, 3) := by decide +kernel
theorem dX4_least_76 : decode cX4_least 76 = .ok (.iload 4, 2) := by decide +kernel
theorem dX4_least_78 : decode cX4_least 78 = .ok (.iaload, 1) := by decide +kernel
theorem dX4_least_79 : decode cX4_least 79 = .ok (.iadd, 1) := by decide +kernel
theorem dX4_least_80 : decode cX4_least 80 = .ok (.istore_n 3, 1) := by decide +kernel
theorem dX4_least_81 : decode cX4_least 81 = .ok (.iinc 4 1, 3) := by decide +kernel
theorem dX4_least_84 : decode cX4_least 84 = .ok (.goto (-42), 3) := by decide +kernel
theorem dX4_least_87 : decode cX4_least 87 = .ok (.aload_n 0, 1) := by decide +kernel
theorem dX4_least_88 : decode cX4_least 88 = .ok (.aload_n 1, 1) := by decide +kernel
theorem dX4_least_89 : decode cX4_least 89 = .ok (.iconst 0, 1) := by decide +kernel
theorem dX4_least_90 : decode cX4_least 90 = .ok (.iload_n 3, 1) := by decide +kernel
theorem dX4_least_91 : decode cX4_least 91 = .ok (.invokevirtual 56, 3) := by decide +kernel
theorem dX4_least_94 : decode cX4_least 94 = .ok (.aload_n 0, 1) := by decide +kernel
theorem dX4_least_95 : decode cX4_least 95 = .ok (.getfield 50, 3) := by decide +kernel
theorem dX4_least_98 : decode cX4_least 98 = .ok (.ldc 49, 2) := by decide +kernel
theorem dX4_least_100 : decode cX4_least 100 = .ok (.if_icmp .ne 8, 3) := by decide +kernel
theorem dX4_least_103 : decode cX4_least 103 = .ok (.bipush (-5), 2) := by decide +kernel
theorem dX4_least_105 : decode cX4_least 105 = .ok (.goto 7, 3) := by decide +kernel
theorem dX4_least_108 : decode cX4_least 108 = .ok (.aload_n 0, 1) := by decide +kernel
theorem dX4_least_109 : decode cX4_least 109 = .ok (.getfield 50, 3) := by decide +kernel
theorem dX4_least_112 : decode cX4_least 112 = .ok (.ireturn, 1) := by decide +kernel
theorem dX4_followAll_0 : decode cX4_followAll 0 = .ok (.iload_n 2, 1) := by decide +kernel
theorem dX4_followAll_1 : decode cX4_followAll 1 = .ok (.aload_n 0, 1) := by decide +kernel
theorem dX4_followAll_2 : decode cX4_followAll 2 = .ok (.getfield 46, 3) := by decide +kernel
theorem dX4_followAll_5 : decode cX4_followAll 5 = .ok (.if_icmp .lt 9, 3) := by decide +kernel
theorem dX4_followAll_8 : decode cX4_followAll 8 = .ok (.aload_n 0, 1) := by decide +kernel
theorem dX4_followAll_9 : decode cX4_followAll 9 = .ok (.iload_n 3, 1) := by decide +kernel
theorem dX4_followAll_10 : decode cX4_followAll 10 = .ok (.putfield 50, 3) := by decide +kernel
theorem dX4_followAll_13 : decode cX4_followAll 13 = .ok (.return_, 1) := by decide +kernel
theorem dX4_followAll_14 : decode cX4_followAll 14 = .ok (.iload_n 2, 1) := by decide +kernel
theorem dX4_followAll_15 : decode cX4_followAll 15 = .ok (.bipush 8, 2) := by decide +kernel
theorem dX4_followAll_17 : decode cX4_followAll 17 = .ok (.if_icmp .lt 4, 3) := by decide +kernel
theorem dX4_followAll_20 : decode cX4_followAll 20 = .ok (.return_, 1) := by decide +kernel
theorem dX4_followAll_21 : decode cX4_followAll 21 = .ok (.iconst 0, 1) := by decide +kernel
theorem dX4_followAll_22 : decode cX4_followAll 22 = .ok (.istore 4, 2) := by decide +kernel
theorem dX4_followAll_24 : decode cX4_followAll 24 = .ok (.iload 4, 2) := by decide +kernel
theorem dX4_followAll_26 : decode cX4_followAll 26 = .ok (.bipush 6, 2) := by decide +kernel
theorem dX4_followAll_28 : decode cX4_followAll 28 = .ok (.if_icmp .ge 100, 3) := by decide +kernel
theorem dX4_followAll_31 : decode cX4_followAll 31 = .ok (.aload_n 0, 1) := by decide +kernel
theorem dX4_followAll_32 : decode cX4_followAll 32 = .ok (.getfield 18, 3) := by decide +kernel
theorem dX4_followAll_35 : decode cX4_followAll 35 = .ok (.iload 4, 2) := by decide +kernel
theorem dX4_followAll_37 : decode cX4_followAll 37 = .ok (.iaload, 1) := by decide +kernel
theorem dX4_followAll_38 : decode cX4_followAll 38 = .ok (.ifCond .le 84, 3) := by decide +kernel
theorem dX4_followAll_41 : decode cX4_followAll 41 = .ok (.aload_n 0, 1) := by decide +kernel
theorem dX4_followAll_42 : decode cX4_followAll 42 = .ok (.getfield 12, 3) := by decide +kernel
theorem dX4_followAll_45 : decode cX4_followAll 45 = .ok (.aload_n 1, 1) := by decide +kernel
theorem dX4_followAll_46 : decode cX4_followAll 46 = .ok (.iload 4, 2) := by decide +kernel
theorem dX4_followAll_48 : decode cX4_followAll 48 = .ok (.invokevirtual 60, 3) := by decide +kernel
theorem dX4_followAll_51 : decode cX4_followAll 51 = .ok (.ifCond .eq 71, 3) := by decide +kernel
theorem dX4_followAll_54 : decode cX4_followAll 54 = .ok (.aload_n 0, 1) := by decide +kernel
theorem dX4_followAll_55 : decode cX4_followAll 55 = .ok (.getfield 18, 3) := by decide +kernel
theorem dX4_followAll_58 : decode cX4_followAll 58 = .ok (.iload 4, 2) := by decide +kernel
theorem dX4_followAll_60 : decode cX4_followAll 60 = .ok (.dup2, 1) := by decide +kernel
theorem dX4_followAll_61 : decode cX4_followAll 61 = .ok (.iaload, 1) := by decide +kernel
theorem dX4_followAll_62 : decode cX4_followAll 62 = .ok (.iconst 1, 1) := by decide +kernel
theorem dX4_followAll_63 : decode cX4_followAll 63 = .ok (.isub, 1) := by decide +kernel
theorem dX4_followAll_64 : decode cX4_followAll 64 = .ok (.iastore, 1) := by decide +kernel
theorem dX4_followAll_65 : decode cX4_followAll 65 = .ok (.aload_n 0, 1) := by decide +kernel
theorem dX4_followAll_66 : decode cX4_followAll 66 = .ok (.getfield 12, 3) := by decide +kernel
theorem dX4_followAll_69 : decode cX4_followAll 69 = .ok (.aload_n 1, 1) := by decide +kernel
theorem dX4_followAll_70 : decode cX4_followAll 70 = .ok (.iload 4, 2) := by decide +kernel
theorem dX4_followAll_72 : decode cX4_followAll 72 = .ok (.invokevirtual 64, 3) := by decide +kernel
theorem dX4_followAll_75 : decode cX4_followAll 75 = .ok (.aload_n 0, 1) := by decide +kernel
theorem dX4_followAll_76 : decode cX4_followAll 76 = .ok (.iload_n 2, 1) := by decide +kernel
theorem dX4_followAll_77 : decode cX4_followAll 77 = .ok (.invokevirtual 68, 3) := by decide +kernel
theorem dX4_followAll_80 : decode cX4_followAll 80 = .ok (.istore 5, 2) := by decide +kernel
theorem dX4_followAll_82 : decode cX4_followAll 82 = .ok (.iload 5, 2) := by decide +kernel
theorem dX4_followAll_84 : decode cX4_followAll 84 = .ok (.aload_n 0, 1) := by decide +kernel
theorem dX4_followAll_85 : decode cX4_followAll 85 = .ok (.getfield 50, 3) := by decide +kernel
theorem dX4_followAll_88 : decode cX4_followAll 88 = .ok (.if_icmp .ge 13, 3) := by decide +kernel
theorem dX4_followAll_91 : decode cX4_followAll 91 = .ok (.aload_n 0, 1) := by decide +kernel
theorem dX4_followAll_92 : decode cX4_followAll 92 = .ok (.aload_n 1, 1) := by decide +kernel
theorem dX4_followAll_93 : decode cX4_followAll 93 = .ok (.iload_n 2, 1) := by decide +kernel
theorem dX4_followAll_94 : decode cX4_followAll 94 = .ok (.iconst 1, 1) := by decide +kernel
theorem dX4_followAll_95 : decode cX4_followAll 95 = .ok (.iadd, 1) := by decide +kernel
theorem dX4_followAll_96 : decode cX4_followAll 96 = .ok (.iload 5, 2) := by decide +kernel
theorem dX4_followAll_98 : decode cX4_followAll 98 = .ok (.invokevirtual 56, 3) := by decide +kernel
theorem dX4_followAll_101 : decode cX4_followAll 101 = .ok (.aload_n 0, 1) := by decide +kernel
theorem dX4_followAll_102 : decode cX4_followAll 102 = .ok (.getfield 12, 3) := by decide +kernel
theorem dX4_followAll_105 : decode cX4_followAll 105 = .ok (.aload_n 1, 1) := by decide +kernel
theorem dX4_followAll_106 : decode cX4_followAll 106 = .ok (.iload 4, 2) := by decide +kernel
theorem dX4_followAll_108 : decode cX4_followAll 108 = .ok (.invokevirtual 72, 3) := by decide +kernel
theorem dX4_followAll_111 : decode cX4_followAll 111 = .ok (.aload_n 0, 1) := by decide +kernel
theorem dX4_followAll_112 : decode cX4_followAll 112 = .ok (.getfield 18, 3) := by decide +kernel
theorem dX4_followAll_115 : decode cX4_followAll 115 = .ok (.iload 4, 2) := by decide +kernel
theorem dX4_followAll_117 : decode cX4_followAll 117 = .ok (.dup2, 1) := by decide +kernel
theorem dX4_followAll_118 : decode cX4_followAll 118 = .ok (.iaload, 1) := by decide +kernel
theorem dX4_followAll_119 : decode cX4_followAll 119 = .ok (.iconst 1, 1) := by decide +kernel
theorem dX4_followAll_120 : decode cX4_followAll 120 = .ok (.iadd, 1) := by decide +kernel
theorem dX4_followAll_121 : decode cX4_followAll 121 = .ok (.iastore, 1) := by decide +kernel
theorem dX4_followAll_122 : decode cX4_followAll 122 = .ok (.iinc 4 1, 3) := by decide +kernel
theorem dX4_followAll_125 : decode cX4_followAll 125 = .ok (.goto (-101), 3) := by decide +kernel
theorem dX4_followAll_128 : decode cX4_followAll 128 = .ok (.return_, 1) := by decide +kernel
theorem dX4_raiseMost_0 : decode cX4_raiseMost 0 = .ok (.iconst 0, 1) := by decide +kernel
theorem dX4_raiseMost_1 : decode cX4_raiseMost 1 = .ok (.istore_n 2, 1) := by decide +kernel
theorem dX4_raiseMost_2 : decode cX4_raiseMost 2 = .ok (.iconst 0, 1) := by decide +kernel
theorem dX4_raiseMost_3 : decode cX4_raiseMost 3 = .ok (.istore_n 3, 1) := by decide +kernel
theorem dX4_raiseMost_4 : decode cX4_raiseMost 4 = .ok (.iload_n 3, 1) := by decide +kernel
theorem dX4_raiseMost_5 : decode cX4_raiseMost 5 = .ok (.bipush 8, 2) := by decide +kernel
theorem dX4_raiseMost_7 : decode cX4_raiseMost 7 = .ok (.if_icmp .ge 48, 3) := by decide +kernel
theorem dX4_raiseMost_10 : decode cX4_raiseMost 10 = .ok (.aload_n 0, 1) := by decide +kernel
theorem dX4_raiseMost_11 : decode cX4_raiseMost 11 = .ok (.getfield 24, 3) := by decide +kernel
theorem dX4_raiseMost_14 : decode cX4_raiseMost 14 = .ok (.iload_n 1, 1) := by decide +kernel
theorem dX4_raiseMost_15 : decode cX4_raiseMost 15 = .ok (.aaload, 1) := by decide +kernel
theorem dX4_raiseMost_16 : decode cX4_raiseMost 16 = .ok (.iload_n 3, 1) := by decide +kernel
theorem dX4_raiseMost_17 : decode cX4_raiseMost 17 = .ok (.iaload, 1) := by decide +kernel
theorem dX4_raiseMost_18 : decode cX4_raiseMost 18 = .ok (.aload_n 0, 1) := by decide +kernel
theorem dX4_raiseMost_19 : decode cX4_raiseMost 19 = .ok (.getfield 12, 3) := by decide +kernel
theorem dX4_raiseMost_22 : decode cX4_raiseMost 22 = .ok (.getfield 53, 3) := by decide +kernel
theorem dX4_raiseMost_25 : decode cX4_raiseMost 25 = .ok (.iload_n 3, 1) := by decide +kernel
theorem dX4_raiseMost_26 : decode cX4_raiseMost 26 = .ok (.iaload, 1) := by decide +kernel
theorem dX4_raiseMost_27 : decode cX4_raiseMost 27 = .ok (.invokestatic 75, 3) := by decide +kernel
theorem dX4_raiseMost_30 : decode cX4_raiseMost 30 = .ok (.istore 4, 2) := by decide +kernel
theorem dX4_raiseMost_32 : decode cX4_raiseMost 32 = .ok (.aload_n 0, 1) := by decide +kernel
theorem dX4_raiseMost_33 : decode cX4_raiseMost 33 = .ok (.getfield 24, 3) := by decide +kernel
theorem dX4_raiseMost_36 : decode cX4_raiseMost 36 = .ok (.iload_n 1, 1) := by decide +kernel
theorem dX4_raiseMost_37 : decode cX4_raiseMost 37 = .ok (.iconst 1, 1) := by decide +kernel
theorem dX4_raiseMost_38 : decode cX4_raiseMost 38 = .ok (.iadd, 1) := by decide +kernel
theorem dX4_raiseMost_39 : decode cX4_raiseMost 39 = .ok (.aaload, 1) := by decide +kernel
theorem dX4_raiseMost_40 : decode cX4_raiseMost 40 = .ok (.iload_n 3, 1) := by decide +kernel
theorem dX4_raiseMost_41 : decode cX4_raiseMost 41 = .ok (.iload 4, 2) := by decide +kernel
theorem dX4_raiseMost_43 : decode cX4_raiseMost 43 = .ok (.iastore, 1) := by decide +kernel
theorem dX4_raiseMost_44 : decode cX4_raiseMost 44 = .ok (.iload_n 2, 1) := by decide +kernel
theorem dX4_raiseMost_45 : decode cX4_raiseMost 45 = .ok (.iload 4, 2) := by decide +kernel
theorem dX4_raiseMost_47 : decode cX4_raiseMost 47 = .ok (.iadd, 1) := by decide +kernel
theorem dX4_raiseMost_48 : decode cX4_raiseMost 48 = .ok (.istore_n 2, 1) := by decide +kernel
theorem dX4_raiseMost_49 : decode cX4_raiseMost 49 = .ok (.iinc 3 1, 3) := by decide +kernel
theorem dX4_raiseMost_52 : decode cX4_raiseMost 52 = .ok (.goto (-48), 3) := by decide +kernel
theorem dX4_raiseMost_55 : decode cX4_raiseMost 55 = .ok (.iload_n 2, 1) := by decide +kernel
theorem dX4_raiseMost_56 : decode cX4_raiseMost 56 = .ok (.ireturn, 1) := by decide +kernel
theorem dX5_init_0 : decode cX5_init 0 = .ok (.aload_n 0, 1) := by decide +kernel
theorem dX5_init_1 : decode cX5_init 1 = .ok (.invokespecial 3, 3) := by decide +kernel
theorem dX5_init_4 : decode cX5_init 4 = .ok (.iload_n 1, 1) := by decide +kernel
theorem dX5_init_5 : decode cX5_init 5 = .ok (.iconst 0, 1) := by decide +kernel
theorem dX5_init_6 : decode cX5_init 6 = .ok (.invokestatic 9, 3) := by decide +kernel
theorem dX5_init_9 : decode cX5_init 9 = .ok (.istore_n 2, 1) := by decide +kernel
theorem dX5_init_10 : decode cX5_init 10 = .ok (.aload_n 0, 1) := by decide +kernel
theorem dX5_init_11 : decode cX5_init 11 = .ok (.iload_n 2, 1) := by decide +kernel
theorem dX5_init_12 : decode cX5_init 12 = .ok (.newarray .int, 2) := by decide +kernel
theorem dX5_init_14 : decode cX5_init 14 = .ok (.putfield 15, 3) := by decide +kernel
theorem dX5_init_17 : decode cX5_init 17 = .ok (.aload_n 0, 1) := by decide +kernel
theorem dX5_init_18 : decode cX5_init 18 = .ok (.iload_n 2, 1) := by decide +kernel
theorem dX5_init_19 : decode cX5_init 19 = .ok (.newarray .int, 2) := by decide +kernel
theorem dX5_init_21 : decode cX5_init 21 = .ok (.putfield 21, 3) := by decide +kernel
theorem dX5_init_24 : decode cX5_init 24 = .ok (.aload_n 0, 1) := by decide +kernel
theorem dX5_init_25 : decode cX5_init 25 = .ok (.iload_n 2, 1) := by decide +kernel
theorem dX5_init_26 : decode cX5_init 26 = .ok (.newarray .int, 2) := by decide +kernel
theorem dX5_init_28 : decode cX5_init 28 = .ok (.putfield 24, 3) := by decide +kernel
theorem dX5_init_31 : decode cX5_init 31 = .ok (.aload_n 0, 1) := by decide +kernel
theorem dX5_init_32 : decode cX5_init 32 = .ok (.iconst 0, 1) := by decide +kernel
theorem dX5_init_33 : decode cX5_init 33 = .ok (.putfield 27, 3) := by decide +kernel
theorem dX5_init_36 : decode cX5_init 36 = .ok (.return_, 1) := by decide +kernel
theorem dX5_clear_0 : decode cX5_clear 0 = .ok (.aload_n 0, 1) := by decide +kernel
theorem dX5_clear_1 : decode cX5_clear 1 = .ok (.iconst 0, 1) := by decide +kernel
theorem dX5_clear_2 : decode cX5_clear 2 = .ok (.putfield 27, 3) := by decide +kernel
theorem dX5_clear_5 : decode cX5_clear 5 = .ok (.iconst 0, 1) := by decide +kernel
theorem dX5_clear_6 : decode cX5_clear 6 = .ok (.ireturn, 1) := by decide +kernel
theorem dX5_append_0 : decode cX5_append 0 = .ok (.aload_n 0, 1) := by decide +kernel
theorem dX5_append_1 : decode cX5_append 1 = .ok (.getfield 27, 3) := by decide +kernel
theorem dX5_append_4 : decode cX5_append 4 = .ok (.aload_n 0, 1) := by decide +kernel
theorem dX5_append_5 : decode cX5_append 5 = .ok (.getfield 15, 3) := by decide +kernel
theorem dX5_append_8 : decode cX5_append 8 = .ok (.arraylength, 1) := by decide +kernel
theorem dX5_append_9 : decode cX5_append 9 = .ok (.if_icmp .lt 6, 3) := by decide +kernel
theorem dX5_append_12 : decode cX5_append 12 = .ok (.bipush (-4), 2) := by decide +kernel
theorem dX5_append_14 : decode cX5_append 14 = .ok (.ireturn, 1) := by decide +kernel
theorem dX5_append_15 : decode cX5_append 15 = .ok (.aload_n 0, 1) := by decide +kernel
theorem dX5_append_16 : decode cX5_append 16 = .ok (.getfield 15, 3) := by decide +kernel
theorem dX5_append_19 : decode cX5_append 19 = .ok (.aload_n 0, 1) := by decide +kernel
theorem dX5_append_20 : decode cX5_append 20 = .ok (.getfield 27, 3) := by decide +kernel
theorem dX5_append_23 : decode cX5_append 23 = .ok (.iload_n 1, 1) := by decide +kernel
theorem dX5_append_24 : decode cX5_append 24 = .ok (.iastore, 1) := by decide +kernel
theorem dX5_append_25 : decode cX5_append 25 = .ok (.aload_n 0, 1) := by decide +kernel
theorem dX5_append_26 : decode cX5_append 26 = .ok (.getfield 21, 3) := by decide +kernel
theorem dX5_append_29 : decode cX5_append 29 = .ok (.aload_n 0, 1) := by decide +kernel
theorem dX5_append_30 : decode cX5_append 30 = .ok (.getfield 27, 3) := by decide +kernel
theorem dX5_append_33 : decode cX5_append 33 = .ok (.iload_n 2, 1) := by decide +kernel
theorem dX5_append_34 : decode cX5_append 34 = .ok (.iastore, 1) := by decide +kernel
theorem dX5_append_35 : decode cX5_append 35 = .ok (.aload_n 0, 1) := by decide +kernel
theorem dX5_append_36 : decode cX5_append 36 = .ok (.getfield 24, 3) := by decide +kernel
theorem dX5_append_39 : decode cX5_append 39 = .ok (.aload_n 0, 1) := by decide +kernel
theorem dX5_append_40 : decode cX5_append 40 = .ok (.getfield 27, 3) := by decide +kernel
theorem dX5_append_43 : decode cX5_append 43 = .ok (.iload_n 3, 1) := by decide +kernel
theorem dX5_append_44 : decode cX5_append 44 = .ok (.iastore, 1) := by decide +kernel
theorem dX5_append_45 : decode cX5_append 45 = .ok (.aload_n 0, 1) := by decide +kernel
theorem dX5_append_46 : decode cX5_append 46 = .ok (.dup, 1) := by decide +kernel
theorem dX5_append_47 : decode cX5_append 47 = .ok (.getfield 27, 3) := by decide +kernel
theorem dX5_append_50 : decode cX5_append 50 = .ok (.iconst 1, 1) := by decide +kernel
theorem dX5_append_51 : decode cX5_append 51 = .ok (.iadd, 1) := by decide +kernel
theorem dX5_append_52 : decode cX5_append 52 = .ok (.putfield 27, 3) := by decide +kernel
theorem dX5_append_55 : decode cX5_append 55 = .ok (.aload_n 0, 1) := by decide +kernel
theorem dX5_append_56 : decode cX5_append 56 = .ok (.getfield 27, 3) := by decide +kernel
theorem dX5_append_59 : decode cX5_append 59 = .ok (.ireturn, 1) := by decide +kernel
theorem dX5_copyFrom_0 : decode cX5_copyFrom 0 = .ok (.aload_n 0, 1) := by decide +kernel
theorem dX5_copyFrom_1 : decode cX5_copyFrom 1 = .ok (.invokevirtual 31, 3) := by decide +kernel
theorem dX5_copyFrom_4 : decode cX5_copyFrom 4 = .ok (.pop, 1) := by decide +kernel
theorem dX5_copyFrom_5 : decode cX5_copyFrom 5 = .ok (.iconst 0, 1) := by decide +kernel
theorem dX5_copyFrom_6 : decode cX5_copyFrom 6 = .ok (.istore_n 2, 1) := by decide +kernel
theorem dX5_copyFrom_7 : decode cX5_copyFrom 7 = .ok (.iload_n 2, 1) := by decide +kernel
theorem dX5_copyFrom_8 : decode cX5_copyFrom 8 = .ok (.aload_n 1, 1) := by decide +kernel
theorem dX5_copyFrom_9 : decode cX5_copyFrom 9 = .ok (.getfield 27, 3) := by decide +kernel
theorem dX5_copyFrom_12 : decode cX5_copyFrom 12 = .ok (.if_icmp .ge 32, 3) := by decide +kernel
theorem dX5_copyFrom_15 : decode cX5_copyFrom 15 = .ok (.aload_n 0, 1) := by decide +kernel
theorem dX5_copyFrom_16 : decode cX5_copyFrom 16 = .ok (.aload_n 1, 1) := by decide +kernel
theorem dX5_copyFrom_17 : decode cX5_copyFrom 17 = .ok (.getfield 15, 3) := by decide +kernel
theorem dX5_copyFrom_20 : decode cX5_copyFrom 20 = .ok (.iload_n 2, 1) := by decide +kernel
theorem dX5_copyFrom_21 : decode cX5_copyFrom 21 = .ok (.iaload, 1) := by decide +kernel
theorem dX5_copyFrom_22 : decode cX5_copyFrom 22 = .ok (.aload_n 1, 1) := by decide +kernel
theorem dX5_copyFrom_23 : decode cX5_copyFrom 23 = .ok (.getfield 21, 3) := by decide +kernel
theorem dX5_copyFrom_26 : decode cX5_copyFrom 26 = .ok (.iload_n 2, 1) := by decide +kernel
theorem dX5_copyFrom_27 : decode cX5_copyFrom 27 = .ok (.iaload, 1) := by decide +kernel
theorem dX5_copyFrom_28 : decode cX5_copyFrom 28 = .ok (.aload_n 1, 1) := by decide +kernel
theorem dX5_copyFrom_29 : decode cX5_copyFrom 29 = .ok (.getfield 24, 3) := by decide +kernel
theorem dX5_copyFrom_32 : decode cX5_copyFrom 32 = .ok (.iload_n 2, 1) := by decide +kernel
theorem dX5_copyFrom_33 : decode cX5_copyFrom 33 = .ok (.iaload, 1) := by decide +kernel
theorem dX5_copyFrom_34 : decode cX5_copyFrom 34 = .ok (.invokevirtual 35, 3) := by decide +kernel
theorem dX5_copyFrom_37 : decode cX5_copyFrom 37 = .ok (.pop, 1) := by decide +kernel
theorem dX5_copyFrom_38 : decode cX5_copyFrom 38 = .ok (.iinc 2 1, 3) := by decide +kernel
theorem dX5_copyFrom_41 : decode cX5_copyFrom 41 = .ok (.goto (-34), 3) := by decide +kernel
theorem dX5_copyFrom_44 : decode cX5_copyFrom 44 = .ok (.return_, 1) := by decide +kernel
theorem dX6_init_0 : decode cX6_init 0 = .ok (.aload_n 0, 1) := by decide +kernel
theorem dX6_init_1 : decode cX6_init 1 = .ok (.invokespecial 3, 3) := by decide +kernel
theorem dX6_init_4 : decode cX6_init 4 = .ok (.aload_n 0, 1) := by decide +kernel
theorem dX6_init_5 : decode cX6_init 5 = .ok (.bipush 6, 2) := by decide +kernel
theorem dX6_init_7 : decode cX6_init 7 = .ok (.newarray .int, 2) := by decide +kernel
theorem dX6_init_9 : decode cX6_init 9 = .ok (.putfield 9, 3) := by decide +kernel
theorem dX6_init_12 : decode cX6_init 12 = .ok (.aload_n 0, 1) := by decide +kernel
theorem dX6_init_13 : decode cX6_init 13 = .ok (.sipush 360, 3) := by decide +kernel
theorem dX6_init_16 : decode cX6_init 16 = .ok (.newarray .int, 2) := by decide +kernel
theorem dX6_init_18 : decode cX6_init 18 = .ok (.putfield 15, 3) := by decide +kernel
theorem dX6_init_21 : decode cX6_init 21 = .ok (.aload_n 0, 1) := by decide +kernel
theorem dX6_init_22 : decode cX6_init 22 = .ok (.bipush 8, 2) := by decide +kernel
theorem dX6_init_24 : decode cX6_init 24 = .ok (.newarray .int, 2) := by decide +kernel
theorem dX6_init_26 : decode cX6_init 26 = .ok (.putfield 18, 3) := by decide +kernel
theorem dX6_init_29 : decode cX6_init 29 = .ok (.aload_n 0, 1) := by decide +kernel
theorem dX6_init_30 : decode cX6_init 30 = .ok (.bipush 6, 2) := by decide +kernel
theorem dX6_init_32 : decode cX6_init 32 = .ok (.newarray .int, 2) := by decide +kernel
theorem dX6_init_34 : decode cX6_init 34 = .ok (.putfield 21, 3) := by decide +kernel
theorem dX6_init_37 : decode cX6_init 37 = .ok (.aload_n 0, 1) := by decide +kernel
theorem dX6_init_38 : decode cX6_init 38 = .ok (.bipush 6, 2) := by decide +kernel
theorem dX6_init_40 : decode cX6_init 40 = .ok (.newarray .int, 2) := by decide +kernel
theorem dX6_init_42 : decode cX6_init 42 = .ok (.putfield 24, 3) := by decide +kernel
theorem dX6_init_45 : decode cX6_init 45 = .ok (.aload_n 0, 1) := by decide +kernel
theorem dX6_init_46 : decode cX6_init 46 = .ok (.new 27, 3) := by decide +kernel
theorem dX6_init_49 : decode cX6_init 49 = .ok (.dup, 1) := by decide +kernel
theorem dX6_init_50 : decode cX6_init 50 = .ok (.invokespecial 29, 3) := by decide +kernel
theorem dX6_init_53 : decode cX6_init 53 = .ok (.putfield 30, 3) := by decide +kernel
theorem dX6_init_56 : decode cX6_init 56 = .ok (.return_, 1) := by decide +kernel
theorem dX6_canFire_0 : decode cX6_canFire 0 = .ok (.aload_n 0, 1) := by decide +kernel
theorem dX6_canFire_1 : decode cX6_canFire 1 = .ok (.getfield 30, 3) := by decide +kernel
theorem dX6_canFire_4 : decode cX6_canFire 4 = .ok (.aload_n 1, 1) := by decide +kernel
theorem dX6_canFire_5 : decode cX6_canFire 5 = .ok (.invokevirtual 34, 3) := by decide +kernel
theorem dX6_canFire_8 : decode cX6_canFire 8 = .ok (.aload_n 0, 1) := by decide +kernel
theorem dX6_canFire_9 : decode cX6_canFire 9 = .ok (.getfield 30, 3) := by decide +kernel
theorem dX6_canFire_12 : decode cX6_canFire 12 = .ok (.aload_n 1, 1) := by decide +kernel
theorem dX6_canFire_13 : decode cX6_canFire 13 = .ok (.iload_n 2, 1) := by decide +kernel
theorem dX6_canFire_14 : decode cX6_canFire 14 = .ok (.invokevirtual 38, 3) := by decide +kernel
theorem dX6_canFire_17 : decode cX6_canFire 17 = .ok (.ireturn, 1) := by decide +kernel
theorem dX6_goes_0 : decode cX6_goes 0 = .ok (.aload_n 0, 1) := by decide +kernel
theorem dX6_goes_1 : decode cX6_goes 1 = .ok (.getfield 42, 3) := by decide +kernel
theorem dX6_goes_4 : decode cX6_goes 4 = .ok (.ifCond .ne 14, 3) := by decide +kernel
theorem dX6_goes_7 : decode cX6_goes 7 = .ok (.aload_n 0, 1) := by decide +kernel
theorem dX6_goes_8 : decode cX6_goes 8 = .ok (.getfield 46, 3) := by decide +kernel
theorem dX6_goes_11 : decode cX6_goes 11 = .ok (.ifCond .ne 7, 3) := by decide +kernel
theorem dX6_goes_14 : decode cX6_goes 14 = .ok (.iconst 1, 1) := by decide +kernel
theorem dX6_goes_15 : decode cX6_goes 15 = .ok (.goto 4, 3) := by decide +kernel
theorem dX6_goes_18 : decode cX6_goes 18 = .ok (.iconst 0, 1) := by decide +kernel
theorem dX6_goes_19 : decode cX6_goes 19 = .ok (.ireturn, 1) := by decide +kernel
theorem dX6_look_0 : decode cX6_look 0 = .ok (.aload_n 0, 1) := by decide +kernel
theorem dX6_look_1 : decode cX6_look 1 = .ok (.getfield 30, 3) := by decide +kernel
theorem dX6_look_4 : decode cX6_look 4 = .ok (.aload_n 1, 1) := by decide +kernel
theorem dX6_look_5 : decode cX6_look 5 = .ok (.invokevirtual 34, 3) := by decide +kernel
theorem dX6_look_8 : decode cX6_look 8 = .ok (.aload_n 0, 1) := by decide +kernel
theorem dX6_look_9 : decode cX6_look 9 = .ok (.aload_n 1, 1) := by decide +kernel
theorem dX6_look_10 : decode cX6_look 10 = .ok (.invokevirtual 49, 3) := by decide +kernel
theorem dX6_look_13 : decode cX6_look 13 = .ok (.return_, 1) := by decide +kernel
theorem dX6_lookWith_0 : decode cX6_lookWith 0 = .ok (.aload_n 0, 1) := by decide +kernel
theorem dX6_lookWith_1 : decode cX6_lookWith 1 = .ok (.getfield 30, 3) := by decide +kernel
theorem dX6_lookWith_4 : decode cX6_lookWith 4 = .ok (.aload_n 1, 1) := by decide +kernel
theorem dX6_lookWith_5 : decode cX6_lookWith 5 = .ok (.invokevirtual 34, 3) := by decide +kernel
theorem dX6_lookWith_8 : decode cX6_lookWith 8 = .ok (.aload_n 1, 1) := by decide +kernel
theorem dX6_lookWith_9 : decode cX6_lookWith 9 = .ok (.iload_n 2, 1) := by decide +kernel
theorem dX6_lookWith_10 : decode cX6_lookWith 10 = .ok (.invokevirtual 52, 3) := by decide +kernel
theorem dX6_lookWith_13 : decode cX6_lookWith 13 = .ok (.ifCond .eq 13, 3) := by decide +kernel
theorem dX6_lookWith_16 : decode cX6_lookWith 16 = .ok (.aload_n 0, 1) := by decide +kernel
theorem dX6_lookWith_17 : decode cX6_lookWith 17 = .ok (.getfield 30, 3) := by decide +kernel
theorem dX6_lookWith_20 : decode cX6_lookWith 20 = .ok (.getfield 58, 3) := by decide +kernel
theorem dX6_lookWith_23 : decode cX6_lookWith 23 = .ok (.iload_n 2, 1) := by decide +kernel
theorem dX6_lookWith_24 : decode cX6_lookWith 24 = .ok (.iload_n 3, 1) := by decide +kernel
theorem dX6_lookWith_25 : decode cX6_lookWith 25 = .ok (.iastore, 1) := by decide +kernel
theorem dX6_lookWith_26 : decode cX6_lookWith 26 = .ok (.aload_n 0, 1) := by decide +kernel
theorem dX6_lookWith_27 : decode cX6_lookWith 27 = .ok (.aload_n 1, 1) := by decide +kernel
theorem dX6_lookWith_28 : decode cX6_lookWith 28 = .ok (.invokevirtual 49, 3) := by decide +kernel
theorem dX6_lookWith_31 : decode cX6_lookWith 31 = .ok (.return_, 1) := by decide +kernel
theorem dX6_findPeriod_0 : decode cX6_findPeriod 0 = .ok (.aload_n 0, 1) := by decide +kernel
theorem dX6_findPeriod_1 : decode cX6_findPeriod 1 = .ok (.iconst 0, 1) := by decide +kernel
theorem dX6_findPeriod_2 : decode cX6_findPeriod 2 = .ok (.putfield 61, 3) := by decide +kernel
theorem dX6_findPeriod_5 : decode cX6_findPeriod 5 = .ok (.aload_n 0, 1) := by decide +kernel
theorem dX6_findPeriod_6 : decode cX6_findPeriod 6 = .ok (.iconst 0, 1) := by decide +kernel
theorem dX6_findPeriod_7 : decode cX6_findPeriod 7 = .ok (.putfield 46, 3) := by decide +kernel
theorem dX6_findPeriod_10 : decode cX6_findPeriod 10 = .ok (.aload_n 0, 1) := by decide +kernel
theorem dX6_findPeriod_11 : decode cX6_findPeriod 11 = .ok (.aload_n 0, 1) := by decide +kernel
theorem dX6_findPeriod_12 : decode cX6_findPeriod 12 = .ok (.aload_n 1, 1) := by decide +kernel
theorem dX6_findPeriod_13 : decode cX6_findPeriod 13 = .ok (.invokevirtual 65, 3) := by decide +kernel
theorem dX6_findPeriod_16 : decode cX6_findPeriod 16 = .ok (.ifCond .ne 7, 3) := by decide +kernel
theorem dX6_findPeriod_19 : decode cX6_findPeriod 19 = .ok (.iconst 1, 1) := by decide +kernel
theorem dX6_findPeriod_20 : decode cX6_findPeriod 20 = .ok (.goto 4, 3) := by decide +kernel
theorem dX6_findPeriod_23 : decode cX6_findPeriod 23 = .ok (.iconst 0, 1) := by decide +kernel
theorem dX6_findPeriod_24 : decode cX6_findPeriod 24 = .ok (.putfield 42, 3) := by decide +kernel
theorem dX6_findPeriod_27 : decode cX6_findPeriod 27 = .ok (.aload_n 0, 1) := by decide +kernel
theorem dX6_findPeriod_28 : decode cX6_findPeriod 28 = .ok (.getfield 42, 3) := by decide +kernel
theorem dX6_findPeriod_31 : decode cX6_findPeriod 31 = .ok (.ifCond .eq 4, 3) := by decide +kernel
theorem dX6_findPeriod_34 : decode cX6_findPeriod 34 = .ok (.return_, 1) := by decide +kernel
theorem dX6_findPeriod_35 : decode cX6_findPeriod 35 = .ok (.aload_n 0, 1) := by decide +kernel
theorem dX6_findPeriod_36 : decode cX6_findPeriod 36 = .ok (.getfield 9, 3) := by decide +kernel
theorem dX6_findPeriod_39 : decode cX6_findPeriod 39 = .ok (.iconst 0, 1) := by decide +kernel
theorem dX6_findPeriod_40 : decode cX6_findPeriod 40 = .ok (.aload_n 0, 1) := by decide +kernel
theorem dX6_findPeriod_41 : decode cX6_findPeriod 41 = .ok (.getfield 24, 3) := by decide +kernel
theorem dX6_findPeriod_44 : decode cX6_findPeriod 44 = .ok (.iconst 0, 1) := by decide +kernel
theorem dX6_findPeriod_45 : decode cX6_findPeriod 45 = .ok (.bipush 6, 2) := by decide +kernel
theorem dX6_findPeriod_47 : decode cX6_findPeriod 47 = .ok (.invokestatic 69, 3) := by decide +kernel
theorem dX6_findPeriod_50 : decode cX6_findPeriod 50 = .ok (.aload_n 0, 1) := by decide +kernel
theorem dX6_findPeriod_51 : decode cX6_findPeriod 51 = .ok (.getfield 30, 3) := by decide +kernel
theorem dX6_findPeriod_54 : decode cX6_findPeriod 54 = .ok (.getfield 58, 3) := by decide +kernel
theorem dX6_findPeriod_57 : decode cX6_findPeriod 57 = .ok (.iconst 0, 1) := by decide +kernel
theorem dX6_findPeriod_58 : decode cX6_findPeriod 58 = .ok (.aload_n 0, 1) := by decide +kernel
theorem dX6_findPeriod_59 : decode cX6_findPeriod 59 = .ok (.getfield 18, 3) := by decide +kernel
theorem dX6_findPeriod_62 : decode cX6_findPeriod 62 = .ok (.iconst 0, 1) := by decide +kernel
theorem dX6_findPeriod_63 : decode cX6_findPeriod 63 = .ok (.bipush 8, 2) := by decide +kernel
theorem dX6_findPeriod_65 : decode cX6_findPeriod 65 = .ok (.invokestatic 69, 3) := by decide +kernel
theorem dX6_findPeriod_68 : decode cX6_findPeriod 68 = .ok (.iconst 0, 1) := by decide +kernel
theorem dX6_findPeriod_69 : decode cX6_findPeriod 69 = .ok (.istore_n 2, 1) := by decide +kernel
theorem dX6_findPeriod_70 : decode cX6_findPeriod 70 = .ok (.iload_n 2, 1) := by decide +kernel
theorem dX6_findPeriod_71 : decode cX6_findPeriod 71 = .ok (.aload_n 0, 1) := by decide +kernel
theorem dX6_findPeriod_72 : decode cX6_findPeriod 72 = .ok (.getfield 75, 3) := by decide +kernel
theorem dX6_findPeriod_75 : decode cX6_findPeriod 75 = .ok (.if_icmp .ge 48, 3) := by decide +kernel
theorem dX6_findPeriod_78 : decode cX6_findPeriod 78 = .ok (.iload_n 2, 1) := by decide +kernel
theorem dX6_findPeriod_79 : decode cX6_findPeriod 79 = .ok (.sipush 360, 3) := by decide +kernel
theorem dX6_findPeriod_82 : decode cX6_findPeriod 82 = .ok (.if_icmp .ge 41, 3) := by decide +kernel
theorem dX6_findPeriod_85 : decode cX6_findPeriod 85 = .ok (.aload_n 0, 1) := by decide +kernel
theorem dX6_findPeriod_86 : decode cX6_findPeriod 86 = .ok (.getfield 46, 3) := by decide +kernel
theorem dX6_findPeriod_89 : decode cX6_findPeriod 89 = .ok (.ifCond .ne 34, 3) := by decide +kernel
theorem dX6_findPeriod_92 : decode cX6_findPeriod 92 = .ok (.aload_n 0, 1) := by decide +kernel
theorem dX6_findPeriod_93 : decode cX6_findPeriod 93 = .ok (.aload_n 1, 1) := by decide +kernel
theorem dX6_findPeriod_94 : decode cX6_findPeriod 94 = .ok (.invokevirtual 78, 3) := by decide +kernel
theorem dX6_findPeriod_97 : decode cX6_findPeriod 97 = .ok (.istore_n 3, 1) := by decide +kernel
theorem dX6_findPeriod_98 : decode cX6_findPeriod 98 = .ok (.iload_n 3, 1) := by decide +kernel
theorem dX6_findPeriod_99 : decode cX6_findPeriod 99 = .ok (.iconst (-1), 1) := by decide +kernel
theorem dX6_findPeriod_100 : decode cX6_findPeriod 100 = .ok (.if_icmp .ne 11, 3) := by decide +kernel
theorem dX6_findPeriod_103 : decode cX6_findPeriod 103 = .ok (.aload_n 0, 1) := by decide +kernel
theorem dX6_findPeriod_104 : decode cX6_findPeriod 104 = .ok (.iconst 1, 1) := by decide +kernel
theorem dX6_findPeriod_105 : decode cX6_findPeriod 105 = .ok (.putfield 46, 3) := by decide +kernel
theorem dX6_findPeriod_108 : decode cX6_findPeriod 108 = .ok (.goto 9, 3) := by decide +kernel
theorem dX6_findPeriod_111 : decode cX6_findPeriod 111 = .ok (.aload_n 0, 1) := by decide +kernel
theorem dX6_findPeriod_112 : decode cX6_findPeriod 112 = .ok (.aload_n 1, 1) := by decide +kernel
theorem dX6_findPeriod_113 : decode cX6_findPeriod 113 = .ok (.iload_n 3, 1) := by decide +kernel
theorem dX6_findPeriod_114 : decode cX6_findPeriod 114 = .ok (.invokevirtual 82, 3) := by decide +kernel
theorem dX6_findPeriod_117 : decode cX6_findPeriod 117 = .ok (.iinc 2 1, 3) := by decide +kernel
theorem dX6_findPeriod_120 : decode cX6_findPeriod 120 = .ok (.goto (-50), 3) := by decide +kernel
theorem dX6_findPeriod_123 : decode cX6_findPeriod 123 = .ok (.return_, 1) := by decide +kernel
theorem dX6_firstReady_0 : decode cX6_firstReady 0 = .ok (.iconst 0, 1) := by decide +kernel
theorem dX6_firstReady_1 : decode cX6_firstReady 1 = .ok (.istore_n 2, 1) := by decide +kernel
theorem dX6_firstReady_2 : decode cX6_firstReady 2 = .ok (.iload_n 2, 1) := by decide +kernel
theorem dX6_firstReady_3 : decode cX6_firstReady 3 = .ok (.bipush 6, 2) := by decide +kernel
theorem dX6_firstReady_5 : decode cX6_firstReady 5 = .ok (.if_icmp .ge 32, 3) := by decide +kernel
theorem dX6_firstReady_8 : decode cX6_firstReady 8 = .ok (.aload_n 0, 1) := by decide +kernel
theorem dX6_firstReady_9 : decode cX6_firstReady 9 = .ok (.getfield 24, 3) := by decide +kernel
theorem dX6_firstReady_12 : decode cX6_firstReady 12 = .ok (.iload_n 2, 1) := by decide +kernel
theorem dX6_firstReady_13 : decode cX6_firstReady 13 = .ok (.iaload, 1) := by decide +kernel
theorem dX6_firstReady_14 : decode cX6_firstReady 14 = .ok (.ifCond .le 17, 3) := by decide +kernel
theorem dX6_firstReady_17 : decode cX6_firstReady 17 = .ok (.aload_n 0, 1) := by decide +kernel
theorem dX6_firstReady_18 : decode cX6_firstReady 18 = .ok (.getfield 30, 3) := by decide +kernel
theorem dX6_firstReady_21 : decode cX6_firstReady 21 = .ok (.aload_n 1, 1) := by decide +kernel
theorem dX6_firstReady_22 : decode cX6_firstReady 22 = .ok (.iload_n 2, 1) := by decide +kernel
theorem dX6_firstReady_23 : decode cX6_firstReady 23 = .ok (.invokevirtual 38, 3) := by decide +kernel
theorem dX6_firstReady_26 : decode cX6_firstReady 26 = .ok (.ifCond .eq 5, 3) := by decide +kernel
theorem dX6_firstReady_29 : decode cX6_firstReady 29 = .ok (.iload_n 2, 1) := by decide +kernel
theorem dX6_firstReady_30 : decode cX6_firstReady 30 = .ok (.ireturn, 1) := by decide +kernel
theorem dX6_firstReady_31 : decode cX6_firstReady 31 = .ok (.iinc 2 1, 3) := by decide +kernel
theorem dX6_firstReady_34 : decode cX6_firstReady 34 = .ok (.goto (-32), 3) := by decide +kernel
theorem dX6_firstReady_37 : decode cX6_firstReady 37 = .ok (.iconst (-1), 1) := by decide +kernel
theorem dX6_firstReady_38 : decode cX6_firstReady 38 = .ok (.ireturn, 1) := by decide +kernel
theorem dX6_followFiring_0 : decode cX6_followFiring 0 = .ok (.aload_n 0, 1) := by decide +kernel
theorem dX6_followFiring_1 : decode cX6_followFiring 1 = .ok (.getfield 24, 3) := by decide +kernel
theorem dX6_followFiring_4 : decode cX6_followFiring 4 = .ok (.iload_n 2, 1) := by decide +kernel
theorem dX6_followFiring_5 : decode cX6_followFiring 5 = .ok (.dup2, 1) := by decide +kernel
theorem dX6_followFiring_6 : decode cX6_followFiring 6 = .ok (.iaload, 1) := by decide +kernel
theorem dX6_followFiring_7 : decode cX6_followFiring 7 = .ok (.iconst 1, 1) := by decide +kernel
theorem dX6_followFiring_8 : decode cX6_followFiring 8 = .ok (.isub, 1) := by decide +kernel
theorem dX6_followFiring_9 : decode cX6_followFiring 9 = .ok (.iastore, 1) := by decide +kernel
theorem dX6_followFiring_10 : decode cX6_followFiring 10 = .ok (.aload_n 0, 1) := by decide +kernel
theorem dX6_followFiring_11 : decode cX6_followFiring 11 = .ok (.getfield 30, 3) := by decide +kernel
theorem dX6_followFiring_14 : decode cX6_followFiring 14 = .ok (.aload_n 1, 1) := by decide +kernel
theorem dX6_followFiring_15 : decode cX6_followFiring 15 = .ok (.iload_n 2, 1) := by decide +kernel
theorem dX6_followFiring_16 : decode cX6_followFiring 16 = .ok (.invokevirtual 86, 3) := by decide +kernel
theorem dX6_followFiring_19 : decode cX6_followFiring 19 = .ok (.aload_n 0, 1) := by decide +kernel
theorem dX6_followFiring_20 : decode cX6_followFiring 20 = .ok (.getfield 15, 3) := by decide +kernel
theorem dX6_followFiring_23 : decode cX6_followFiring 23 = .ok (.aload_n 0, 1) := by decide +kernel
theorem dX6_followFiring_24 : decode cX6_followFiring 24 = .ok (.getfield 61, 3) := by decide +kernel
theorem dX6_followFiring_27 : decode cX6_followFiring 27 = .ok (.iload_n 2, 1) := by decide +kernel
theorem dX6_followFiring_28 : decode cX6_followFiring 28 = .ok (.iastore, 1) := by decide +kernel
theorem dX6_followFiring_29 : decode cX6_followFiring 29 = .ok (.aload_n 0, 1) := by decide +kernel
theorem dX6_followFiring_30 : decode cX6_followFiring 30 = .ok (.dup, 1) := by decide +kernel
theorem dX6_followFiring_31 : decode cX6_followFiring 31 = .ok (.getfield 61, 3) := by decide +kernel
theorem dX6_followFiring_34 : decode cX6_followFiring 34 = .ok (.iconst 1, 1) := by decide +kernel
theorem dX6_followFiring_35 : decode cX6_followFiring 35 = .ok (.iadd, 1) := by decide +kernel
theorem dX6_followFiring_36 : decode cX6_followFiring 36 = .ok (.putfield 61, 3) := by decide +kernel
theorem dX6_followFiring_39 : decode cX6_followFiring 39 = .ok (.iconst 0, 1) := by decide +kernel
theorem dX6_followFiring_40 : decode cX6_followFiring 40 = .ok (.istore_n 3, 1) := by decide +kernel
theorem dX6_followFiring_41 : decode cX6_followFiring 41 = .ok (.iload_n 3, 1) := by decide +kernel
theorem dX6_followFiring_42 : decode cX6_followFiring 42 = .ok (.bipush 8, 2) := by decide +kernel
theorem dX6_followFiring_44 : decode cX6_followFiring 44 = .ok (.if_icmp .ge 33, 3) := by decide +kernel
theorem dX6_followFiring_47 : decode cX6_followFiring 47 = .ok (.aload_n 0, 1) := by decide +kernel
theorem dX6_followFiring_48 : decode cX6_followFiring 48 = .ok (.getfield 18, 3) := by decide +kernel
theorem dX6_followFiring_51 : decode cX6_followFiring 51 = .ok (.iload_n 3, 1) := by decide +kernel
theorem dX6_followFiring_52 : decode cX6_followFiring 52 = .ok (.aload_n 0, 1) := by decide +kernel
theorem dX6_followFiring_53 : decode cX6_followFiring 53 = .ok (.getfield 18, 3) := by decide +kernel
theorem dX6_followFiring_56 : decode cX6_followFiring 56 = .ok (.iload_n 3, 1) := by decide +kernel
theorem dX6_followFiring_57 : decode cX6_followFiring 57 = .ok (.iaload, 1) := by decide +kernel
theorem dX6_followFiring_58 : decode cX6_followFiring 58 = .ok (.aload_n 0, 1) := by decide +kernel
theorem dX6_followFiring_59 : decode cX6_followFiring 59 = .ok (.getfield 30, 3) := by decide +kernel
theorem dX6_followFiring_62 : decode cX6_followFiring 62 = .ok (.getfield 58, 3) := by decide +kernel
theorem dX6_followFiring_65 : decode cX6_followFiring 65 = .ok (.iload_n 3, 1) := by decide +kernel
theorem dX6_followFiring_66 : decode cX6_followFiring 66 = .ok (.iaload, 1) := by decide +kernel
theorem dX6_followFiring_67 : decode cX6_followFiring 67 = .ok (.invokestatic 89, 3) := by decide +kernel
theorem dX6_followFiring_70 : decode cX6_followFiring 70 = .ok (.iastore, 1) := by decide +kernel
theorem dX6_followFiring_71 : decode cX6_followFiring 71 = .ok (.iinc 3 1, 3) := by decide +kernel
theorem dX6_followFiring_74 : decode cX6_followFiring 74 = .ok (.goto (-33), 3) := by decide +kernel
theorem dX6_followFiring_77 : decode cX6_followFiring 77 = .ok (.return_, 1) := by decide +kernel
theorem dX6_play_0 : decode cX6_play 0 = .ok (.iconst 0, 1) := by decide +kernel
theorem dX6_play_1 : decode cX6_play 1 = .ok (.istore_n 2, 1) := by decide +kernel
theorem dX6_play_2 : decode cX6_play 2 = .ok (.iload_n 2, 1) := by decide +kernel
theorem dX6_play_3 : decode cX6_play 3 = .ok (.aload_n 0, 1) := by decide +kernel
theorem dX6_play_4 : decode cX6_play 4 = .ok (.getfield 61, 3) := by decide +kernel
theorem dX6_play_7 : decode cX6_play 7 = .ok (.if_icmp .ge 20, 3) := by decide +kernel
theorem dX6_play_10 : decode cX6_play 10 = .ok (.aload_n 1, 1) := by decide +kernel
theorem dX6_play_11 : decode cX6_play 11 = .ok (.aload_n 0, 1) := by decide +kernel
theorem dX6_play_12 : decode cX6_play 12 = .ok (.getfield 15, 3) := by decide +kernel
theorem dX6_play_15 : decode cX6_play 15 = .ok (.iload_n 2, 1) := by decide +kernel
theorem dX6_play_16 : decode cX6_play 16 = .ok (.iaload, 1) := by decide +kernel
theorem dX6_play_17 : decode cX6_play 17 = .ok (.invokevirtual 95, 3) := by decide +kernel
theorem dX6_play_20 : decode cX6_play 20 = .ok (.pop, 1) := by decide +kernel
theorem dX6_play_21 : decode cX6_play 21 = .ok (.iinc 2 1, 3) := by decide +kernel
theorem dX6_play_24 : decode cX6_play 24 = .ok (.goto (-22), 3) := by decide +kernel
theorem dX6_play_27 : decode cX6_play 27 = .ok (.return_, 1) := by decide +kernel
theorem dX6_hold_0 : decode cX6_hold 0 = .ok (.iconst 0, 1) := by decide +kernel
theorem dX6_hold_1 : decode cX6_hold 1 = .ok (.istore_n 1, 1) := by decide +kernel
theorem dX6_hold_2 : decode cX6_hold 2 = .ok (.iconst 0, 1) := by decide +kernel
theorem dX6_hold_3 : decode cX6_hold 3 = .ok (.istore_n 2, 1) := by decide +kernel
theorem dX6_hold_4 : decode cX6_hold 4 = .ok (.iload_n 2, 1) := by decide +kernel
theorem dX6_hold_5 : decode cX6_hold 5 = .ok (.bipush 8, 2) := by decide +kernel
theorem dX6_hold_7 : decode cX6_hold 7 = .ok (.if_icmp .ge 18, 3) := by decide +kernel
theorem dX6_hold_10 : decode cX6_hold 10 = .ok (.iload_n 1, 1) := by decide +kernel
theorem dX6_hold_11 : decode cX6_hold 11 = .ok (.aload_n 0, 1) := by decide +kernel
theorem dX6_hold_12 : decode cX6_hold 12 = .ok (.getfield 18, 3) := by decide +kernel
theorem dX6_hold_15 : decode cX6_hold 15 = .ok (.iload_n 2, 1) := by decide +kernel
theorem dX6_hold_16 : decode cX6_hold 16 = .ok (.iaload, 1) := by decide +kernel
theorem dX6_hold_17 : decode cX6_hold 17 = .ok (.iadd, 1) := by decide +kernel
theorem dX6_hold_18 : decode cX6_hold 18 = .ok (.istore_n 1, 1) := by decide +kernel
theorem dX6_hold_19 : decode cX6_hold 19 = .ok (.iinc 2 1, 3) := by decide +kernel
theorem dX6_hold_22 : decode cX6_hold 22 = .ok (.goto (-18), 3) := by decide +kernel
theorem dX6_hold_25 : decode cX6_hold 25 = .ok (.iload_n 1, 1) := by decide +kernel
theorem dX6_hold_26 : decode cX6_hold 26 = .ok (.ireturn, 1) := by decide +kernel
theorem dX6_findTimes_0 : decode cX6_findTimes 0 = .ok (.iconst 0, 1) := by decide +kernel
theorem dX6_findTimes_1 : decode cX6_findTimes 1 = .ok (.istore_n 2, 1) := by decide +kernel
theorem dX6_findTimes_2 : decode cX6_findTimes 2 = .ok (.iload_n 2, 1) := by decide +kernel
theorem dX6_findTimes_3 : decode cX6_findTimes 3 = .ok (.bipush 6, 2) := by decide +kernel
theorem dX6_findTimes_5 : decode cX6_findTimes 5 = .ok (.if_icmp .ge 35, 3) := by decide +kernel
theorem dX6_findTimes_8 : decode cX6_findTimes 8 = .ok (.aload_n 0, 1) := by decide +kernel
theorem dX6_findTimes_9 : decode cX6_findTimes 9 = .ok (.getfield 9, 3) := by decide +kernel
theorem dX6_findTimes_12 : decode cX6_findTimes 12 = .ok (.iload_n 2, 1) := by decide +kernel
theorem dX6_findTimes_13 : decode cX6_findTimes 13 = .ok (.aload_n 1, 1) := by decide +kernel
theorem dX6_findTimes_14 : decode cX6_findTimes 14 = .ok (.iload_n 2, 1) := by decide +kernel
theorem dX6_findTimes_15 : decode cX6_findTimes 15 = .ok (.invokevirtual 98, 3) := by decide +kernel
theorem dX6_findTimes_18 : decode cX6_findTimes 18 = .ok (.ifCond .eq 7, 3) := by decide +kernel
theorem dX6_findTimes_21 : decode cX6_findTimes 21 = .ok (.iconst 1, 1) := by decide +kernel
theorem dX6_findTimes_22 : decode cX6_findTimes 22 = .ok (.goto 4, 3) := by decide +kernel
theorem dX6_findTimes_25 : decode cX6_findTimes 25 = .ok (.iconst 0, 1) := by decide +kernel
theorem dX6_findTimes_26 : decode cX6_findTimes 26 = .ok (.iastore, 1) := by decide +kernel
theorem dX6_findTimes_27 : decode cX6_findTimes 27 = .ok (.aload_n 0, 1) := by decide +kernel
theorem dX6_findTimes_28 : decode cX6_findTimes 28 = .ok (.getfield 21, 3) := by decide +kernel
theorem dX6_findTimes_31 : decode cX6_findTimes 31 = .ok (.iload_n 2, 1) := by decide +kernel
theorem dX6_findTimes_32 : decode cX6_findTimes 32 = .ok (.iload_n 2, 1) := by decide +kernel
theorem dX6_findTimes_33 : decode cX6_findTimes 33 = .ok (.iastore, 1) := by decide +kernel
theorem dX6_findTimes_34 : decode cX6_findTimes 34 = .ok (.iinc 2 1, 3) := by decide +kernel
theorem dX6_findTimes_37 : decode cX6_findTimes 37 = .ok (.goto (-35), 3) := by decide +kernel
theorem dX6_findTimes_40 : decode cX6_findTimes 40 = .ok (.iconst 0, 1) := by decide +kernel
theorem dX6_findTimes_41 : decode cX6_findTimes 41 = .ok (.istore_n 2, 1) := by decide +kernel
theorem dX6_findTimes_42 : decode cX6_findTimes 42 = .ok (.iload_n 2, 1) := by decide +kernel
theorem dX6_findTimes_43 : decode cX6_findTimes 43 = .ok (.bipush 8, 2) := by decide +kernel
theorem dX6_findTimes_45 : decode cX6_findTimes 45 = .ok (.if_icmp .ge 36, 3) := by decide +kernel
theorem dX6_findTimes_48 : decode cX6_findTimes 48 = .ok (.aload_n 1, 1) := by decide +kernel
theorem dX6_findTimes_49 : decode cX6_findTimes 49 = .ok (.getfield 101, 3) := by decide +kernel
theorem dX6_findTimes_52 : decode cX6_findTimes 52 = .ok (.iload_n 2, 1) := by decide +kernel
theorem dX6_findTimes_53 : decode cX6_findTimes 53 = .ok (.aaload, 1) := by decide +kernel
theorem dX6_findTimes_54 : decode cX6_findTimes 54 = .ok (.getfield 105, 3) := by decide +kernel
theorem dX6_findTimes_57 : decode cX6_findTimes 57 = .ok (.ifCond .eq 18, 3) := by decide +kernel
theorem dX6_findTimes_60 : decode cX6_findTimes 60 = .ok (.aload_n 0, 1) := by decide +kernel
theorem dX6_findTimes_61 : decode cX6_findTimes 61 = .ok (.aload_n 1, 1) := by decide +kernel
theorem dX6_findTimes_62 : decode cX6_findTimes 62 = .ok (.getfield 101, 3) := by decide +kernel
theorem dX6_findTimes_65 : decode cX6_findTimes 65 = .ok (.iload_n 2, 1) := by decide +kernel
theorem dX6_findTimes_66 : decode cX6_findTimes 66 = .ok (.aaload, 1) := by decide +kernel
theorem dX6_findTimes_67 : decode cX6_findTimes 67 = .ok (.invokevirtual 110, 3) := by decide +kernel
theorem dX6_findTimes_70 : decode cX6_findTimes 70 = .ok (.ifCond .ne 5, 3) := by decide +kernel
theorem dX6_findTimes_73 : decode cX6_findTimes 73 = .ok (.iconst 0, 1) := by decide +kernel
theorem dX6_findTimes_74 : decode cX6_findTimes 74 = .ok (.ireturn, 1) := by decide +kernel
theorem dX6_findTimes_75 : decode cX6_findTimes 75 = .ok (.iinc 2 1, 3) := by decide +kernel
theorem dX6_findTimes_78 : decode cX6_findTimes 78 = .ok (.goto (-36), 3) := by decide +kernel
theorem dX6_findTimes_81 : decode cX6_findTimes 81 = .ok (.aload_n 0, 1) := by decide +kernel
theorem dX6_findTimes_82 : decode cX6_findTimes 82 = .ok (.iconst 0, 1) := by decide +kernel
theorem dX6_findTimes_83 : decode cX6_findTimes 83 = .ok (.putfield 75, 3) := by decide +kernel
theorem dX6_findTimes_86 : decode cX6_findTimes 86 = .ok (.iconst 0, 1) := by decide +kernel
theorem dX6_findTimes_87 : decode cX6_findTimes 87 = .ok (.istore_n 2, 1) := by decide +kernel
theorem dX6_findTimes_88 : decode cX6_findTimes 88 = .ok (.iload_n 2, 1) := by decide +kernel
theorem dX6_findTimes_89 : decode cX6_findTimes 89 = .ok (.bipush 6, 2) := by decide +kernel
theorem dX6_findTimes_91 : decode cX6_findTimes 91 = .ok (.if_icmp .ge 37, 3) := by decide +kernel
theorem dX6_findTimes_94 : decode cX6_findTimes 94 = .ok (.aload_n 0, 1) := by decide +kernel
theorem dX6_findTimes_95 : decode cX6_findTimes 95 = .ok (.getfield 9, 3) := by decide +kernel
theorem dX6_findTimes_98 : decode cX6_findTimes 98 = .ok (.iload_n 2, 1) := by decide +kernel
theorem dX6_findTimes_99 : decode cX6_findTimes 99 = .ok (.iaload, 1) := by decide +kernel
theorem dX6_findTimes_100 : decode cX6_findTimes 100 = .ok (.bipush 60, 2) := by decide +kernel
theorem dX6_findTimes_102 : decode cX6_findTimes 102 = .ok (.if_icmp .le 5, 3) := by decide +kernel
theorem dX6_findTimes_105 : decode cX6_findTimes 105 = .ok (.iconst 0, 1) := by decide +kernel
theorem dX6_findTimes_106 : decode cX6_findTimes 106 = .ok (.ireturn, 1) := by decide +kernel
theorem dX6_findTimes_107 : decode cX6_findTimes 107 = .ok (.aload_n 0, 1) := by decide +kernel
theorem dX6_findTimes_108 : decode cX6_findTimes 108 = .ok (.dup, 1) := by decide +kernel
theorem dX6_findTimes_109 : decode cX6_findTimes 109 = .ok (.getfield 75, 3) := by decide +kernel
theorem dX6_findTimes_112 : decode cX6_findTimes 112 = .ok (.aload_n 0, 1) := by decide +kernel
theorem dX6_findTimes_113 : decode cX6_findTimes 113 = .ok (.getfield 9, 3) := by decide +kernel
theorem dX6_findTimes_116 : decode cX6_findTimes 116 = .ok (.iload_n 2, 1) := by decide +kernel
theorem dX6_findTimes_117 : decode cX6_findTimes 117 = .ok (.iaload, 1) := by decide +kernel
theorem dX6_findTimes_118 : decode cX6_findTimes 118 = .ok (.iadd, 1) := by decide +kernel
theorem dX6_findTimes_119 : decode cX6_findTimes 119 = .ok (.putfield 75, 3) := by decide +kernel
theorem dX6_findTimes_122 : decode cX6_findTimes 122 = .ok (.iinc 2 1, 3) := by decide +kernel
theorem dX6_findTimes_125 : decode cX6_findTimes 125 = .ok (.goto (-37), 3) := by decide +kernel
theorem dX6_findTimes_128 : decode cX6_findTimes 128 = .ok (.iconst 1, 1) := by decide +kernel
theorem dX6_findTimes_129 : decode cX6_findTimes 129 = .ok (.ireturn, 1) := by decide +kernel
theorem dX6_joinLots_0 : decode cX6_joinLots 0 = .ok (.aload_n 0, 1) := by decide +kernel
theorem dX6_joinLots_1 : decode cX6_joinLots 1 = .ok (.getfield 9, 3) := by decide +kernel
theorem dX6_joinLots_4 : decode cX6_joinLots 4 = .ok (.aload_n 1, 1) := by decide +kernel
theorem dX6_joinLots_5 : decode cX6_joinLots 5 = .ok (.getfield 114, 3) := by decide +kernel
theorem dX6_joinLots_8 : decode cX6_joinLots 8 = .ok (.iaload, 1) := by decide +kernel
theorem dX6_joinLots_9 : decode cX6_joinLots 9 = .ok (.aload_n 1, 1) := by decide +kernel
theorem dX6_joinLots_10 : decode cX6_joinLots 10 = .ok (.getfield 117, 3) := by decide +kernel
theorem dX6_joinLots_13 : decode cX6_joinLots 13 = .ok (.imul, 1) := by decide +kernel
theorem dX6_joinLots_14 : decode cX6_joinLots 14 = .ok (.istore_n 2, 1) := by decide +kernel
theorem dX6_joinLots_15 : decode cX6_joinLots 15 = .ok (.aload_n 0, 1) := by decide +kernel
theorem dX6_joinLots_16 : decode cX6_joinLots 16 = .ok (.getfield 9, 3) := by decide +kernel
theorem dX6_joinLots_19 : decode cX6_joinLots 19 = .ok (.aload_n 1, 1) := by decide +kernel
theorem dX6_joinLots_20 : decode cX6_joinLots 20 = .ok (.getfield 120, 3) := by decide +kernel
theorem dX6_joinLots_23 : decode cX6_joinLots 23 = .ok (.iaload, 1) := by decide +kernel
theorem dX6_joinLots_24 : decode cX6_joinLots 24 = .ok (.aload_n 1, 1) := by decide +kernel
theorem dX6_joinLots_25 : decode cX6_joinLots 25 = .ok (.getfield 123, 3) := by decide +kernel
theorem dX6_joinLots_28 : decode cX6_joinLots 28 = .ok (.imul, 1) := by decide +kernel
theorem dX6_joinLots_29 : decode cX6_joinLots 29 = .ok (.istore_n 3, 1) := by decide +kernel
theorem dX6_joinLots_30 : decode cX6_joinLots 30 = .ok (.aload_n 0, 1) := by decide +kernel
theorem dX6_joinLots_31 : decode cX6_joinLots 31 = .ok (.getfield 21, 3) := by decide +kernel
theorem dX6_joinLots_34 : decode cX6_joinLots 34 = .ok (.aload_n 1, 1) := by decide +kernel
theorem dX6_joinLots_35 : decode cX6_joinLots 35 = .ok (.getfield 114, 3) := by decide +kernel
theorem dX6_joinLots_38 : decode cX6_joinLots 38 = .ok (.iaload, 1) := by decide +kernel
theorem dX6_joinLots_39 : decode cX6_joinLots 39 = .ok (.istore 4, 2) := by decide +kernel
theorem dX6_joinLots_41 : decode cX6_joinLots 41 = .ok (.aload_n 0, 1) := by decide +kernel
theorem dX6_joinLots_42 : decode cX6_joinLots 42 = .ok (.getfield 21, 3) := by decide +kernel
theorem dX6_joinLots_45 : decode cX6_joinLots 45 = .ok (.aload_n 1, 1) := by decide +kernel
theorem dX6_joinLots_46 : decode cX6_joinLots 46 = .ok (.getfield 120, 3) := by decide +kernel
theorem dX6_joinLots_49 : decode cX6_joinLots 49 = .ok (.iaload, 1) := by decide +kernel
theorem dX6_joinLots_50 : decode cX6_joinLots 50 = .ok (.istore 5, 2) := by decide +kernel
theorem dX6_joinLots_52 : decode cX6_joinLots 52 = .ok (.iload 4, 2) := by decide +kernel
theorem dX6_joinLots_54 : decode cX6_joinLots 54 = .ok (.iload 5, 2) := by decide +kernel
theorem dX6_joinLots_56 : decode cX6_joinLots 56 = .ok (.if_icmp .ne 14, 3) := by decide +kernel
theorem dX6_joinLots_59 : decode cX6_joinLots 59 = .ok (.iload_n 2, 1) := by decide +kernel
theorem dX6_joinLots_60 : decode cX6_joinLots 60 = .ok (.iload_n 3, 1) := by decide +kernel
theorem dX6_joinLots_61 : decode cX6_joinLots 61 = .ok (.if_icmp .ne 7, 3) := by decide +kernel
theorem dX6_joinLots_64 : decode cX6_joinLots 64 = .ok (.iconst 1, 1) := by decide +kernel
theorem dX6_joinLots_65 : decode cX6_joinLots 65 = .ok (.goto 4, 3) := by decide +kernel
theorem dX6_joinLots_68 : decode cX6_joinLots 68 = .ok (.iconst 0, 1) := by decide +kernel
theorem dX6_joinLots_69 : decode cX6_joinLots 69 = .ok (.ireturn, 1) := by decide +kernel
theorem dX6_joinLots_70 : decode cX6_joinLots 70 = .ok (.iload_n 2, 1) := by decide +kernel
theorem dX6_joinLots_71 : decode cX6_joinLots 71 = .ok (.i2l, 1) := by decide +kernel
theorem dX6_joinLots_72 : decode cX6_joinLots 72 = .ok (.iload_n 3, 1) := by decide +kernel
theorem dX6_joinLots_73 : decode cX6_joinLots 73 = .ok (.i2l, 1) := by decide +kernel
theorem dX6_joinLots_74 : decode cX6_joinLots 74 = .ok (.invokestatic 126, 3) := by decide +kernel
theorem dX6_joinLots_77 : decode cX6_joinLots 77 = .ok (.l2i, 1) := by decide +kernel
theorem dX6_joinLots_78 : decode cX6_joinLots 78 = .ok (.istore 6, 2) := by decide +kernel
theorem dX6_joinLots_80 : decode cX6_joinLots 80 = .ok (.iload 6, 2) := by decide +kernel
theorem dX6_joinLots_82 : decode cX6_joinLots 82 = .ok (.ifCond .gt 5, 3) := by decide +kernel
theorem dX6_joinLots_85 : decode cX6_joinLots 85 = .ok (.iconst 0, 1) := by decide +kernel
theorem dX6_joinLots_86 : decode cX6_joinLots 86 = .ok (.ireturn, 1) := by decide +kernel
theorem dX6_joinLots_87 : decode cX6_joinLots 87 = .ok (.aload_n 0, 1) := by decide +kernel
theorem dX6_joinLots_88 : decode cX6_joinLots 88 = .ok (.iload 4, 2) := by decide +kernel
theorem dX6_joinLots_90 : decode cX6_joinLots 90 = .ok (.iload_n 3, 1) := by decide +kernel
theorem dX6_joinLots_91 : decode cX6_joinLots 91 = .ok (.iload 6, 2) := by decide +kernel
theorem dX6_joinLots_93 : decode cX6_joinLots 93 = .ok (.idiv, 1) := by decide +kernel
theorem dX6_joinLots_94 : decode cX6_joinLots 94 = .ok (.iload 4, 2) := by decide +kernel
theorem dX6_joinLots_96 : decode cX6_joinLots 96 = .ok (.invokevirtual 130, 3) := by decide +kernel
theorem dX6_joinLots_99 : decode cX6_joinLots 99 = .ok (.aload_n 0, 1) := by decide +kernel
theorem dX6_joinLots_100 : decode cX6_joinLots 100 = .ok (.iload 5, 2) := by decide +kernel
theorem dX6_joinLots_102 : decode cX6_joinLots 102 = .ok (.iload_n 2, 1) := by decide +kernel
theorem dX6_joinLots_103 : decode cX6_joinLots 103 = .ok (.iload 6, 2) := by decide +kernel
theorem dX6_joinLots_105 : decode cX6_joinLots 105 = .ok (.idiv, 1) := by decide +kernel
theorem dX6_joinLots_106 : decode cX6_joinLots 106 = .ok (.iload 4, 2) := by decide +kernel
theorem dX6_joinLots_108 : decode cX6_joinLots 108 = .ok (.invokevirtual 130, 3) := by decide +kernel
theorem dX6_joinLots_111 : decode cX6_joinLots 111 = .ok (.iconst 1, 1) := by decide +kernel
theorem dX6_joinLots_112 : decode cX6_joinLots 112 = .ok (.ireturn, 1) := by decide +kernel
theorem dX6_growLot_0 : decode cX6_growLot 0 = .ok (.iconst 0, 1) := by decide +kernel
theorem dX6_growLot_1 : decode cX6_growLot 1 = .ok (.istore 4, 2) := by decide +kernel
theorem dX6_growLot_3 : decode cX6_growLot 3 = .ok (.iload 4, 2) := by decide +kernel
theorem dX6_growLot_5 : decode cX6_growLot 5 = .ok (.bipush 6, 2) := by decide +kernel
theorem dX6_growLot_7 : decode cX6_growLot 7 = .ok (.if_icmp .ge 39, 3) := by decide +kernel
theorem dX6_growLot_10 : decode cX6_growLot 10 = .ok (.aload_n 0, 1) := by decide +kernel
theorem dX6_growLot_11 : decode cX6_growLot 11 = .ok (.getfield 21, 3) := by decide +kernel
theorem dX6_growLot_14 : decode cX6_growLot 14 = .ok (.iload 4, 2) := by decide +kernel
theorem dX6_growLot_16 : decode cX6_growLot 16 = .ok (.iaload, 1) := by decide +kernel
theorem dX6_growLot_17 : decode cX6_growLot 17 = .ok (.iload_n 1, 1) := by decide +kernel
theorem dX6_growLot_18 : decode cX6_growLot 18 = .ok (.if_icmp .ne 22, 3) := by decide +kernel
theorem dX6_growLot_21 : decode cX6_growLot 21 = .ok (.aload_n 0, 1) := by decide +kernel
theorem dX6_growLot_22 : decode cX6_growLot 22 = .ok (.getfield 9, 3) := by decide +kernel
theorem dX6_growLot_25 : decode cX6_growLot 25 = .ok (.iload 4, 2) := by decide +kernel
theorem dX6_growLot_27 : decode cX6_growLot 27 = .ok (.dup2, 1) := by decide +kernel
theorem dX6_growLot_28 : decode cX6_growLot 28 = .ok (.iaload, 1) := by decide +kernel
theorem dX6_growLot_29 : decode cX6_growLot 29 = .ok (.iload_n 2, 1) := by decide +kernel
theorem dX6_growLot_30 : decode cX6_growLot 30 = .ok (.imul, 1) := by decide +kernel
theorem dX6_growLot_31 : decode cX6_growLot 31 = .ok (.iastore, 1) := by decide +kernel
theorem dX6_growLot_32 : decode cX6_growLot 32 = .ok (.aload_n 0, 1) := by decide +kernel
theorem dX6_growLot_33 : decode cX6_growLot 33 = .ok (.getfield 21, 3) := by decide +kernel
theorem dX6_growLot_36 : decode cX6_growLot 36 = .ok (.iload 4, 2) := by decide +kernel
theorem dX6_growLot_38 : decode cX6_growLot 38 = .ok (.iload_n 3, 1) := by decide +kernel
theorem dX6_growLot_39 : decode cX6_growLot 39 = .ok (.iastore, 1) := by decide +kernel
theorem dX6_growLot_40 : decode cX6_growLot 40 = .ok (.iinc 4 1, 3) := by decide +kernel
theorem dX6_growLot_43 : decode cX6_growLot 43 = .ok (.goto (-40), 3) := by decide +kernel
theorem dX6_growLot_46 : decode cX6_growLot 46 = .ok (.return_, 1) := by decide +kernel
theorem dX7_init_0 : decode cX7_init 0 = .ok (.aload_n 0, 1) := by decide +kernel
theorem dX7_init_1 : decode cX7_init 1 = .ok (.invokespecial 3, 3) := by decide +kernel
theorem dX7_init_4 : decode cX7_init 4 = .ok (.aload_n 0, 1) := by decide +kernel
theorem dX7_init_5 : decode cX7_init 5 = .ok (.new 9, 3) := by decide +kernel
theorem dX7_init_8 : decode cX7_init 8 = .ok (.dup, 1) := by decide +kernel
theorem dX7_init_9 : decode cX7_init 9 = .ok (.invokespecial 11, 3) := by decide +kernel
theorem dX7_init_12 : decode cX7_init 12 = .ok (.putfield 12, 3) := by decide +kernel
theorem dX7_init_15 : decode cX7_init 15 = .ok (.aload_n 0, 1) := by decide +kernel
theorem dX7_init_16 : decode cX7_init 16 = .ok (.new 18, 3) := by decide +kernel
theorem dX7_init_19 : decode cX7_init 19 = .ok (.dup, 1) := by decide +kernel
theorem dX7_init_20 : decode cX7_init 20 = .ok (.iconst 5, 1) := by decide +kernel
theorem dX7_init_21 : decode cX7_init 21 = .ok (.invokespecial 20, 3) := by decide +kernel
theorem dX7_init_24 : decode cX7_init 24 = .ok (.putfield 23, 3) := by decide +kernel
theorem dX7_init_27 : decode cX7_init 27 = .ok (.aload_n 0, 1) := by decide +kernel
theorem dX7_init_28 : decode cX7_init 28 = .ok (.new 18, 3) := by decide +kernel
theorem dX7_init_31 : decode cX7_init 31 = .ok (.dup, 1) := by decide +kernel
theorem dX7_init_32 : decode cX7_init 32 = .ok (.bipush 10, 2) := by decide +kernel
theorem dX7_init_34 : decode cX7_init 34 = .ok (.invokespecial 20, 3) := by decide +kernel
theorem dX7_init_37 : decode cX7_init 37 = .ok (.putfield 27, 3) := by decide +kernel
theorem dX7_init_40 : decode cX7_init 40 = .ok (.aload_n 0, 1) := by decide +kernel
theorem dX7_init_41 : decode cX7_init 41 = .ok (.new 18, 3) := by decide +kernel
theorem dX7_init_44 : decode cX7_init 44 = .ok (.dup, 1) := by decide +kernel
theorem dX7_init_45 : decode cX7_init 45 = .ok (.bipush 8, 2) := by decide +kernel
theorem dX7_init_47 : decode cX7_init 47 = .ok (.invokespecial 20, 3) := by decide +kernel
theorem dX7_init_50 : decode cX7_init 50 = .ok (.putfield 30, 3) := by decide +kernel
theorem dX7_init_53 : decode cX7_init 53 = .ok (.return_, 1) := by decide +kernel
theorem dX7_copyFrom_0 : decode cX7_copyFrom 0 = .ok (.aload_n 0, 1) := by decide +kernel
theorem dX7_copyFrom_1 : decode cX7_copyFrom 1 = .ok (.getfield 12, 3) := by decide +kernel
theorem dX7_copyFrom_4 : decode cX7_copyFrom 4 = .ok (.aload_n 1, 1) := by decide +kernel
theorem dX7_copyFrom_5 : decode cX7_copyFrom 5 = .ok (.getfield 12, 3) := by decide +kernel
theorem dX7_copyFrom_8 : decode cX7_copyFrom 8 = .ok (.invokevirtual 33, 3) := by decide +kernel
theorem dX7_copyFrom_11 : decode cX7_copyFrom 11 = .ok (.aload_n 0, 1) := by decide +kernel
theorem dX7_copyFrom_12 : decode cX7_copyFrom 12 = .ok (.getfield 23, 3) := by decide +kernel
theorem dX7_copyFrom_15 : decode cX7_copyFrom 15 = .ok (.aload_n 1, 1) := by decide +kernel
theorem dX7_copyFrom_16 : decode cX7_copyFrom 16 = .ok (.getfield 23, 3) := by decide +kernel
theorem dX7_copyFrom_19 : decode cX7_copyFrom 19 = .ok (.invokevirtual 37, 3) := by decide +kernel
theorem dX7_copyFrom_22 : decode cX7_copyFrom 22 = .ok (.aload_n 0, 1) := by decide +kernel
theorem dX7_copyFrom_23 : decode cX7_copyFrom 23 = .ok (.getfield 27, 3) := by decide +kernel
theorem dX7_copyFrom_26 : decode cX7_copyFrom 26 = .ok (.aload_n 1, 1) := by decide +kernel
theorem dX7_copyFrom_27 : decode cX7_copyFrom 27 = .ok (.getfield 27, 3) := by decide +kernel
theorem dX7_copyFrom_30 : decode cX7_copyFrom 30 = .ok (.invokevirtual 37, 3) := by decide +kernel
theorem dX7_copyFrom_33 : decode cX7_copyFrom 33 = .ok (.aload_n 0, 1) := by decide +kernel
theorem dX7_copyFrom_34 : decode cX7_copyFrom 34 = .ok (.getfield 30, 3) := by decide +kernel
theorem dX7_copyFrom_37 : decode cX7_copyFrom 37 = .ok (.aload_n 1, 1) := by decide +kernel
theorem dX7_copyFrom_38 : decode cX7_copyFrom 38 = .ok (.getfield 30, 3) := by decide +kernel
theorem dX7_copyFrom_41 : decode cX7_copyFrom 41 = .ok (.invokevirtual 37, 3) := by decide +kernel
theorem dX7_copyFrom_44 : decode cX7_copyFrom 44 = .ok (.return_, 1) := by decide +kernel
theorem dX8_init_0 : decode cX8_init 0 = .ok (.aload_n 0, 1) := by decide +kernel
theorem dX8_init_1 : decode cX8_init 1 = .ok (.invokespecial 3, 3) := by decide +kernel
theorem dX8_init_4 : decode cX8_init 4 = .ok (.aload_n 0, 1) := by decide +kernel
theorem dX8_init_5 : decode cX8_init 5 = .ok (.bipush 60, 2) := by decide +kernel
theorem dX8_init_7 : decode cX8_init 7 = .ok (.newarray .long, 2) := by decide +kernel
theorem dX8_init_9 : decode cX8_init 9 = .ok (.putfield 9, 3) := by decide +kernel
theorem dX8_init_12 : decode cX8_init 12 = .ok (.aload_n 0, 1) := by decide +kernel
theorem dX8_init_13 : decode cX8_init 13 = .ok (.iconst (-1), 1) := by decide +kernel
theorem dX8_init_14 : decode cX8_init 14 = .ok (.putfield 15, 3) := by decide +kernel
theorem dX8_init_17 : decode cX8_init 17 = .ok (.aload_n 0, 1) := by decide +kernel
theorem dX8_init_18 : decode cX8_init 18 = .ok (.iconst 0, 1) := by decide +kernel
theorem dX8_init_19 : decode cX8_init 19 = .ok (.putfield 19, 3) := by decide +kernel
theorem dX8_init_22 : decode cX8_init 22 = .ok (.return_, 1) := by decide +kernel
theorem dX8_become_0 : decode cX8_become 0 = .ok (.aload_n 0, 1) := by decide +kernel
theorem dX8_become_1 : decode cX8_become 1 = .ok (.iload_n 1, 1) := by decide +kernel
theorem dX8_become_2 : decode cX8_become 2 = .ok (.putfield 15, 3) := by decide +kernel
theorem dX8_become_5 : decode cX8_become 5 = .ok (.aload_n 0, 1) := by decide +kernel
theorem dX8_become_6 : decode cX8_become 6 = .ok (.iconst 0, 1) := by decide +kernel
theorem dX8_become_7 : decode cX8_become 7 = .ok (.iload_n 2, 1) := by decide +kernel
theorem dX8_become_8 : decode cX8_become 8 = .ok (.bipush 60, 2) := by decide +kernel
theorem dX8_become_10 : decode cX8_become 10 = .ok (.invokestatic 22, 3) := by decide +kernel
theorem dX8_become_13 : decode cX8_become 13 = .ok (.invokestatic 28, 3) := by decide +kernel
theorem dX8_become_16 : decode cX8_become 16 = .ok (.putfield 19, 3) := by decide +kernel
theorem dX8_become_19 : decode cX8_become 19 = .ok (.aload_n 0, 1) := by decide +kernel
theorem dX8_become_20 : decode cX8_become 20 = .ok (.getfield 9, 3) := by decide +kernel
theorem dX8_become_23 : decode cX8_become 23 = .ok (.lconst 0, 1) := by decide +kernel
theorem dX8_become_24 : decode cX8_become 24 = .ok (.invokestatic 31, 3) := by decide +kernel
theorem dX8_become_27 : decode cX8_become 27 = .ok (.return_, 1) := by decide +kernel
theorem dX8_holds_0 : decode cX8_holds 0 = .ok (.iload_n 1, 1) := by decide +kernel
theorem dX8_holds_1 : decode cX8_holds 1 = .ok (.ifCond .lt 15, 3) := by decide +kernel
theorem dX8_holds_4 : decode cX8_holds 4 = .ok (.iload_n 1, 1) := by decide +kernel
theorem dX8_holds_5 : decode cX8_holds 5 = .ok (.aload_n 0, 1) := by decide +kernel
theorem dX8_holds_6 : decode cX8_holds 6 = .ok (.getfield 19, 3) := by decide +kernel
theorem dX8_holds_9 : decode cX8_holds 9 = .ok (.if_icmp .ge 7, 3) := by decide +kernel
theorem dX8_holds_12 : decode cX8_holds 12 = .ok (.iconst 1, 1) := by decide +kernel
theorem dX8_holds_13 : decode cX8_holds 13 = .ok (.goto 4, 3) := by decide +kernel
theorem dX8_holds_16 : decode cX8_holds 16 = .ok (.iconst 0, 1) := by decide +kernel
theorem dX8_holds_17 : decode cX8_holds 17 = .ok (.ireturn, 1) := by decide +kernel
theorem dX8_holdsRun_0 : decode cX8_holdsRun 0 = .ok (.iload_n 2, 1) := by decide +kernel
theorem dX8_holdsRun_1 : decode cX8_holdsRun 1 = .ok (.ifCond .lt 29, 3) := by decide +kernel
theorem dX8_holdsRun_4 : decode cX8_holdsRun 4 = .ok (.iload_n 1, 1) := by decide +kernel
theorem dX8_holdsRun_5 : decode cX8_holdsRun 5 = .ok (.ifCond .lt 25, 3) := by decide +kernel
theorem dX8_holdsRun_8 : decode cX8_holdsRun 8 = .ok (.iload_n 2, 1) := by decide +kernel
theorem dX8_holdsRun_9 : decode cX8_holdsRun 9 = .ok (.aload_n 0, 1) := by decide +kernel
theorem dX8_holdsRun_10 : decode cX8_holdsRun 10 = .ok (.getfield 19, 3) := by decide +kernel
theorem dX8_holdsRun_13 : decode cX8_holdsRun 13 = .ok (.if_icmp .gt 17, 3) := by decide +kernel
theorem dX8_holdsRun_16 : decode cX8_holdsRun 16 = .ok (.iload_n 1, 1) := by decide +kernel
theorem dX8_holdsRun_17 : decode cX8_holdsRun 17 = .ok (.aload_n 0, 1) := by decide +kernel
theorem dX8_holdsRun_18 : decode cX8_holdsRun 18 = .ok (.getfield 19, 3) := by decide +kernel
theorem dX8_holdsRun_21 : decode cX8_holdsRun 21 = .ok (.iload_n 2, 1) := by decide +kernel
theorem dX8_holdsRun_22 : decode cX8_holdsRun 22 = .ok (.isub, 1) := by decide +kernel
theorem dX8_holdsRun_23 : decode cX8_holdsRun 23 = .ok (.if_icmp .gt 7, 3) := by decide +kernel
theorem dX8_holdsRun_26 : decode cX8_holdsRun 26 = .ok (.iconst 1, 1) := by decide +kernel
theorem dX8_holdsRun_27 : decode cX8_holdsRun 27 = .ok (.goto 4, 3) := by decide +kernel
theorem dX8_holdsRun_30 : decode cX8_holdsRun 30 = .ok (.iconst 0, 1) := by decide +kernel
theorem dX8_holdsRun_31 : decode cX8_holdsRun 31 = .ok (.ireturn, 1) := by decide +kernel
theorem dX8_itemAt_0 : decode cX8_itemAt 0 = .ok (.aload_n 0, 1) := by decide +kernel
theorem dX8_itemAt_1 : decode cX8_itemAt 1 = .ok (.iload_n 1, 1) := by decide +kernel
theorem dX8_itemAt_2 : decode cX8_itemAt 2 = .ok (.invokevirtual 37, 3) := by decide +kernel
theorem dX8_itemAt_5 : decode cX8_itemAt 5 = .ok (.ifCond .eq 12, 3) := by decide +kernel
theorem dX8_itemAt_8 : decode cX8_itemAt 8 = .ok (.aload_n 0, 1) := by decide +kernel
theorem dX8_itemAt_9 : decode cX8_itemAt 9 = .ok (.getfield 9, 3) := by decide +kernel
theorem dX8_itemAt_12 : decode cX8_itemAt 12 = .ok (.iload_n 1, 1) := by decide +kernel
theorem dX8_itemAt_13 : decode cX8_itemAt 13 = .ok (.laload, 1) := by decide +kernel
theorem dX8_itemAt_14 : decode cX8_itemAt 14 = .ok (.goto 4, 3) := by decide +kernel
theorem dX8_itemAt_17 : decode cX8_itemAt 17 = .ok (.lconst 0, 1) := by decide +kernel
theorem dX8_itemAt_18 : decode cX8_itemAt 18 = .ok (.lreturn, 1) := by decide +kernel
theorem dX8_put_0 : decode cX8_put 0 = .ok (.aload_n 0, 1) := by decide +kernel
theorem dX8_put_1 : decode cX8_put 1 = .ok (.iload_n 1, 1) := by decide +kernel
theorem dX8_put_2 : decode cX8_put 2 = .ok (.invokevirtual 37, 3) := by decide +kernel
theorem dX8_put_5 : decode cX8_put 5 = .ok (.ifCond .eq 14, 3) := by decide +kernel
theorem dX8_put_8 : decode cX8_put 8 = .ok (.aload_n 0, 1) := by decide +kernel
theorem dX8_put_9 : decode cX8_put 9 = .ok (.getfield 9, 3) := by decide +kernel
theorem dX8_put_12 : decode cX8_put 12 = .ok (.iload_n 1, 1) := by decide +kernel
theorem dX8_put_13 : decode cX8_put 13 = .ok (.aload_n 0, 1) := by decide +kernel
theorem dX8_put_14 : decode cX8_put 14 = .ok (.lload_n 2, 1) := by decide +kernel
theorem dX8_put_15 : decode cX8_put 15 = .ok (.invokevirtual 41, 3) := by decide +kernel
theorem dX8_put_18 : decode cX8_put 18 = .ok (.lastore, 1) := by decide +kernel
theorem dX8_put_19 : decode cX8_put 19 = .ok (.return_, 1) := by decide +kernel
theorem dX8_asItem_0 : decode cX8_asItem 0 = .ok (.aload_n 0, 1) := by decide +kernel
theorem dX8_asItem_1 : decode cX8_asItem 1 = .ok (.getfield 15, 3) := by decide +kernel
theorem dX8_asItem_4 : decode cX8_asItem 4 = .ok (.tableswitch 62 0 4 #[36, 41, 46, 62, 50], 36) := by decide +kernel
theorem dX8_asItem_40 : decode cX8_asItem 40 = .ok (.lload_n 1, 1) := by decide +kernel
theorem dX8_asItem_41 : decode cX8_asItem 41 = .ok (.l2i, 1) := by decide +kernel
theorem dX8_asItem_42 : decode cX8_asItem 42 = .ok (.i2b, 1) := by decide +kernel
theorem dX8_asItem_43 : decode cX8_asItem 43 = .ok (.i2l, 1) := by decide +kernel
theorem dX8_asItem_44 : decode cX8_asItem 44 = .ok (.lreturn, 1) := by decide +kernel
theorem dX8_asItem_45 : decode cX8_asItem 45 = .ok (.lload_n 1, 1) := by decide +kernel
theorem dX8_asItem_46 : decode cX8_asItem 46 = .ok (.l2i, 1) := by decide +kernel
theorem dX8_asItem_47 : decode cX8_asItem 47 = .ok (.i2s, 1) := by decide +kernel
theorem dX8_asItem_48 : decode cX8_asItem 48 = .ok (.i2l, 1) := by decide +kernel
theorem dX8_asItem_49 : decode cX8_asItem 49 = .ok (.lreturn, 1) := by decide +kernel
theorem dX8_asItem_50 : decode cX8_asItem 50 = .ok (.lload_n 1, 1) := by decide +kernel
theorem dX8_asItem_51 : decode cX8_asItem 51 = .ok (.l2i, 1) := by decide +kernel
theorem dX8_asItem_52 : decode cX8_asItem 52 = .ok (.i2l, 1) := by decide +kernel
theorem dX8_asItem_53 : decode cX8_asItem 53 = .ok (.lreturn, 1) := by decide +kernel
theorem dX8_asItem_54 : decode cX8_asItem 54 = .ok (.lload_n 1, 1) := by decide +kernel
theorem dX8_asItem_55 : decode cX8_asItem 55 = .ok (.lconst 0, 1) := by decide +kernel
theorem dX8_asItem_56 : decode cX8_asItem 56 = .ok (.lcmp, 1) := by decide +kernel
theorem dX8_asItem_57 : decode cX8_asItem 57 = .ok (.ifCond .eq 7, 3) := by decide +kernel
theorem dX8_asItem_60 : decode cX8_asItem 60 = .ok (.lconst 1, 1) := by decide +kernel
theorem dX8_asItem_61 : decode cX8_asItem 61 = .ok (.goto 4, 3) := by decide +kernel
theorem dX8_asItem_64 : decode cX8_asItem 64 = .ok (.lconst 0, 1) := by decide +kernel
theorem dX8_asItem_65 : decode cX8_asItem 65 = .ok (.lreturn, 1) := by decide +kernel
theorem dX8_asItem_66 : decode cX8_asItem 66 = .ok (.lload_n 1, 1) := by decide +kernel
theorem dX8_asItem_67 : decode cX8_asItem 67 = .ok (.lreturn, 1) := by decide +kernel
theorem dX9_init_0 : decode cX9_init 0 = .ok (.aload_n 0, 1) := by decide +kernel
theorem dX9_init_1 : decode cX9_init 1 = .ok (.invokespecial 3, 3) := by decide +kernel
theorem dX9_init_4 : decode cX9_init 4 = .ok (.aload_n 0, 1) := by decide +kernel
theorem dX9_init_5 : decode cX9_init 5 = .ok (.iconst 0, 1) := by decide +kernel
theorem dX9_init_6 : decode cX9_init 6 = .ok (.putfield 9, 3) := by decide +kernel
theorem dX9_init_9 : decode cX9_init 9 = .ok (.aload_n 0, 1) := by decide +kernel
theorem dX9_init_10 : decode cX9_init 10 = .ok (.bipush 100, 2) := by decide +kernel
theorem dX9_init_12 : decode cX9_init 12 = .ok (.newarray .byte, 2) := by decide +kernel
theorem dX9_init_14 : decode cX9_init 14 = .ok (.putfield 15, 3) := by decide +kernel
theorem dX9_init_17 : decode cX9_init 17 = .ok (.aload_n 0, 1) := by decide +kernel
theorem dX9_init_18 : decode cX9_init 18 = .ok (.bipush 8, 2) := by decide +kernel
theorem dX9_init_20 : decode cX9_init 20 = .ok (.anewarray 19, 3) := by decide +kernel
theorem dX9_init_23 : decode cX9_init 23 = .ok (.putfield 21, 3) := by decide +kernel
theorem dX9_init_26 : decode cX9_init 26 = .ok (.iconst 0, 1) := by decide +kernel
theorem dX9_init_27 : decode cX9_init 27 = .ok (.istore_n 1, 1) := by decide +kernel
theorem dX9_init_28 : decode cX9_init 28 = .ok (.iload_n 1, 1) := by decide +kernel
theorem dX9_init_29 : decode cX9_init 29 = .ok (.bipush 8, 2) := by decide +kernel
theorem dX9_init_31 : decode cX9_init 31 = .ok (.if_icmp .ge 22, 3) := by decide +kernel
theorem dX9_init_34 : decode cX9_init 34 = .ok (.aload_n 0, 1) := by decide +kernel
theorem dX9_init_35 : decode cX9_init 35 = .ok (.getfield 21, 3) := by decide +kernel
theorem dX9_init_38 : decode cX9_init 38 = .ok (.iload_n 1, 1) := by decide +kernel
theorem dX9_init_39 : decode cX9_init 39 = .ok (.new 19, 3) := by decide +kernel
theorem dX9_init_42 : decode cX9_init 42 = .ok (.dup, 1) := by decide +kernel
theorem dX9_init_43 : decode cX9_init 43 = .ok (.invokespecial 25, 3) := by decide +kernel
theorem dX9_init_46 : decode cX9_init 46 = .ok (.aastore, 1) := by decide +kernel
theorem dX9_init_47 : decode cX9_init 47 = .ok (.iinc 1 1, 3) := by decide +kernel
theorem dX9_init_50 : decode cX9_init 50 = .ok (.goto (-22), 3) := by decide +kernel
theorem dX9_init_53 : decode cX9_init 53 = .ok (.return_, 1) := by decide +kernel
theorem dX9_append_0 : decode cX9_append 0 = .ok (.aload_n 0, 1) := by decide +kernel
theorem dX9_append_1 : decode cX9_append 1 = .ok (.getfield 9, 3) := by decide +kernel
theorem dX9_append_4 : decode cX9_append 4 = .ok (.bipush 100, 2) := by decide +kernel
theorem dX9_append_6 : decode cX9_append 6 = .ok (.if_icmp .ge 23, 3) := by decide +kernel
theorem dX9_append_9 : decode cX9_append 9 = .ok (.aload_n 0, 1) := by decide +kernel
theorem dX9_append_10 : decode cX9_append 10 = .ok (.getfield 15, 3) := by decide +kernel
theorem dX9_append_13 : decode cX9_append 13 = .ok (.aload_n 0, 1) := by decide +kernel
theorem dX9_append_14 : decode cX9_append 14 = .ok (.getfield 9, 3) := by decide +kernel
theorem dX9_append_17 : decode cX9_append 17 = .ok (.iload_n 1, 1) := by decide +kernel
theorem dX9_append_18 : decode cX9_append 18 = .ok (.bastore, 1) := by decide +kernel
theorem dX9_append_19 : decode cX9_append 19 = .ok (.aload_n 0, 1) := by decide +kernel
theorem dX9_append_20 : decode cX9_append 20 = .ok (.dup, 1) := by decide +kernel
theorem dX9_append_21 : decode cX9_append 21 = .ok (.getfield 9, 3) := by decide +kernel
theorem dX9_append_24 : decode cX9_append 24 = .ok (.iconst 1, 1) := by decide +kernel
theorem dX9_append_25 : decode cX9_append 25 = .ok (.iadd, 1) := by decide +kernel
theorem dX9_append_26 : decode cX9_append 26 = .ok (.putfield 9, 3) := by decide +kernel
theorem dX9_append_29 : decode cX9_append 29 = .ok (.return_, 1) := by decide +kernel
theorem dX9_findFault_0 : decode cX9_findFault 0 = .ok (.aload_n 0, 1) := by decide +kernel
theorem dX9_findFault_1 : decode cX9_findFault 1 = .ok (.iconst 0, 1) := by decide +kernel
theorem dX9_findFault_2 : decode cX9_findFault 2 = .ok (.putfield 26, 3) := by decide +kernel
theorem dX9_findFault_5 : decode cX9_findFault 5 = .ok (.aload_n 0, 1) := by decide +kernel
theorem dX9_findFault_6 : decode cX9_findFault 6 = .ok (.iconst 0, 1) := by decide +kernel
theorem dX9_findFault_7 : decode cX9_findFault 7 = .ok (.putfield 29, 3) := by decide +kernel
theorem dX9_findFault_10 : decode cX9_findFault 10 = .ok (.iconst 0, 1) := by decide +kernel
theorem dX9_findFault_11 : decode cX9_findFault 11 = .ok (.istore_n 1, 1) := by decide +kernel
theorem dX9_findFault_12 : decode cX9_findFault 12 = .ok (.iload_n 1, 1) := by decide +kernel
theorem dX9_findFault_13 : decode cX9_findFault 13 = .ok (.bipush 8, 2) := by decide +kernel
theorem dX9_findFault_15 : decode cX9_findFault 15 = .ok (.if_icmp .ge 73, 3) := by decide +kernel
theorem dX9_findFault_18 : decode cX9_findFault 18 = .ok (.aload_n 0, 1) := by decide +kernel
theorem dX9_findFault_19 : decode cX9_findFault 19 = .ok (.aload_n 0, 1) := by decide +kernel
theorem dX9_findFault_20 : decode cX9_findFault 20 = .ok (.getfield 21, 3) := by decide +kernel
theorem dX9_findFault_23 : decode cX9_findFault 23 = .ok (.iload_n 1, 1) := by decide +kernel
theorem dX9_findFault_24 : decode cX9_findFault 24 = .ok (.aaload, 1) := by decide +kernel
theorem dX9_findFault_25 : decode cX9_findFault 25 = .ok (.invokevirtual 32, 3) := by decide +kernel
theorem dX9_findFault_28 : decode cX9_findFault 28 = .ok (.ifCond .ne 8, 3) := by decide +kernel
theorem dX9_findFault_31 : decode cX9_findFault 31 = .ok (.aload_n 0, 1) := by decide +kernel
theorem dX9_findFault_32 : decode cX9_findFault 32 = .ok (.getfield 26, 3) := by decide +kernel
theorem dX9_findFault_35 : decode cX9_findFault 35 = .ok (.ireturn, 1) := by decide +kernel
theorem dX9_findFault_36 : decode cX9_findFault 36 = .ok (.aload_n 0, 1) := by decide +kernel
theorem dX9_findFault_37 : decode cX9_findFault 37 = .ok (.dup, 1) := by decide +kernel
theorem dX9_findFault_38 : decode cX9_findFault 38 = .ok (.getfield 29, 3) := by decide +kernel
theorem dX9_findFault_41 : decode cX9_findFault 41 = .ok (.iconst 1, 1) := by decide +kernel
theorem dX9_findFault_42 : decode cX9_findFault 42 = .ok (.iadd, 1) := by decide +kernel
theorem dX9_findFault_43 : decode cX9_findFault 43 = .ok (.putfield 29, 3) := by decide +kernel
theorem dX9_findFault_46 : decode cX9_findFault 46 = .ok (.aload_n 0, 1) := by decide +kernel
theorem dX9_findFault_47 : decode cX9_findFault 47 = .ok (.getfield 26, 3) := by decide +kernel
theorem dX9_findFault_50 : decode cX9_findFault 50 = .ok (.aload_n 0, 1) := by decide +kernel
theorem dX9_findFault_51 : decode cX9_findFault 51 = .ok (.getfield 9, 3) := by decide +kernel
theorem dX9_findFault_54 : decode cX9_findFault 54 = .ok (.if_icmp .lt 5, 3) := by decide +kernel
theorem dX9_findFault_57 : decode cX9_findFault 57 = .ok (.iconst (-1), 1) := by decide +kernel
theorem dX9_findFault_58 : decode cX9_findFault 58 = .ok (.ireturn, 1) := by decide +kernel
theorem dX9_findFault_59 : decode cX9_findFault 59 = .ok (.aload_n 0, 1) := by decide +kernel
theorem dX9_findFault_60 : decode cX9_findFault 60 = .ok (.getfield 29, 3) := by decide +kernel
theorem dX9_findFault_63 : decode cX9_findFault 63 = .ok (.bipush 8, 2) := by decide +kernel
theorem dX9_findFault_65 : decode cX9_findFault 65 = .ok (.if_icmp .ge 12, 3) := by decide +kernel
theorem dX9_findFault_68 : decode cX9_findFault 68 = .ok (.aload_n 0, 1) := by decide +kernel
theorem dX9_findFault_69 : decode cX9_findFault 69 = .ok (.bipush 59, 2) := by decide +kernel
theorem dX9_findFault_71 : decode cX9_findFault 71 = .ok (.invokevirtual 36, 3) := by decide +kernel
theorem dX9_findFault_74 : decode cX9_findFault 74 = .ok (.ifCond .ne 8, 3) := by decide +kernel
theorem dX9_findFault_77 : decode cX9_findFault 77 = .ok (.aload_n 0, 1) := by decide +kernel
theorem dX9_findFault_78 : decode cX9_findFault 78 = .ok (.getfield 26, 3) := by decide +kernel
theorem dX9_findFault_81 : decode cX9_findFault 81 = .ok (.ireturn, 1) := by decide +kernel
theorem dX9_findFault_82 : decode cX9_findFault 82 = .ok (.iinc 1 1, 3) := by decide +kernel
theorem dX9_findFault_85 : decode cX9_findFault 85 = .ok (.goto (-73), 3) := by decide +kernel
theorem dX9_findFault_88 : decode cX9_findFault 88 = .ok (.aload_n 0, 1) := by decide +kernel
theorem dX9_findFault_89 : decode cX9_findFault 89 = .ok (.getfield 26, 3) := by decide +kernel
theorem dX9_findFault_92 : decode cX9_findFault 92 = .ok (.ireturn, 1) := by decide +kernel
theorem dX9_readClause_0 : decode cX9_readClause 0 = .ok (.aload_n 1, 1) := by decide +kernel
theorem dX9_readClause_1 : decode cX9_readClause 1 = .ok (.iconst 0, 1) := by decide +kernel
theorem dX9_readClause_2 : decode cX9_readClause 2 = .ok (.putfield 40, 3) := by decide +kernel
theorem dX9_readClause_5 : decode cX9_readClause 5 = .ok (.aload_n 1, 1) := by decide +kernel
theorem dX9_readClause_6 : decode cX9_readClause 6 = .ok (.aload_n 0, 1) := by decide +kernel
theorem dX9_readClause_7 : decode cX9_readClause 7 = .ok (.iconst 0, 1) := by decide +kernel
theorem dX9_readClause_8 : decode cX9_readClause 8 = .ok (.bipush 9, 2) := by decide +kernel
theorem dX9_readClause_10 : decode cX9_readClause 10 = .ok (.invokevirtual 43, 3) := by decide +kernel
theorem dX9_readClause_13 : decode cX9_readClause 13 = .ok (.putfield 47, 3) := by decide +kernel
theorem dX9_readClause_16 : decode cX9_readClause 16 = .ok (.aload_n 1, 1) := by decide +kernel
theorem dX9_readClause_17 : decode cX9_readClause 17 = .ok (.getfield 47, 3) := by decide +kernel
theorem dX9_readClause_20 : decode cX9_readClause 20 = .ok (.iconst (-1), 1) := by decide +kernel
theorem dX9_readClause_21 : decode cX9_readClause 21 = .ok (.if_icmp .eq 12, 3) := by decide +kernel
theorem dX9_readClause_24 : decode cX9_readClause 24 = .ok (.aload_n 0, 1) := by decide +kernel
theorem dX9_readClause_25 : decode cX9_readClause 25 = .ok (.bipush 58, 2) := by decide +kernel
theorem dX9_readClause_27 : decode cX9_readClause 27 = .ok (.invokevirtual 36, 3) := by decide +kernel
theorem dX9_readClause_30 : decode cX9_readClause 30 = .ok (.ifCond .ne 5, 3) := by decide +kernel
theorem dX9_readClause_33 : decode cX9_readClause 33 = .ok (.iconst 0, 1) := by decide +kernel
theorem dX9_readClause_34 : decode cX9_readClause 34 = .ok (.ireturn, 1) := by decide +kernel
theorem dX9_readClause_35 : decode cX9_readClause 35 = .ok (.aload_n 1, 1) := by decide +kernel
theorem dX9_readClause_36 : decode cX9_readClause 36 = .ok (.aload_n 0, 1) := by decide +kernel
theorem dX9_readClause_37 : decode cX9_readClause 37 = .ok (.iconst 1, 1) := by decide +kernel
theorem dX9_readClause_38 : decode cX9_readClause 38 = .ok (.iconst 4, 1) := by decide +kernel
theorem dX9_readClause_39 : decode cX9_readClause 39 = .ok (.invokevirtual 43, 3) := by decide +kernel
theorem dX9_readClause_42 : decode cX9_readClause 42 = .ok (.putfield 50, 3) := by decide +kernel
theorem dX9_readClause_45 : decode cX9_readClause 45 = .ok (.aload_n 1, 1) := by decide +kernel
theorem dX9_readClause_46 : decode cX9_readClause 46 = .ok (.getfield 50, 3) := by decide +kernel
theorem dX9_readClause_49 : decode cX9_readClause 49 = .ok (.iconst (-1), 1) := by decide +kernel
theorem dX9_readClause_50 : decode cX9_readClause 50 = .ok (.if_icmp .eq 12, 3) := by decide +kernel
theorem dX9_readClause_53 : decode cX9_readClause 53 = .ok (.aload_n 0, 1) := by decide +kernel
theorem dX9_readClause_54 : decode cX9_readClause 54 = .ok (.bipush 62, 2) := by decide +kernel
theorem dX9_readClause_56 : decode cX9_readClause 56 = .ok (.invokevirtual 36, 3) := by decide +kernel
theorem dX9_readClause_59 : decode cX9_readClause 59 = .ok (.ifCond .ne 5, 3) := by decide +kernel
theorem dX9_readClause_62 : decode cX9_readClause 62 = .ok (.iconst 0, 1) := by decide +kernel
theorem dX9_readClause_63 : decode cX9_readClause 63 = .ok (.ireturn, 1) := by decide +kernel
theorem dX9_readClause_64 : decode cX9_readClause 64 = .ok (.aload_n 1, 1) := by decide +kernel
theorem dX9_readClause_65 : decode cX9_readClause 65 = .ok (.aload_n 0, 1) := by decide +kernel
theorem dX9_readClause_66 : decode cX9_readClause 66 = .ok (.iconst 0, 1) := by decide +kernel
theorem dX9_readClause_67 : decode cX9_readClause 67 = .ok (.bipush 9, 2) := by decide +kernel
theorem dX9_readClause_69 : decode cX9_readClause 69 = .ok (.invokevirtual 43, 3) := by decide +kernel
theorem dX9_readClause_72 : decode cX9_readClause 72 = .ok (.putfield 53, 3) := by decide +kernel
theorem dX9_readClause_75 : decode cX9_readClause 75 = .ok (.aload_n 1, 1) := by decide +kernel
theorem dX9_readClause_76 : decode cX9_readClause 76 = .ok (.getfield 53, 3) := by decide +kernel
theorem dX9_readClause_79 : decode cX9_readClause 79 = .ok (.iconst (-1), 1) := by decide +kernel
theorem dX9_readClause_80 : decode cX9_readClause 80 = .ok (.if_icmp .eq 12, 3) := by decide +kernel
theorem dX9_readClause_83 : decode cX9_readClause 83 = .ok (.aload_n 0, 1) := by decide +kernel
theorem dX9_readClause_84 : decode cX9_readClause 84 = .ok (.bipush 58, 2) := by decide +kernel
theorem dX9_readClause_86 : decode cX9_readClause 86 = .ok (.invokevirtual 36, 3) := by decide +kernel
theorem dX9_readClause_89 : decode cX9_readClause 89 = .ok (.ifCond .ne 5, 3) := by decide +kernel
theorem dX9_readClause_92 : decode cX9_readClause 92 = .ok (.iconst 0, 1) := by decide +kernel
theorem dX9_readClause_93 : decode cX9_readClause 93 = .ok (.ireturn, 1) := by decide +kernel
theorem dX9_readClause_94 : decode cX9_readClause 94 = .ok (.aload_n 1, 1) := by decide +kernel
theorem dX9_readClause_95 : decode cX9_readClause 95 = .ok (.aload_n 0, 1) := by decide +kernel
theorem dX9_readClause_96 : decode cX9_readClause 96 = .ok (.iconst 1, 1) := by decide +kernel
theorem dX9_readClause_97 : decode cX9_readClause 97 = .ok (.iconst 4, 1) := by decide +kernel
theorem dX9_readClause_98 : decode cX9_readClause 98 = .ok (.invokevirtual 43, 3) := by decide +kernel
theorem dX9_readClause_101 : decode cX9_readClause 101 = .ok (.putfield 56, 3) := by decide +kernel
theorem dX9_readClause_104 : decode cX9_readClause 104 = .ok (.aload_n 1, 1) := by decide +kernel
theorem dX9_readClause_105 : decode cX9_readClause 105 = .ok (.getfield 56, 3) := by decide +kernel
theorem dX9_readClause_108 : decode cX9_readClause 108 = .ok (.iconst (-1), 1) := by decide +kernel
theorem dX9_readClause_109 : decode cX9_readClause 109 = .ok (.if_icmp .ne 5, 3) := by decide +kernel
theorem dX9_readClause_112 : decode cX9_readClause 112 = .ok (.iconst 0, 1) := by decide +kernel
theorem dX9_readClause_113 : decode cX9_readClause 113 = .ok (.ireturn, 1) := by decide +kernel
theorem dX9_readClause_114 : decode cX9_readClause 114 = .ok (.aload_n 0, 1) := by decide +kernel
theorem dX9_readClause_115 : decode cX9_readClause 115 = .ok (.bipush 43, 2) := by decide +kernel
theorem dX9_readClause_117 : decode cX9_readClause 117 = .ok (.invokevirtual 36, 3) := by decide +kernel
theorem dX9_readClause_120 : decode cX9_readClause 120 = .ok (.ifCond .eq 11, 3) := by decide +kernel
theorem dX9_readClause_123 : decode cX9_readClause 123 = .ok (.aload_n 0, 1) := by decide +kernel
theorem dX9_readClause_124 : decode cX9_readClause 124 = .ok (.aload_n 1, 1) := by decide +kernel
theorem dX9_readClause_125 : decode cX9_readClause 125 = .ok (.invokevirtual 59, 3) := by decide +kernel
theorem dX9_readClause_128 : decode cX9_readClause 128 = .ok (.ifCond .eq 7, 3) := by decide +kernel
theorem dX9_readClause_131 : decode cX9_readClause 131 = .ok (.iconst 1, 1) := by decide +kernel
theorem dX9_readClause_132 : decode cX9_readClause 132 = .ok (.goto 4, 3) := by decide +kernel
theorem dX9_readClause_135 : decode cX9_readClause 135 = .ok (.iconst 0, 1) := by decide +kernel
theorem dX9_readClause_136 : decode cX9_readClause 136 = .ok (.ireturn, 1) := by decide +kernel
theorem dX9_readTokens_0 : decode cX9_readTokens 0 = .ok (.iconst 0, 1) := by decide +kernel
theorem dX9_readTokens_1 : decode cX9_readTokens 1 = .ok (.istore_n 2, 1) := by decide +kernel
theorem dX9_readTokens_2 : decode cX9_readTokens 2 = .ok (.iload_n 2, 1) := by decide +kernel
theorem dX9_readTokens_3 : decode cX9_readTokens 3 = .ok (.bipush 6, 2) := by decide +kernel
theorem dX9_readTokens_5 : decode cX9_readTokens 5 = .ok (.if_icmp .ge 55, 3) := by decide +kernel
theorem dX9_readTokens_8 : decode cX9_readTokens 8 = .ok (.aload_n 0, 1) := by decide +kernel
theorem dX9_readTokens_9 : decode cX9_readTokens 9 = .ok (.invokevirtual 62, 3) := by decide +kernel
theorem dX9_readTokens_12 : decode cX9_readTokens 12 = .ok (.istore_n 3, 1) := by decide +kernel
theorem dX9_readTokens_13 : decode cX9_readTokens 13 = .ok (.iload_n 3, 1) := by decide +kernel
theorem dX9_readTokens_14 : decode cX9_readTokens 14 = .ok (.iconst (-1), 1) := by decide +kernel
theorem dX9_readTokens_15 : decode cX9_readTokens 15 = .ok (.if_icmp .ne 5, 3) := by decide +kernel
theorem dX9_readTokens_18 : decode cX9_readTokens 18 = .ok (.iconst 0, 1) := by decide +kernel
theorem dX9_readTokens_19 : decode cX9_readTokens 19 = .ok (.ireturn, 1) := by decide +kernel
theorem dX9_readTokens_20 : decode cX9_readTokens 20 = .ok (.aload_n 1, 1) := by decide +kernel
theorem dX9_readTokens_21 : decode cX9_readTokens 21 = .ok (.getfield 66, 3) := by decide +kernel
theorem dX9_readTokens_24 : decode cX9_readTokens 24 = .ok (.iload_n 2, 1) := by decide +kernel
theorem dX9_readTokens_25 : decode cX9_readTokens 25 = .ok (.iload_n 3, 1) := by decide +kernel
theorem dX9_readTokens_26 : decode cX9_readTokens 26 = .ok (.iastore, 1) := by decide +kernel
theorem dX9_readTokens_27 : decode cX9_readTokens 27 = .ok (.aload_n 1, 1) := by decide +kernel
theorem dX9_readTokens_28 : decode cX9_readTokens 28 = .ok (.iload_n 2, 1) := by decide +kernel
theorem dX9_readTokens_29 : decode cX9_readTokens 29 = .ok (.iconst 1, 1) := by decide +kernel
theorem dX9_readTokens_30 : decode cX9_readTokens 30 = .ok (.iadd, 1) := by decide +kernel
theorem dX9_readTokens_31 : decode cX9_readTokens 31 = .ok (.putfield 40, 3) := by decide +kernel
theorem dX9_readTokens_34 : decode cX9_readTokens 34 = .ok (.aload_n 1, 1) := by decide +kernel
theorem dX9_readTokens_35 : decode cX9_readTokens 35 = .ok (.getfield 40, 3) := by decide +kernel
theorem dX9_readTokens_38 : decode cX9_readTokens 38 = .ok (.bipush 6, 2) := by decide +kernel
theorem dX9_readTokens_40 : decode cX9_readTokens 40 = .ok (.if_icmp .ge 12, 3) := by decide +kernel
theorem dX9_readTokens_43 : decode cX9_readTokens 43 = .ok (.aload_n 0, 1) := by decide +kernel
theorem dX9_readTokens_44 : decode cX9_readTokens 44 = .ok (.bipush 44, 2) := by decide +kernel
theorem dX9_readTokens_46 : decode cX9_readTokens 46 = .ok (.invokevirtual 36, 3) := by decide +kernel
theorem dX9_readTokens_49 : decode cX9_readTokens 49 = .ok (.ifCond .ne 5, 3) := by decide +kernel
theorem dX9_readTokens_52 : decode cX9_readTokens 52 = .ok (.iconst 1, 1) := by decide +kernel
theorem dX9_readTokens_53 : decode cX9_readTokens 53 = .ok (.ireturn, 1) := by decide +kernel
theorem dX9_readTokens_54 : decode cX9_readTokens 54 = .ok (.iinc 2 1, 3) := by decide +kernel
theorem dX9_readTokens_57 : decode cX9_readTokens 57 = .ok (.goto (-55), 3) := by decide +kernel
theorem dX9_readTokens_60 : decode cX9_readTokens 60 = .ok (.iconst 1, 1) := by decide +kernel
theorem dX9_readTokens_61 : decode cX9_readTokens 61 = .ok (.ireturn, 1) := by decide +kernel
theorem dX9_readNumber_0 : decode cX9_readNumber 0 = .ok (.aload_n 0, 1) := by decide +kernel
theorem dX9_readNumber_1 : decode cX9_readNumber 1 = .ok (.iconst 0, 1) := by decide +kernel
theorem dX9_readNumber_2 : decode cX9_readNumber 2 = .ok (.bipush 9, 2) := by decide +kernel
theorem dX9_readNumber_4 : decode cX9_readNumber 4 = .ok (.invokevirtual 43, 3) := by decide +kernel
theorem dX9_readNumber_7 : decode cX9_readNumber 7 = .ok (.istore_n 1, 1) := by decide +kernel
theorem dX9_readNumber_8 : decode cX9_readNumber 8 = .ok (.iconst 1, 1) := by decide +kernel
theorem dX9_readNumber_9 : decode cX9_readNumber 9 = .ok (.istore_n 2, 1) := by decide +kernel
theorem dX9_readNumber_10 : decode cX9_readNumber 10 = .ok (.iload_n 2, 1) := by decide +kernel
theorem dX9_readNumber_11 : decode cX9_readNumber 11 = .ok (.iconst 3, 1) := by decide +kernel
theorem dX9_readNumber_12 : decode cX9_readNumber 12 = .ok (.if_icmp .ge 36, 3) := by decide +kernel
theorem dX9_readNumber_15 : decode cX9_readNumber 15 = .ok (.iload_n 1, 1) := by decide +kernel
theorem dX9_readNumber_16 : decode cX9_readNumber 16 = .ok (.iconst (-1), 1) := by decide +kernel
theorem dX9_readNumber_17 : decode cX9_readNumber 17 = .ok (.if_icmp .eq 31, 3) := by decide +kernel
theorem dX9_readNumber_20 : decode cX9_readNumber 20 = .ok (.aload_n 0, 1) := by decide +kernel
theorem dX9_readNumber_21 : decode cX9_readNumber 21 = .ok (.iconst 0, 1) := by decide +kernel
theorem dX9_readNumber_22 : decode cX9_readNumber 22 = .ok (.bipush 9, 2) := by decide +kernel
theorem dX9_readNumber_24 : decode cX9_readNumber 24 = .ok (.invokevirtual 43, 3) := by decide +kernel
theorem dX9_readNumber_27 : decode cX9_readNumber 27 = .ok (.istore_n 3, 1) := by decide +kernel
theorem dX9_readNumber_28 : decode cX9_readNumber 28 = .ok (.iload_n 3, 1) := by decide +kernel
theorem dX9_readNumber_29 : decode cX9_readNumber 29 = .ok (.iconst (-1), 1) := by decide +kernel
theorem dX9_readNumber_30 : decode cX9_readNumber 30 = .ok (.if_icmp .ne 5, 3) := by decide +kernel
theorem dX9_readNumber_33 : decode cX9_readNumber 33 = .ok (.iload_n 1, 1) := by decide +kernel
theorem dX9_readNumber_34 : decode cX9_readNumber 34 = .ok (.ireturn, 1) := by decide +kernel
theorem dX9_readNumber_35 : decode cX9_readNumber 35 = .ok (.iload_n 1, 1) := by decide +kernel
theorem dX9_readNumber_36 : decode cX9_readNumber 36 = .ok (.bipush 10, 2) := by decide +kernel
theorem dX9_readNumber_38 : decode cX9_readNumber 38 = .ok (.imul, 1) := by decide +kernel
theorem dX9_readNumber_39 : decode cX9_readNumber 39 = .ok (.iload_n 3, 1) := by decide +kernel
theorem dX9_readNumber_40 : decode cX9_readNumber 40 = .ok (.iadd, 1) := by decide +kernel
theorem dX9_readNumber_41 : decode cX9_readNumber 41 = .ok (.istore_n 1, 1) := by decide +kernel
theorem dX9_readNumber_42 : decode cX9_readNumber 42 = .ok (.iinc 2 1, 3) := by decide +kernel
theorem dX9_readNumber_45 : decode cX9_readNumber 45 = .ok (.goto (-35), 3) := by decide +kernel
theorem dX9_readNumber_48 : decode cX9_readNumber 48 = .ok (.iload_n 1, 1) := by decide +kernel
theorem dX9_readNumber_49 : decode cX9_readNumber 49 = .ok (.ireturn, 1) := by decide +kernel
theorem dX9_readDigit_0 : decode cX9_readDigit 0 = .ok (.aload_n 0, 1) := by decide +kernel
theorem dX9_readDigit_1 : decode cX9_readDigit 1 = .ok (.getfield 26, 3) := by decide +kernel
theorem dX9_readDigit_4 : decode cX9_readDigit 4 = .ok (.aload_n 0, 1) := by decide +kernel
theorem dX9_readDigit_5 : decode cX9_readDigit 5 = .ok (.getfield 9, 3) := by decide +kernel
theorem dX9_readDigit_8 : decode cX9_readDigit 8 = .ok (.if_icmp .ge 12, 3) := by decide +kernel
theorem dX9_readDigit_11 : decode cX9_readDigit 11 = .ok (.aload_n 0, 1) := by decide +kernel
theorem dX9_readDigit_12 : decode cX9_readDigit 12 = .ok (.getfield 26, 3) := by decide +kernel
theorem dX9_readDigit_15 : decode cX9_readDigit 15 = .ok (.bipush 100, 2) := by decide +kernel
theorem dX9_readDigit_17 : decode cX9_readDigit 17 = .ok (.if_icmp .lt 5, 3) := by decide +kernel
theorem dX9_readDigit_20 : decode cX9_readDigit 20 = .ok (.iconst (-1), 1) := by decide +kernel
theorem dX9_readDigit_21 : decode cX9_readDigit 21 = .ok (.ireturn, 1) := by decide +kernel
theorem dX9_readDigit_22 : decode cX9_readDigit 22 = .ok (.aload_n 0, 1) := by decide +kernel
theorem dX9_readDigit_23 : decode cX9_readDigit 23 = .ok (.getfield 15, 3) := by decide +kernel
theorem dX9_readDigit_26 : decode cX9_readDigit 26 = .ok (.aload_n 0, 1) := by decide +kernel
theorem dX9_readDigit_27 : decode cX9_readDigit 27 = .ok (.getfield 26, 3) := by decide +kernel
theorem dX9_readDigit_30 : decode cX9_readDigit 30 = .ok (.baload, 1) := by decide +kernel
theorem dX9_readDigit_31 : decode cX9_readDigit 31 = .ok (.bipush 48, 2) := by decide +kernel
theorem dX9_readDigit_33 : decode cX9_readDigit 33 = .ok (.isub, 1) := by decide +kernel
theorem dX9_readDigit_34 : decode cX9_readDigit 34 = .ok (.istore_n 3, 1) := by decide +kernel
theorem dX9_readDigit_35 : decode cX9_readDigit 35 = .ok (.iload_n 3, 1) := by decide +kernel
theorem dX9_readDigit_36 : decode cX9_readDigit 36 = .ok (.iload_n 1, 1) := by decide +kernel
theorem dX9_readDigit_37 : decode cX9_readDigit 37 = .ok (.if_icmp .lt 8, 3) := by decide +kernel
theorem dX9_readDigit_40 : decode cX9_readDigit 40 = .ok (.iload_n 3, 1) := by decide +kernel
theorem dX9_readDigit_41 : decode cX9_readDigit 41 = .ok (.iload_n 2, 1) := by decide +kernel
theorem dX9_readDigit_42 : decode cX9_readDigit 42 = .ok (.if_icmp .le 5, 3) := by decide +kernel
theorem dX9_readDigit_45 : decode cX9_readDigit 45 = .ok (.iconst (-1), 1) := by decide +kernel
theorem dX9_readDigit_46 : decode cX9_readDigit 46 = .ok (.ireturn, 1) := by decide +kernel
theorem dX9_readDigit_47 : decode cX9_readDigit 47 = .ok (.aload_n 0, 1) := by decide +kernel
theorem dX9_readDigit_48 : decode cX9_readDigit 48 = .ok (.dup, 1) := by decide +kernel
theorem dX9_readDigit_49 : decode cX9_readDigit 49 = .ok (.getfield 26, 3) := by decide +kernel
theorem dX9_readDigit_52 : decode cX9_readDigit 52 = .ok (.iconst 1, 1) := by decide +kernel
theorem dX9_readDigit_53 : decode cX9_readDigit 53 = .ok (.iadd, 1) := by decide +kernel
theorem dX9_readDigit_54 : decode cX9_readDigit 54 = .ok (.putfield 26, 3) := by decide +kernel
theorem dX9_readDigit_57 : decode cX9_readDigit 57 = .ok (.iload_n 3, 1) := by decide +kernel
theorem dX9_readDigit_58 : decode cX9_readDigit 58 = .ok (.ireturn, 1) := by decide +kernel
theorem dX9_skip_0 : decode cX9_skip 0 = .ok (.aload_n 0, 1) := by decide +kernel
theorem dX9_skip_1 : decode cX9_skip 1 = .ok (.getfield 26, 3) := by decide +kernel
theorem dX9_skip_4 : decode cX9_skip 4 = .ok (.aload_n 0, 1) := by decide +kernel
theorem dX9_skip_5 : decode cX9_skip 5 = .ok (.getfield 9, 3) := by decide +kernel
theorem dX9_skip_8 : decode cX9_skip 8 = .ok (.if_icmp .ge 25, 3) := by decide +kernel
theorem dX9_skip_11 : decode cX9_skip 11 = .ok (.aload_n 0, 1) := by decide +kernel
theorem dX9_skip_12 : decode cX9_skip 12 = .ok (.getfield 26, 3) := by decide +kernel
theorem dX9_skip_15 : decode cX9_skip 15 = .ok (.bipush 100, 2) := by decide +kernel
theorem dX9_skip_17 : decode cX9_skip 17 = .ok (.if_icmp .ge 16, 3) := by decide +kernel
theorem dX9_skip_20 : decode cX9_skip 20 = .ok (.aload_n 0, 1) := by decide +kernel
theorem dX9_skip_21 : decode cX9_skip 21 = .ok (.getfield 15, 3) := by decide +kernel
theorem dX9_skip_24 : decode cX9_skip 24 = .ok (.aload_n 0, 1) := by decide +kernel
theorem dX9_skip_25 : decode cX9_skip 25 = .ok (.getfield 26, 3) := by decide +kernel
theorem dX9_skip_28 : decode cX9_skip 28 = .ok (.baload, 1) := by decide +kernel
theorem dX9_skip_29 : decode cX9_skip 29 = .ok (.iload_n 1, 1) := by decide +kernel
theorem dX9_skip_30 : decode cX9_skip 30 = .ok (.if_icmp .eq 5, 3) := by decide +kernel
theorem dX9_skip_33 : decode cX9_skip 33 = .ok (.iconst 0, 1) := by decide +kernel
theorem dX9_skip_34 : decode cX9_skip 34 = .ok (.ireturn, 1) := by decide +kernel
theorem dX9_skip_35 : decode cX9_skip 35 = .ok (.aload_n 0, 1) := by decide +kernel
theorem dX9_skip_36 : decode cX9_skip 36 = .ok (.dup, 1) := by decide +kernel
theorem dX9_skip_37 : decode cX9_skip 37 = .ok (.getfield 26, 3) := by decide +kernel
theorem dX9_skip_40 : decode cX9_skip 40 = .ok (.iconst 1, 1) := by decide +kernel
theorem dX9_skip_41 : decode cX9_skip 41 = .ok (.iadd, 1) := by decide +kernel
theorem dX9_skip_42 : decode cX9_skip 42 = .ok (.putfield 26, 3) := by decide +kernel
theorem dX9_skip_45 : decode cX9_skip 45 = .ok (.iconst 1, 1) := by decide +kernel
theorem dX9_skip_46 : decode cX9_skip 46 = .ok (.ireturn, 1) := by decide +kernel
theorem dX10_init_0 : decode cX10_init 0 = .ok (.aload_n 0, 1) := by decide +kernel
theorem dX10_init_1 : decode cX10_init 1 = .ok (.invokespecial 3, 3) := by decide +kernel
theorem dX10_init_4 : decode cX10_init 4 = .ok (.aload_n 0, 1) := by decide +kernel
theorem dX10_init_5 : decode cX10_init 5 = .ok (.bipush 99, 2) := by decide +kernel
theorem dX10_init_7 : decode cX10_init 7 = .ok (.newarray .int, 2) := by decide +kernel
theorem dX10_init_9 : decode cX10_init 9 = .ok (.putfield 9, 3) := by decide +kernel
theorem dX10_init_12 : decode cX10_init 12 = .ok (.aload_n 0, 1) := by decide +kernel
theorem dX10_init_13 : decode cX10_init 13 = .ok (.iconst 0, 1) := by decide +kernel
theorem dX10_init_14 : decode cX10_init 14 = .ok (.putfield 15, 3) := by decide +kernel
theorem dX10_init_17 : decode cX10_init 17 = .ok (.aload_n 0, 1) := by decide +kernel
theorem dX10_init_18 : decode cX10_init 18 = .ok (.invokevirtual 19, 3) := by decide +kernel
theorem dX10_init_21 : decode cX10_init 21 = .ok (.return_, 1) := by decide +kernel
theorem dX10_become_0 : decode cX10_become 0 = .ok (.aload_n 0, 1) := by decide +kernel
theorem dX10_become_1 : decode cX10_become 1 = .ok (.iload_n 1, 1) := by decide +kernel
theorem dX10_become_2 : decode cX10_become 2 = .ok (.putfield 22, 3) := by decide +kernel
theorem dX10_become_5 : decode cX10_become 5 = .ok (.aload_n 0, 1) := by decide +kernel
theorem dX10_become_6 : decode cX10_become 6 = .ok (.iload_n 2, 1) := by decide +kernel
theorem dX10_become_7 : decode cX10_become 7 = .ok (.putfield 26, 3) := by decide +kernel
theorem dX10_become_10 : decode cX10_become 10 = .ok (.aload_n 0, 1) := by decide +kernel
theorem dX10_become_11 : decode cX10_become 11 = .ok (.iload_n 3, 1) := by decide +kernel
theorem dX10_become_12 : decode cX10_become 12 = .ok (.putfield 29, 3) := by decide +kernel
theorem dX10_become_15 : decode cX10_become 15 = .ok (.aload_n 0, 1) := by decide +kernel
theorem dX10_become_16 : decode cX10_become 16 = .ok (.iload 4, 2) := by decide +kernel
theorem dX10_become_18 : decode cX10_become 18 = .ok (.putfield 32, 3) := by decide +kernel
theorem dX10_become_21 : decode cX10_become 21 = .ok (.aload_n 0, 1) := by decide +kernel
theorem dX10_become_22 : decode cX10_become 22 = .ok (.iconst 1, 1) := by decide +kernel
theorem dX10_become_23 : decode cX10_become 23 = .ok (.putfield 15, 3) := by decide +kernel
theorem dX10_become_26 : decode cX10_become 26 = .ok (.aload_n 0, 1) := by decide +kernel
theorem dX10_become_27 : decode cX10_become 27 = .ok (.invokevirtual 19, 3) := by decide +kernel
theorem dX10_become_30 : decode cX10_become 30 = .ok (.return_, 1) := by decide +kernel
theorem dX10_copyFrom_0 : decode cX10_copyFrom 0 = .ok (.aload_n 0, 1) := by decide +kernel
theorem dX10_copyFrom_1 : decode cX10_copyFrom 1 = .ok (.aload_n 1, 1) := by decide +kernel
theorem dX10_copyFrom_2 : decode cX10_copyFrom 2 = .ok (.getfield 22, 3) := by decide +kernel
theorem dX10_copyFrom_5 : decode cX10_copyFrom 5 = .ok (.putfield 22, 3) := by decide +kernel
theorem dX10_copyFrom_8 : decode cX10_copyFrom 8 = .ok (.aload_n 0, 1) := by decide +kernel
theorem dX10_copyFrom_9 : decode cX10_copyFrom 9 = .ok (.aload_n 1, 1) := by decide +kernel
theorem dX10_copyFrom_10 : decode cX10_copyFrom 10 = .ok (.getfield 26, 3) := by decide +kernel
theorem dX10_copyFrom_13 : decode cX10_copyFrom 13 = .ok (.putfield 26, 3) := by decide +kernel
theorem dX10_copyFrom_16 : decode cX10_copyFrom 16 = .ok (.aload_n 0, 1) := by decide +kernel
theorem dX10_copyFrom_17 : decode cX10_copyFrom 17 = .ok (.aload_n 1, 1) := by decide +kernel
theorem dX10_copyFrom_18 : decode cX10_copyFrom 18 = .ok (.getfield 29, 3) := by decide +kernel
theorem dX10_copyFrom_21 : decode cX10_copyFrom 21 = .ok (.putfield 29, 3) := by decide +kernel
theorem dX10_copyFrom_24 : decode cX10_copyFrom 24 = .ok (.aload_n 0, 1) := by decide +kernel
theorem dX10_copyFrom_25 : decode cX10_copyFrom 25 = .ok (.aload_n 1, 1) := by decide +kernel
theorem dX10_copyFrom_26 : decode cX10_copyFrom 26 = .ok (.getfield 32, 3) := by decide +kernel
theorem dX10_copyFrom_29 : decode cX10_copyFrom 29 = .ok (.putfield 32, 3) := by decide +kernel
theorem dX10_copyFrom_32 : decode cX10_copyFrom 32 = .ok (.aload_n 0, 1) := by decide +kernel
theorem dX10_copyFrom_33 : decode cX10_copyFrom 33 = .ok (.aload_n 1, 1) := by decide +kernel
theorem dX10_copyFrom_34 : decode cX10_copyFrom 34 = .ok (.getfield 15, 3) := by decide +kernel
theorem dX10_copyFrom_37 : decode cX10_copyFrom 37 = .ok (.putfield 15, 3) := by decide +kernel
theorem dX10_copyFrom_40 : decode cX10_copyFrom 40 = .ok (.aload_n 0, 1) := by decide +kernel
theorem dX10_copyFrom_41 : decode cX10_copyFrom 41 = .ok (.aload_n 1, 1) := by decide +kernel
theorem dX10_copyFrom_42 : decode cX10_copyFrom 42 = .ok (.getfield 35, 3) := by decide +kernel
theorem dX10_copyFrom_45 : decode cX10_copyFrom 45 = .ok (.putfield 35, 3) := by decide +kernel
theorem dX10_copyFrom_48 : decode cX10_copyFrom 48 = .ok (.aload_n 0, 1) := by decide +kernel
theorem dX10_copyFrom_49 : decode cX10_copyFrom 49 = .ok (.aload_n 1, 1) := by decide +kernel
theorem dX10_copyFrom_50 : decode cX10_copyFrom 50 = .ok (.getfield 38, 3) := by decide +kernel
theorem dX10_copyFrom_53 : decode cX10_copyFrom 53 = .ok (.putfield 38, 3) := by decide +kernel
theorem dX10_copyFrom_56 : decode cX10_copyFrom 56 = .ok (.aload_n 0, 1) := by decide +kernel
theorem dX10_copyFrom_57 : decode cX10_copyFrom 57 = .ok (.getfield 35, 3) := by decide +kernel
theorem dX10_copyFrom_60 : decode cX10_copyFrom 60 = .ok (.ifCond .le 18, 3) := by decide +kernel
theorem dX10_copyFrom_63 : decode cX10_copyFrom 63 = .ok (.aload_n 1, 1) := by decide +kernel
theorem dX10_copyFrom_64 : decode cX10_copyFrom 64 = .ok (.getfield 9, 3) := by decide +kernel
theorem dX10_copyFrom_67 : decode cX10_copyFrom 67 = .ok (.iconst 0, 1) := by decide +kernel
theorem dX10_copyFrom_68 : decode cX10_copyFrom 68 = .ok (.aload_n 0, 1) := by decide +kernel
theorem dX10_copyFrom_69 : decode cX10_copyFrom 69 = .ok (.getfield 9, 3) := by decide +kernel
theorem dX10_copyFrom_72 : decode cX10_copyFrom 72 = .ok (.iconst 0, 1) := by decide +kernel
theorem dX10_copyFrom_73 : decode cX10_copyFrom 73 = .ok (.bipush 99, 2) := by decide +kernel
theorem dX10_copyFrom_75 : decode cX10_copyFrom 75 = .ok (.invokestatic 41, 3) := by decide +kernel
theorem dX10_copyFrom_78 : decode cX10_copyFrom 78 = .ok (.return_, 1) := by decide +kernel
theorem dX10_clear_0 : decode cX10_clear 0 = .ok (.aload_n 0, 1) := by decide +kernel
theorem dX10_clear_1 : decode cX10_clear 1 = .ok (.iconst 0, 1) := by decide +kernel
theorem dX10_clear_2 : decode cX10_clear 2 = .ok (.putfield 35, 3) := by decide +kernel
theorem dX10_clear_5 : decode cX10_clear 5 = .ok (.aload_n 0, 1) := by decide +kernel
theorem dX10_clear_6 : decode cX10_clear 6 = .ok (.iconst 0, 1) := by decide +kernel
theorem dX10_clear_7 : decode cX10_clear 7 = .ok (.putfield 38, 3) := by decide +kernel
theorem dX10_clear_10 : decode cX10_clear 10 = .ok (.return_, 1) := by decide +kernel
theorem dX10_goesTo_0 : decode cX10_goesTo 0 = .ok (.aload_n 0, 1) := by decide +kernel
theorem dX10_goesTo_1 : decode cX10_goesTo 1 = .ok (.getfield 15, 3) := by decide +kernel
theorem dX10_goesTo_4 : decode cX10_goesTo 4 = .ok (.ifCond .eq 15, 3) := by decide +kernel
theorem dX10_goesTo_7 : decode cX10_goesTo 7 = .ok (.aload_n 0, 1) := by decide +kernel
theorem dX10_goesTo_8 : decode cX10_goesTo 8 = .ok (.getfield 26, 3) := by decide +kernel
theorem dX10_goesTo_11 : decode cX10_goesTo 11 = .ok (.iload_n 1, 1) := by decide +kernel
theorem dX10_goesTo_12 : decode cX10_goesTo 12 = .ok (.if_icmp .ne 7, 3) := by decide +kernel
theorem dX10_goesTo_15 : decode cX10_goesTo 15 = .ok (.iconst 1, 1) := by decide +kernel
theorem dX10_goesTo_16 : decode cX10_goesTo 16 = .ok (.goto 4, 3) := by decide +kernel
theorem dX10_goesTo_19 : decode cX10_goesTo 19 = .ok (.iconst 0, 1) := by decide +kernel
theorem dX10_goesTo_20 : decode cX10_goesTo 20 = .ok (.ireturn, 1) := by decide +kernel
theorem dX10_comesFrom_0 : decode cX10_comesFrom 0 = .ok (.aload_n 0, 1) := by decide +kernel
theorem dX10_comesFrom_1 : decode cX10_comesFrom 1 = .ok (.getfield 15, 3) := by decide +kernel
theorem dX10_comesFrom_4 : decode cX10_comesFrom 4 = .ok (.ifCond .eq 15, 3) := by decide +kernel
theorem dX10_comesFrom_7 : decode cX10_comesFrom 7 = .ok (.aload_n 0, 1) := by decide +kernel
theorem dX10_comesFrom_8 : decode cX10_comesFrom 8 = .ok (.getfield 22, 3) := by decide +kernel
theorem dX10_comesFrom_11 : decode cX10_comesFrom 11 = .ok (.iload_n 1, 1) := by decide +kernel
theorem dX10_comesFrom_12 : decode cX10_comesFrom 12 = .ok (.if_icmp .ne 7, 3) := by decide +kernel
theorem dX10_comesFrom_15 : decode cX10_comesFrom 15 = .ok (.iconst 1, 1) := by decide +kernel
theorem dX10_comesFrom_16 : decode cX10_comesFrom 16 = .ok (.goto 4, 3) := by decide +kernel
theorem dX10_comesFrom_19 : decode cX10_comesFrom 19 = .ok (.iconst 0, 1) := by decide +kernel
theorem dX10_comesFrom_20 : decode cX10_comesFrom 20 = .ok (.ireturn, 1) := by decide +kernel
theorem dX10_changeBy_0 : decode cX10_changeBy 0 = .ok (.aload_n 0, 1) := by decide +kernel
theorem dX10_changeBy_1 : decode cX10_changeBy 1 = .ok (.iload_n 1, 1) := by decide +kernel
theorem dX10_changeBy_2 : decode cX10_changeBy 2 = .ok (.invokevirtual 47, 3) := by decide +kernel
theorem dX10_changeBy_5 : decode cX10_changeBy 5 = .ok (.ifCond .eq 10, 3) := by decide +kernel
theorem dX10_changeBy_8 : decode cX10_changeBy 8 = .ok (.aload_n 0, 1) := by decide +kernel
theorem dX10_changeBy_9 : decode cX10_changeBy 9 = .ok (.getfield 29, 3) := by decide +kernel
theorem dX10_changeBy_12 : decode cX10_changeBy 12 = .ok (.goto 4, 3) := by decide +kernel
theorem dX10_changeBy_15 : decode cX10_changeBy 15 = .ok (.iconst 0, 1) := by decide +kernel
theorem dX10_changeBy_16 : decode cX10_changeBy 16 = .ok (.aload_n 0, 1) := by decide +kernel
theorem dX10_changeBy_17 : decode cX10_changeBy 17 = .ok (.iload_n 1, 1) := by decide +kernel
theorem dX10_changeBy_18 : decode cX10_changeBy 18 = .ok (.invokevirtual 51, 3) := by decide +kernel
theorem dX10_changeBy_21 : decode cX10_changeBy 21 = .ok (.ifCond .eq 10, 3) := by decide +kernel
theorem dX10_changeBy_24 : decode cX10_changeBy 24 = .ok (.aload_n 0, 1) := by decide +kernel
theorem dX10_changeBy_25 : decode cX10_changeBy 25 = .ok (.getfield 32, 3) := by decide +kernel
theorem dX10_changeBy_28 : decode cX10_changeBy 28 = .ok (.goto 4, 3) := by decide +kernel
theorem dX10_changeBy_31 : decode cX10_changeBy 31 = .ok (.iconst 0, 1) := by decide +kernel
theorem dX10_changeBy_32 : decode cX10_changeBy 32 = .ok (.isub, 1) := by decide +kernel
theorem dX10_changeBy_33 : decode cX10_changeBy 33 = .ok (.ireturn, 1) := by decide +kernel
theorem dX10_holds_0 : decode cX10_holds 0 = .ok (.iload_n 1, 1) := by decide +kernel
theorem dX10_holds_1 : decode cX10_holds 1 = .ok (.ifCond .lt 15, 3) := by decide +kernel
theorem dX10_holds_4 : decode cX10_holds 4 = .ok (.iload_n 1, 1) := by decide +kernel
theorem dX10_holds_5 : decode cX10_holds 5 = .ok (.aload_n 0, 1) := by decide +kernel
theorem dX10_holds_6 : decode cX10_holds 6 = .ok (.getfield 35, 3) := by decide +kernel
theorem dX10_holds_9 : decode cX10_holds 9 = .ok (.if_icmp .ge 7, 3) := by decide +kernel
theorem dX10_holds_12 : decode cX10_holds 12 = .ok (.iconst 1, 1) := by decide +kernel
theorem dX10_holds_13 : decode cX10_holds 13 = .ok (.goto 4, 3) := by decide +kernel
theorem dX10_holds_16 : decode cX10_holds 16 = .ok (.iconst 0, 1) := by decide +kernel
theorem dX10_holds_17 : decode cX10_holds 17 = .ok (.ireturn, 1) := by decide +kernel
theorem dX10_tokenAt_0 : decode cX10_tokenAt 0 = .ok (.aload_n 0, 1) := by decide +kernel
theorem dX10_tokenAt_1 : decode cX10_tokenAt 1 = .ok (.iload_n 1, 1) := by decide +kernel
theorem dX10_tokenAt_2 : decode cX10_tokenAt 2 = .ok (.invokevirtual 54, 3) := by decide +kernel
theorem dX10_tokenAt_5 : decode cX10_tokenAt 5 = .ok (.ifCond .eq 16, 3) := by decide +kernel
theorem dX10_tokenAt_8 : decode cX10_tokenAt 8 = .ok (.aload_n 0, 1) := by decide +kernel
theorem dX10_tokenAt_9 : decode cX10_tokenAt 9 = .ok (.getfield 9, 3) := by decide +kernel
theorem dX10_tokenAt_12 : decode cX10_tokenAt 12 = .ok (.aload_n 0, 1) := by decide +kernel
theorem dX10_tokenAt_13 : decode cX10_tokenAt 13 = .ok (.iload_n 1, 1) := by decide +kernel
theorem dX10_tokenAt_14 : decode cX10_tokenAt 14 = .ok (.invokevirtual 57, 3) := by decide +kernel
theorem dX10_tokenAt_17 : decode cX10_tokenAt 17 = .ok (.iaload, 1) := by decide +kernel
theorem dX10_tokenAt_18 : decode cX10_tokenAt 18 = .ok (.goto 4, 3) := by decide +kernel
theorem dX10_tokenAt_21 : decode cX10_tokenAt 21 = .ok (.iconst 0, 1) := by decide +kernel
theorem dX10_tokenAt_22 : decode cX10_tokenAt 22 = .ok (.ireturn, 1) := by decide +kernel
theorem dX10_append_0 : decode cX10_append 0 = .ok (.aload_n 0, 1) := by decide +kernel
theorem dX10_append_1 : decode cX10_append 1 = .ok (.getfield 35, 3) := by decide +kernel
theorem dX10_append_4 : decode cX10_append 4 = .ok (.bipush 99, 2) := by decide +kernel
theorem dX10_append_6 : decode cX10_append 6 = .ok (.if_icmp .ge 27, 3) := by decide +kernel
theorem dX10_append_9 : decode cX10_append 9 = .ok (.aload_n 0, 1) := by decide +kernel
theorem dX10_append_10 : decode cX10_append 10 = .ok (.getfield 9, 3) := by decide +kernel
theorem dX10_append_13 : decode cX10_append 13 = .ok (.aload_n 0, 1) := by decide +kernel
theorem dX10_append_14 : decode cX10_append 14 = .ok (.aload_n 0, 1) := by decide +kernel
theorem dX10_append_15 : decode cX10_append 15 = .ok (.getfield 35, 3) := by decide +kernel
theorem dX10_append_18 : decode cX10_append 18 = .ok (.invokevirtual 57, 3) := by decide +kernel
theorem dX10_append_21 : decode cX10_append 21 = .ok (.iload_n 1, 1) := by decide +kernel
theorem dX10_append_22 : decode cX10_append 22 = .ok (.iastore, 1) := by decide +kernel
theorem dX10_append_23 : decode cX10_append 23 = .ok (.aload_n 0, 1) := by decide +kernel
theorem dX10_append_24 : decode cX10_append 24 = .ok (.dup, 1) := by decide +kernel
theorem dX10_append_25 : decode cX10_append 25 = .ok (.getfield 35, 3) := by decide +kernel
theorem dX10_append_28 : decode cX10_append 28 = .ok (.iconst 1, 1) := by decide +kernel
theorem dX10_append_29 : decode cX10_append 29 = .ok (.iadd, 1) := by decide +kernel
theorem dX10_append_30 : decode cX10_append 30 = .ok (.putfield 35, 3) := by decide +kernel
theorem dX10_append_33 : decode cX10_append 33 = .ok (.return_, 1) := by decide +kernel
theorem dX10_takeEarliest_0 : decode cX10_takeEarliest 0 = .ok (.aload_n 0, 1) := by decide +kernel
theorem dX10_takeEarliest_1 : decode cX10_takeEarliest 1 = .ok (.getfield 35, 3) := by decide +kernel
theorem dX10_takeEarliest_4 : decode cX10_takeEarliest 4 = .ok (.ifCond .ne 5, 3) := by decide +kernel
theorem dX10_takeEarliest_7 : decode cX10_takeEarliest 7 = .ok (.iconst 0, 1) := by decide +kernel
theorem dX10_takeEarliest_8 : decode cX10_takeEarliest 8 = .ok (.ireturn, 1) := by decide +kernel
theorem dX10_takeEarliest_9 : decode cX10_takeEarliest 9 = .ok (.aload_n 0, 1) := by decide +kernel
theorem dX10_takeEarliest_10 : decode cX10_takeEarliest 10 = .ok (.getfield 9, 3) := by decide +kernel
theorem dX10_takeEarliest_13 : decode cX10_takeEarliest 13 = .ok (.aload_n 0, 1) := by decide +kernel
theorem dX10_takeEarliest_14 : decode cX10_takeEarliest 14 = .ok (.getfield 38, 3) := by decide +kernel
theorem dX10_takeEarliest_17 : decode cX10_takeEarliest 17 = .ok (.iaload, 1) := by decide +kernel
theorem dX10_takeEarliest_18 : decode cX10_takeEarliest 18 = .ok (.istore_n 1, 1) := by decide +kernel
theorem dX10_takeEarliest_19 : decode cX10_takeEarliest 19 = .ok (.aload_n 0, 1) := by decide +kernel
theorem dX10_takeEarliest_20 : decode cX10_takeEarliest 20 = .ok (.aload_n 0, 1) := by decide +kernel
theorem dX10_takeEarliest_21 : decode cX10_takeEarliest 21 = .ok (.iconst 1, 1) := by decide +kernel
theorem dX10_takeEarliest_22 : decode cX10_takeEarliest 22 = .ok (.invokevirtual 57, 3) := by decide +kernel
theorem dX10_takeEarliest_25 : decode cX10_takeEarliest 25 = .ok (.putfield 38, 3) := by decide +kernel
theorem dX10_takeEarliest_28 : decode cX10_takeEarliest 28 = .ok (.aload_n 0, 1) := by decide +kernel
theorem dX10_takeEarliest_29 : decode cX10_takeEarliest 29 = .ok (.dup, 1) := by decide +kernel
theorem dX10_takeEarliest_30 : decode cX10_takeEarliest 30 = .ok (.getfield 35, 3) := by decide +kernel
theorem dX10_takeEarliest_33 : decode cX10_takeEarliest 33 = .ok (.iconst 1, 1) := by decide +kernel
theorem dX10_takeEarliest_34 : decode cX10_takeEarliest 34 = .ok (.isub, 1) := by decide +kernel
theorem dX10_takeEarliest_35 : decode cX10_takeEarliest 35 = .ok (.putfield 35, 3) := by decide +kernel
theorem dX10_takeEarliest_38 : decode cX10_takeEarliest 38 = .ok (.iload_n 1, 1) := by decide +kernel
theorem dX10_takeEarliest_39 : decode cX10_takeEarliest 39 = .ok (.ireturn, 1) := by decide +kernel
theorem dX10_placeOf_0 : decode cX10_placeOf 0 = .ok (.aload_n 0, 1) := by decide +kernel
theorem dX10_placeOf_1 : decode cX10_placeOf 1 = .ok (.getfield 38, 3) := by decide +kernel
theorem dX10_placeOf_4 : decode cX10_placeOf 4 = .ok (.iload_n 1, 1) := by decide +kernel
theorem dX10_placeOf_5 : decode cX10_placeOf 5 = .ok (.iadd, 1) := by decide +kernel
theorem dX10_placeOf_6 : decode cX10_placeOf 6 = .ok (.istore_n 2, 1) := by decide +kernel
theorem dX10_placeOf_7 : decode cX10_placeOf 7 = .ok (.iload_n 2, 1) := by decide +kernel
theorem dX10_placeOf_8 : decode cX10_placeOf 8 = .ok (.bipush 99, 2) := by decide +kernel
theorem dX10_placeOf_10 : decode cX10_placeOf 10 = .ok (.if_icmp .ge 7, 3) := by decide +kernel
theorem dX10_placeOf_13 : decode cX10_placeOf 13 = .ok (.iload_n 2, 1) := by decide +kernel
theorem dX10_placeOf_14 : decode cX10_placeOf 14 = .ok (.goto 7, 3) := by decide +kernel
theorem dX10_placeOf_17 : decode cX10_placeOf 17 = .ok (.iload_n 2, 1) := by decide +kernel
theorem dX10_placeOf_18 : decode cX10_placeOf 18 = .ok (.bipush 99, 2) := by decide +kernel
theorem dX10_placeOf_20 : decode cX10_placeOf 20 = .ok (.isub, 1) := by decide +kernel
theorem dX10_placeOf_21 : decode cX10_placeOf 21 = .ok (.ireturn, 1) := by decide +kernel
theorem dX11_init_0 : decode cX11_init 0 = .ok (.aload_n 0, 1) := by decide +kernel
theorem dX11_init_1 : decode cX11_init 1 = .ok (.invokespecial 5, 3) := by decide +kernel
theorem dX11_init_4 : decode cX11_init 4 = .ok (.aload_n 0, 1) := by decide +kernel
theorem dX11_init_5 : decode cX11_init 5 = .ok (.new 11, 3) := by decide +kernel
theorem dX11_init_8 : decode cX11_init 8 = .ok (.dup, 1) := by decide +kernel
theorem dX11_init_9 : decode cX11_init 9 = .ok (.invokespecial 13, 3) := by decide +kernel
theorem dX11_init_12 : decode cX11_init 12 = .ok (.putfield 14, 3) := by decide +kernel
theorem dX11_init_15 : decode cX11_init 15 = .ok (.aload_n 0, 1) := by decide +kernel
theorem dX11_init_16 : decode cX11_init 16 = .ok (.new 11, 3) := by decide +kernel
theorem dX11_init_19 : decode cX11_init 19 = .ok (.dup, 1) := by decide +kernel
theorem dX11_init_20 : decode cX11_init 20 = .ok (.invokespecial 13, 3) := by decide +kernel
theorem dX11_init_23 : decode cX11_init 23 = .ok (.putfield 18, 3) := by decide +kernel
theorem dX11_init_26 : decode cX11_init 26 = .ok (.aload_n 0, 1) := by decide +kernel
theorem dX11_init_27 : decode cX11_init 27 = .ok (.iconst 0, 1) := by decide +kernel
theorem dX11_init_28 : decode cX11_init 28 = .ok (.putfield 21, 3) := by decide +kernel
theorem dX11_init_31 : decode cX11_init 31 = .ok (.aload_n 0, 1) := by decide +kernel
theorem dX11_init_32 : decode cX11_init 32 = .ok (.new 25, 3) := by decide +kernel
theorem dX11_init_35 : decode cX11_init 35 = .ok (.dup, 1) := by decide +kernel
theorem dX11_init_36 : decode cX11_init 36 = .ok (.invokespecial 27, 3) := by decide +kernel
theorem dX11_init_39 : decode cX11_init 39 = .ok (.putfield 28, 3) := by decide +kernel
theorem dX11_init_42 : decode cX11_init 42 = .ok (.aload_n 0, 1) := by decide +kernel
theorem dX11_init_43 : decode cX11_init 43 = .ok (.new 32, 3) := by decide +kernel
theorem dX11_init_46 : decode cX11_init 46 = .ok (.dup, 1) := by decide +kernel
theorem dX11_init_47 : decode cX11_init 47 = .ok (.invokespecial 34, 3) := by decide +kernel
theorem dX11_init_50 : decode cX11_init 50 = .ok (.putfield 35, 3) := by decide +kernel
theorem dX11_init_53 : decode cX11_init 53 = .ok (.aload_n 0, 1) := by decide +kernel
theorem dX11_init_54 : decode cX11_init 54 = .ok (.new 39, 3) := by decide +kernel
theorem dX11_init_57 : decode cX11_init 57 = .ok (.dup, 1) := by decide +kernel
theorem dX11_init_58 : decode cX11_init 58 = .ok (.invokespecial 41, 3) := by decide +kernel
theorem dX11_init_61 : decode cX11_init 61 = .ok (.putfield 42, 3) := by decide +kernel
theorem dX11_init_64 : decode cX11_init 64 = .ok (.aload_n 0, 1) := by decide +kernel
theorem dX11_init_65 : decode cX11_init 65 = .ok (.new 46, 3) := by decide +kernel
theorem dX11_init_68 : decode cX11_init 68 = .ok (.dup, 1) := by decide +kernel
theorem dX11_init_69 : decode cX11_init 69 = .ok (.invokespecial 48, 3) := by decide +kernel
theorem dX11_init_72 : decode cX11_init 72 = .ok (.putfield 49, 3) := by decide +kernel
theorem dX11_init_75 : decode cX11_init 75 = .ok (.aload_n 0, 1) := by decide +kernel
theorem dX11_init_76 : decode cX11_init 76 = .ok (.bipush 6, 2) := by decide +kernel
theorem dX11_init_78 : decode cX11_init 78 = .ok (.anewarray 53, 3) := by decide +kernel
theorem dX11_init_81 : decode cX11_init 81 = .ok (.putfield 55, 3) := by decide +kernel
theorem dX11_init_84 : decode cX11_init 84 = .ok (.iconst 0, 1) := by decide +kernel
theorem dX11_init_85 : decode cX11_init 85 = .ok (.istore_n 1, 1) := by decide +kernel
theorem dX11_init_86 : decode cX11_init 86 = .ok (.iload_n 1, 1) := by decide +kernel
theorem dX11_init_87 : decode cX11_init 87 = .ok (.bipush 6, 2) := by decide +kernel
theorem dX11_init_89 : decode cX11_init 89 = .ok (.if_icmp .ge 22, 3) := by decide +kernel
theorem dX11_init_92 : decode cX11_init 92 = .ok (.aload_n 0, 1) := by decide +kernel
theorem dX11_init_93 : decode cX11_init 93 = .ok (.getfield 55, 3) := by decide +kernel
theorem dX11_init_96 : decode cX11_init 96 = .ok (.iload_n 1, 1) := by decide +kernel
theorem dX11_init_97 : decode cX11_init 97 = .ok (.new 53, 3) := by decide +kernel
theorem dX11_init_100 : decode cX11_init 100 = .ok (.dup, 1) := by decide +kernel
theorem dX11_init_101 : decode cX11_init 101 = .ok (.invokespecial 59, 3) := by decide +kernel
theorem dX11_init_104 : decode cX11_init 104 = .ok (.aastore, 1) := by decide +kernel
theorem dX11_init_105 : decode cX11_init 105 = .ok (.iinc 1 1, 3) := by decide +kernel
theorem dX11_init_108 : decode cX11_init 108 = .ok (.goto (-22), 3) := by decide +kernel
theorem dX11_init_111 : decode cX11_init 111 = .ok (.return_, 1) := by decide +kernel
theorem dX11_box_0 : decode cX11_box 0 = .ok (.iload_n 1, 1) := by decide +kernel
theorem dX11_box_1 : decode cX11_box 1 = .ok (.ifCond .lt 8, 3) := by decide +kernel
theorem dX11_box_4 : decode cX11_box 4 = .ok (.iload_n 1, 1) := by decide +kernel
theorem dX11_box_5 : decode cX11_box 5 = .ok (.iconst 4, 1) := by decide +kernel
theorem dX11_box_6 : decode cX11_box 6 = .ok (.if_icmp .le 5, 3) := by decide +kernel
theorem dX11_box_9 : decode cX11_box 9 = .ok (.iconst (-1), 1) := by decide +kernel
theorem dX11_box_10 : decode cX11_box 10 = .ok (.ireturn, 1) := by decide +kernel
theorem dX11_box_11 : decode cX11_box 11 = .ok (.iload_n 2, 1) := by decide +kernel
theorem dX11_box_12 : decode cX11_box 12 = .ok (.ifCond .lt 9, 3) := by decide +kernel
theorem dX11_box_15 : decode cX11_box 15 = .ok (.iload_n 2, 1) := by decide +kernel
theorem dX11_box_16 : decode cX11_box 16 = .ok (.bipush 9, 2) := by decide +kernel
theorem dX11_box_18 : decode cX11_box 18 = .ok (.if_icmp .le 6, 3) := by decide +kernel
theorem dX11_box_21 : decode cX11_box 21 = .ok (.bipush (-2), 2) := by decide +kernel
theorem dX11_box_23 : decode cX11_box 23 = .ok (.ireturn, 1) := by decide +kernel
theorem dX11_box_24 : decode cX11_box 24 = .ok (.aload_n 0, 1) := by decide +kernel
theorem dX11_box_25 : decode cX11_box 25 = .ok (.getfield 14, 3) := by decide +kernel
theorem dX11_box_28 : decode cX11_box 28 = .ok (.getfield 60, 3) := by decide +kernel
theorem dX11_box_31 : decode cX11_box 31 = .ok (.iload_n 1, 1) := by decide +kernel
theorem dX11_box_32 : decode cX11_box 32 = .ok (.iload_n 2, 1) := by decide +kernel
theorem dX11_box_33 : decode cX11_box 33 = .ok (.invokevirtual 63, 3) := by decide +kernel
theorem dX11_box_36 : decode cX11_box 36 = .ok (.ireturn, 1) := by decide +kernel
theorem dX11_wire_0 : decode cX11_wire 0 = .ok (.aload_n 0, 1) := by decide +kernel
theorem dX11_wire_1 : decode cX11_wire 1 = .ok (.getfield 14, 3) := by decide +kernel
theorem dX11_wire_4 : decode cX11_wire 4 = .ok (.getfield 60, 3) := by decide +kernel
theorem dX11_wire_7 : decode cX11_wire 7 = .ok (.iload_n 1, 1) := by decide +kernel
theorem dX11_wire_8 : decode cX11_wire 8 = .ok (.iload_n 2, 1) := by decide +kernel
theorem dX11_wire_9 : decode cX11_wire 9 = .ok (.iload_n 3, 1) := by decide +kernel
theorem dX11_wire_10 : decode cX11_wire 10 = .ok (.iload 4, 2) := by decide +kernel
theorem dX11_wire_12 : decode cX11_wire 12 = .ok (.invokevirtual 67, 3) := by decide +kernel
theorem dX11_wire_15 : decode cX11_wire 15 = .ok (.ireturn, 1) := by decide +kernel
theorem dX11_token_0 : decode cX11_token 0 = .ok (.aload_n 0, 1) := by decide +kernel
theorem dX11_token_1 : decode cX11_token 1 = .ok (.getfield 14, 3) := by decide +kernel
theorem dX11_token_4 : decode cX11_token 4 = .ok (.getfield 60, 3) := by decide +kernel
theorem dX11_token_7 : decode cX11_token 7 = .ok (.iload_n 1, 1) := by decide +kernel
theorem dX11_token_8 : decode cX11_token 8 = .ok (.invokevirtual 71, 3) := by decide +kernel
theorem dX11_token_11 : decode cX11_token 11 = .ok (.ifCond .ne 5, 3) := by decide +kernel
theorem dX11_token_14 : decode cX11_token 14 = .ok (.iconst (-1), 1) := by decide +kernel
theorem dX11_token_15 : decode cX11_token 15 = .ok (.ireturn, 1) := by decide +kernel
theorem dX11_token_16 : decode cX11_token 16 = .ok (.aload_n 0, 1) := by decide +kernel
theorem dX11_token_17 : decode cX11_token 17 = .ok (.getfield 14, 3) := by decide +kernel
theorem dX11_token_20 : decode cX11_token 20 = .ok (.getfield 60, 3) := by decide +kernel
theorem dX11_token_23 : decode cX11_token 23 = .ok (.getfield 75, 3) := by decide +kernel
theorem dX11_token_26 : decode cX11_token 26 = .ok (.iload_n 1, 1) := by decide +kernel
theorem dX11_token_27 : decode cX11_token 27 = .ok (.aaload, 1) := by decide +kernel
theorem dX11_token_28 : decode cX11_token 28 = .ok (.astore_n 3, 1) := by decide +kernel
theorem dX11_token_29 : decode cX11_token 29 = .ok (.aload_n 3, 1) := by decide +kernel
theorem dX11_token_30 : decode cX11_token 30 = .ok (.getfield 79, 3) := by decide +kernel
theorem dX11_token_33 : decode cX11_token 33 = .ok (.bipush 99, 2) := by decide +kernel
theorem dX11_token_35 : decode cX11_token 35 = .ok (.if_icmp .lt 6, 3) := by decide +kernel
theorem dX11_token_38 : decode cX11_token 38 = .ok (.bipush (-4), 2) := by decide +kernel
theorem dX11_token_40 : decode cX11_token 40 = .ok (.ireturn, 1) := by decide +kernel
theorem dX11_token_41 : decode cX11_token 41 = .ok (.aload_n 3, 1) := by decide +kernel
theorem dX11_token_42 : decode cX11_token 42 = .ok (.iload_n 2, 1) := by decide +kernel
theorem dX11_token_43 : decode cX11_token 43 = .ok (.invokevirtual 85, 3) := by decide +kernel
theorem dX11_token_46 : decode cX11_token 46 = .ok (.aload_n 3, 1) := by decide +kernel
theorem dX11_token_47 : decode cX11_token 47 = .ok (.getfield 79, 3) := by decide +kernel
theorem dX11_token_50 : decode cX11_token 50 = .ok (.ireturn, 1) := by decide +kernel
theorem dX11_cut_0 : decode cX11_cut 0 = .ok (.aload_n 0, 1) := by decide +kernel
theorem dX11_cut_1 : decode cX11_cut 1 = .ok (.getfield 14, 3) := by decide +kernel
theorem dX11_cut_4 : decode cX11_cut 4 = .ok (.getfield 60, 3) := by decide +kernel
theorem dX11_cut_7 : decode cX11_cut 7 = .ok (.iload_n 1, 1) := by decide +kernel
theorem dX11_cut_8 : decode cX11_cut 8 = .ok (.invokevirtual 71, 3) := by decide +kernel
theorem dX11_cut_11 : decode cX11_cut 11 = .ok (.ifCond .ne 5, 3) := by decide +kernel
theorem dX11_cut_14 : decode cX11_cut 14 = .ok (.iconst (-1), 1) := by decide +kernel
theorem dX11_cut_15 : decode cX11_cut 15 = .ok (.ireturn, 1) := by decide +kernel
theorem dX11_cut_16 : decode cX11_cut 16 = .ok (.aload_n 0, 1) := by decide +kernel
theorem dX11_cut_17 : decode cX11_cut 17 = .ok (.getfield 14, 3) := by decide +kernel
theorem dX11_cut_20 : decode cX11_cut 20 = .ok (.getfield 60, 3) := by decide +kernel
theorem dX11_cut_23 : decode cX11_cut 23 = .ok (.getfield 75, 3) := by decide +kernel
theorem dX11_cut_26 : decode cX11_cut 26 = .ok (.iload_n 1, 1) := by decide +kernel
theorem dX11_cut_27 : decode cX11_cut 27 = .ok (.aaload, 1) := by decide +kernel
theorem dX11_cut_28 : decode cX11_cut 28 = .ok (.astore_n 2, 1) := by decide +kernel
theorem dX11_cut_29 : decode cX11_cut 29 = .ok (.aload_n 2, 1) := by decide +kernel
theorem dX11_cut_30 : decode cX11_cut 30 = .ok (.getfield 79, 3) := by decide +kernel
theorem dX11_cut_33 : decode cX11_cut 33 = .ok (.istore_n 3, 1) := by decide +kernel
theorem dX11_cut_34 : decode cX11_cut 34 = .ok (.aload_n 2, 1) := by decide +kernel
theorem dX11_cut_35 : decode cX11_cut 35 = .ok (.invokevirtual 89, 3) := by decide +kernel
theorem dX11_cut_38 : decode cX11_cut 38 = .ok (.aload_n 2, 1) := by decide +kernel
theorem dX11_cut_39 : decode cX11_cut 39 = .ok (.iconst 0, 1) := by decide +kernel
theorem dX11_cut_40 : decode cX11_cut 40 = .ok (.putfield 92, 3) := by decide +kernel
theorem dX11_cut_43 : decode cX11_cut 43 = .ok (.iload_n 3, 1) := by decide +kernel
theorem dX11_cut_44 : decode cX11_cut 44 = .ok (.ireturn, 1) := by decide +kernel
theorem dX11_feed_0 : decode cX11_feed 0 = .ok (.iload_n 1, 1) := by decide +kernel
theorem dX11_feed_1 : decode cX11_feed 1 = .ok (.ifCond .lt 9, 3) := by decide +kernel
theorem dX11_feed_4 : decode cX11_feed 4 = .ok (.iload_n 1, 1) := by decide +kernel
theorem dX11_feed_5 : decode cX11_feed 5 = .ok (.bipush 127, 2) := by decide +kernel
theorem dX11_feed_7 : decode cX11_feed 7 = .ok (.if_icmp .le 6, 3) := by decide +kernel
theorem dX11_feed_10 : decode cX11_feed 10 = .ok (.bipush (-2), 2) := by decide +kernel
theorem dX11_feed_12 : decode cX11_feed 12 = .ok (.ireturn, 1) := by decide +kernel
theorem dX11_feed_13 : decode cX11_feed 13 = .ok (.aload_n 0, 1) := by decide +kernel
theorem dX11_feed_14 : decode cX11_feed 14 = .ok (.getfield 49, 3) := by decide +kernel
theorem dX11_feed_17 : decode cX11_feed 17 = .ok (.getfield 95, 3) := by decide +kernel
theorem dX11_feed_20 : decode cX11_feed 20 = .ok (.bipush 100, 2) := by decide +kernel
theorem dX11_feed_22 : decode cX11_feed 22 = .ok (.if_icmp .lt 6, 3) := by decide +kernel
theorem dX11_feed_25 : decode cX11_feed 25 = .ok (.bipush (-4), 2) := by decide +kernel
theorem dX11_feed_27 : decode cX11_feed 27 = .ok (.ireturn, 1) := by decide +kernel
theorem dX11_feed_28 : decode cX11_feed 28 = .ok (.aload_n 0, 1) := by decide +kernel
theorem dX11_feed_29 : decode cX11_feed 29 = .ok (.getfield 49, 3) := by decide +kernel
theorem dX11_feed_32 : decode cX11_feed 32 = .ok (.iload_n 1, 1) := by decide +kernel
theorem dX11_feed_33 : decode cX11_feed 33 = .ok (.i2b, 1) := by decide +kernel
theorem dX11_feed_34 : decode cX11_feed 34 = .ok (.invokevirtual 98, 3) := by decide +kernel
theorem dX11_feed_37 : decode cX11_feed 37 = .ok (.aload_n 0, 1) := by decide +kernel
theorem dX11_feed_38 : decode cX11_feed 38 = .ok (.getfield 49, 3) := by decide +kernel
theorem dX11_feed_41 : decode cX11_feed 41 = .ok (.getfield 95, 3) := by decide +kernel
theorem dX11_feed_44 : decode cX11_feed 44 = .ok (.ireturn, 1) := by decide +kernel
theorem dX11_graph_0 : decode cX11_graph 0 = .ok (.aload_n 0, 1) := by decide +kernel
theorem dX11_graph_1 : decode cX11_graph 1 = .ok (.getfield 49, 3) := by decide +kernel
theorem dX11_graph_4 : decode cX11_graph 4 = .ok (.invokevirtual 101, 3) := by decide +kernel
theorem dX11_graph_7 : decode cX11_graph 7 = .ok (.istore_n 1, 1) := by decide +kernel
theorem dX11_graph_8 : decode cX11_graph 8 = .ok (.aload_n 0, 1) := by decide +kernel
theorem dX11_graph_9 : decode cX11_graph 9 = .ok (.getfield 49, 3) := by decide +kernel
theorem dX11_graph_12 : decode cX11_graph 12 = .ok (.iconst 0, 1) := by decide +kernel
theorem dX11_graph_13 : decode cX11_graph 13 = .ok (.putfield 95, 3) := by decide +kernel
theorem dX11_graph_16 : decode cX11_graph 16 = .ok (.iload_n 1, 1) := by decide +kernel
theorem dX11_graph_17 : decode cX11_graph 17 = .ok (.ifCond .lt 8, 3) := by decide +kernel
theorem dX11_graph_20 : decode cX11_graph 20 = .ok (.bipush (-10), 2) := by decide +kernel
theorem dX11_graph_22 : decode cX11_graph 22 = .ok (.iload_n 1, 1) := by decide +kernel
theorem dX11_graph_23 : decode cX11_graph 23 = .ok (.isub, 1) := by decide +kernel
theorem dX11_graph_24 : decode cX11_graph 24 = .ok (.ireturn, 1) := by decide +kernel
theorem dX11_graph_25 : decode cX11_graph 25 = .ok (.iconst 0, 1) := by decide +kernel
theorem dX11_graph_26 : decode cX11_graph 26 = .ok (.istore_n 2, 1) := by decide +kernel
theorem dX11_graph_27 : decode cX11_graph 27 = .ok (.iconst 0, 1) := by decide +kernel
theorem dX11_graph_28 : decode cX11_graph 28 = .ok (.istore_n 3, 1) := by decide +kernel
theorem dX11_graph_29 : decode cX11_graph 29 = .ok (.iload_n 3, 1) := by decide +kernel
theorem dX11_graph_30 : decode cX11_graph 30 = .ok (.aload_n 0, 1) := by decide +kernel
theorem dX11_graph_31 : decode cX11_graph 31 = .ok (.getfield 49, 3) := by decide +kernel
theorem dX11_graph_34 : decode cX11_graph 34 = .ok (.getfield 105, 3) := by decide +kernel
theorem dX11_graph_37 : decode cX11_graph 37 = .ok (.if_icmp .ge 34, 3) := by decide +kernel
theorem dX11_graph_40 : decode cX11_graph 40 = .ok (.iload_n 3, 1) := by decide +kernel
theorem dX11_graph_41 : decode cX11_graph 41 = .ok (.bipush 8, 2) := by decide +kernel
theorem dX11_graph_43 : decode cX11_graph 43 = .ok (.if_icmp .ge 28, 3) := by decide +kernel
theorem dX11_graph_46 : decode cX11_graph 46 = .ok (.aload_n 0, 1) := by decide +kernel
theorem dX11_graph_47 : decode cX11_graph 47 = .ok (.aload_n 0, 1) := by decide +kernel
theorem dX11_graph_48 : decode cX11_graph 48 = .ok (.getfield 49, 3) := by decide +kernel
theorem dX11_graph_51 : decode cX11_graph 51 = .ok (.getfield 108, 3) := by decide +kernel
theorem dX11_graph_54 : decode cX11_graph 54 = .ok (.iload_n 3, 1) := by decide +kernel
theorem dX11_graph_55 : decode cX11_graph 55 = .ok (.aaload, 1) := by decide +kernel
theorem dX11_graph_56 : decode cX11_graph 56 = .ok (.invokevirtual 112, 3) := by decide +kernel
theorem dX11_graph_59 : decode cX11_graph 59 = .ok (.ifCond .eq 6, 3) := by decide +kernel
theorem dX11_graph_62 : decode cX11_graph 62 = .ok (.iinc 2 1, 3) := by decide +kernel
theorem dX11_graph_65 : decode cX11_graph 65 = .ok (.iinc 3 1, 3) := by decide +kernel
theorem dX11_graph_68 : decode cX11_graph 68 = .ok (.goto (-39), 3) := by decide +kernel
theorem dX11_graph_71 : decode cX11_graph 71 = .ok (.iload_n 2, 1) := by decide +kernel
theorem dX11_graph_72 : decode cX11_graph 72 = .ok (.ireturn, 1) := by decide +kernel
theorem dX11_layClause_0 : decode cX11_layClause 0 = .ok (.aload_n 0, 1) := by decide +kernel
theorem dX11_layClause_1 : decode cX11_layClause 1 = .ok (.getfield 14, 3) := by decide +kernel
theorem dX11_layClause_4 : decode cX11_layClause 4 = .ok (.getfield 60, 3) := by decide +kernel
theorem dX11_layClause_7 : decode cX11_layClause 7 = .ok (.aload_n 1, 1) := by decide +kernel
theorem dX11_layClause_8 : decode cX11_layClause 8 = .ok (.getfield 116, 3) := by decide +kernel
theorem dX11_layClause_11 : decode cX11_layClause 11 = .ok (.aload_n 1, 1) := by decide +kernel
theorem dX11_layClause_12 : decode cX11_layClause 12 = .ok (.getfield 121, 3) := by decide +kernel
theorem dX11_layClause_15 : decode cX11_layClause 15 = .ok (.aload_n 1, 1) := by decide +kernel
theorem dX11_layClause_16 : decode cX11_layClause 16 = .ok (.getfield 124, 3) := by decide +kernel
theorem dX11_layClause_19 : decode cX11_layClause 19 = .ok (.aload_n 1, 1) := by decide +kernel
theorem dX11_layClause_20 : decode cX11_layClause 20 = .ok (.getfield 127, 3) := by decide +kernel
theorem dX11_layClause_23 : decode cX11_layClause 23 = .ok (.invokevirtual 67, 3) := by decide +kernel
theorem dX11_layClause_26 : decode cX11_layClause 26 = .ok (.istore_n 2, 1) := by decide +kernel
theorem dX11_layClause_27 : decode cX11_layClause 27 = .ok (.aload_n 0, 1) := by decide +kernel
theorem dX11_layClause_28 : decode cX11_layClause 28 = .ok (.getfield 14, 3) := by decide +kernel
theorem dX11_layClause_31 : decode cX11_layClause 31 = .ok (.getfield 60, 3) := by decide +kernel
theorem dX11_layClause_34 : decode cX11_layClause 34 = .ok (.iload_n 2, 1) := by decide +kernel
theorem dX11_layClause_35 : decode cX11_layClause 35 = .ok (.invokevirtual 71, 3) := by decide +kernel
theorem dX11_layClause_38 : decode cX11_layClause 38 = .ok (.ifCond .ne 5, 3) := by decide +kernel
theorem dX11_layClause_41 : decode cX11_layClause 41 = .ok (.iconst 0, 1) := by decide +kernel
theorem dX11_layClause_42 : decode cX11_layClause 42 = .ok (.ireturn, 1) := by decide +kernel
theorem dX11_layClause_43 : decode cX11_layClause 43 = .ok (.iconst 0, 1) := by decide +kernel
theorem dX11_layClause_44 : decode cX11_layClause 44 = .ok (.istore_n 3, 1) := by decide +kernel
theorem dX11_layClause_45 : decode cX11_layClause 45 = .ok (.iload_n 3, 1) := by decide +kernel
theorem dX11_layClause_46 : decode cX11_layClause 46 = .ok (.aload_n 1, 1) := by decide +kernel
theorem dX11_layClause_47 : decode cX11_layClause 47 = .ok (.getfield 130, 3) := by decide +kernel
theorem dX11_layClause_50 : decode cX11_layClause 50 = .ok (.if_icmp .ge 36, 3) := by decide +kernel
theorem dX11_layClause_53 : decode cX11_layClause 53 = .ok (.iload_n 3, 1) := by decide +kernel
theorem dX11_layClause_54 : decode cX11_layClause 54 = .ok (.bipush 6, 2) := by decide +kernel
theorem dX11_layClause_56 : decode cX11_layClause 56 = .ok (.if_icmp .ge 30, 3) := by decide +kernel
theorem dX11_layClause_59 : decode cX11_layClause 59 = .ok (.aload_n 0, 1) := by decide +kernel
theorem dX11_layClause_60 : decode cX11_layClause 60 = .ok (.getfield 14, 3) := by decide +kernel
theorem dX11_layClause_63 : decode cX11_layClause 63 = .ok (.getfield 60, 3) := by decide +kernel
theorem dX11_layClause_66 : decode cX11_layClause 66 = .ok (.getfield 75, 3) := by decide +kernel
theorem dX11_layClause_69 : decode cX11_layClause 69 = .ok (.iload_n 2, 1) := by decide +kernel
theorem dX11_layClause_70 : decode cX11_layClause 70 = .ok (.aaload, 1) := by decide +kernel
theorem dX11_layClause_71 : decode cX11_layClause 71 = .ok (.aload_n 1, 1) := by decide +kernel
theorem dX11_layClause_72 : decode cX11_layClause 72 = .ok (.getfield 131, 3) := by decide +kernel
theorem dX11_layClause_75 : decode cX11_layClause 75 = .ok (.iload_n 3, 1) := by decide +kernel
theorem dX11_layClause_76 : decode cX11_layClause 76 = .ok (.iaload, 1) := by decide +kernel
theorem dX11_layClause_77 : decode cX11_layClause 77 = .ok (.invokevirtual 85, 3) := by decide +kernel
theorem dX11_layClause_80 : decode cX11_layClause 80 = .ok (.iinc 3 1, 3) := by decide +kernel
theorem dX11_layClause_83 : decode cX11_layClause 83 = .ok (.goto (-38), 3) := by decide +kernel
theorem dX11_layClause_86 : decode cX11_layClause 86 = .ok (.iconst 1, 1) := by decide +kernel
theorem dX11_layClause_87 : decode cX11_layClause 87 = .ok (.ireturn, 1) := by decide +kernel
theorem dX11_of_0 : decode cX11_of 0 = .ok (.aload_n 0, 1) := by decide +kernel
theorem dX11_of_1 : decode cX11_of 1 = .ok (.getfield 14, 3) := by decide +kernel
theorem dX11_of_4 : decode cX11_of 4 = .ok (.getfield 60, 3) := by decide +kernel
theorem dX11_of_7 : decode cX11_of 7 = .ok (.iload_n 1, 1) := by decide +kernel
theorem dX11_of_8 : decode cX11_of 8 = .ok (.invokevirtual 135, 3) := by decide +kernel
theorem dX11_of_11 : decode cX11_of 11 = .ok (.ifCond .ne 5, 3) := by decide +kernel
theorem dX11_of_14 : decode cX11_of 14 = .ok (.iconst (-1), 1) := by decide +kernel
theorem dX11_of_15 : decode cX11_of 15 = .ok (.ireturn, 1) := by decide +kernel
theorem dX11_of_16 : decode cX11_of 16 = .ok (.iload_n 2, 1) := by decide +kernel
theorem dX11_of_17 : decode cX11_of 17 = .ok (.tableswitch 161 0 7 #[47, 63, 79, 95, 101, 125, 137, 149], 47) := by decide +kernel
theorem dX11_of_64 : decode cX11_of 64 = .ok (.aload_n 0, 1) := by decide +kernel
theorem dX11_of_65 : decode cX11_of 65 = .ok (.getfield 14, 3) := by decide +kernel
theorem dX11_of_68 : decode cX11_of 68 = .ok (.getfield 60, 3) := by decide +kernel
theorem dX11_of_71 : decode cX11_of 71 = .ok (.getfield 138, 3) := by decide +kernel
theorem dX11_of_74 : decode cX11_of 74 = .ok (.iload_n 1, 1) := by decide +kernel
theorem dX11_of_75 : decode cX11_of 75 = .ok (.aaload, 1) := by decide +kernel
theorem dX11_of_76 : decode cX11_of 76 = .ok (.getfield 142, 3) := by decide +kernel
theorem dX11_of_79 : decode cX11_of 79 = .ok (.ireturn, 1) := by decide +kernel
theorem dX11_of_80 : decode cX11_of 80 = .ok (.aload_n 0, 1) := by decide +kernel
theorem dX11_of_81 : decode cX11_of 81 = .ok (.getfield 14, 3) := by decide +kernel
theorem dX11_of_84 : decode cX11_of 84 = .ok (.getfield 60, 3) := by decide +kernel
theorem dX11_of_87 : decode cX11_of 87 = .ok (.getfield 138, 3) := by decide +kernel
theorem dX11_of_90 : decode cX11_of 90 = .ok (.iload_n 1, 1) := by decide +kernel
theorem dX11_of_91 : decode cX11_of 91 = .ok (.aaload, 1) := by decide +kernel
theorem dX11_of_92 : decode cX11_of 92 = .ok (.getfield 147, 3) := by decide +kernel
theorem dX11_of_95 : decode cX11_of 95 = .ok (.ireturn, 1) := by decide +kernel
theorem dX11_of_96 : decode cX11_of 96 = .ok (.aload_n 0, 1) := by decide +kernel
theorem dX11_of_97 : decode cX11_of 97 = .ok (.getfield 14, 3) := by decide +kernel
theorem dX11_of_100 : decode cX11_of 100 = .ok (.getfield 60, 3) := by decide +kernel
theorem dX11_of_103 : decode cX11_of 103 = .ok (.getfield 138, 3) := by decide +kernel
theorem dX11_of_106 : decode cX11_of 106 = .ok (.iload_n 1, 1) := by decide +kernel
theorem dX11_of_107 : decode cX11_of 107 = .ok (.aaload, 1) := by decide +kernel
theorem dX11_of_108 : decode cX11_of 108 = .ok (.getfield 150, 3) := by decide +kernel
theorem dX11_of_111 : decode cX11_of 111 = .ok (.ireturn, 1) := by decide +kernel
theorem dX11_of_112 : decode cX11_of 112 = .ok (.aload_n 0, 1) := by decide +kernel
theorem dX11_of_113 : decode cX11_of 113 = .ok (.iload_n 1, 1) := by decide +kernel
theorem dX11_of_114 : decode cX11_of 114 = .ok (.invokevirtual 153, 3) := by decide +kernel
theorem dX11_of_117 : decode cX11_of 117 = .ok (.ireturn, 1) := by decide +kernel
theorem dX11_of_118 : decode cX11_of 118 = .ok (.aload_n 0, 1) := by decide +kernel
theorem dX11_of_119 : decode cX11_of 119 = .ok (.getfield 35, 3) := by decide +kernel
theorem dX11_of_122 : decode cX11_of 122 = .ok (.aload_n 0, 1) := by decide +kernel
theorem dX11_of_123 : decode cX11_of 123 = .ok (.getfield 14, 3) := by decide +kernel
theorem dX11_of_126 : decode cX11_of 126 = .ok (.getfield 60, 3) := by decide +kernel
theorem dX11_of_129 : decode cX11_of 129 = .ok (.iload_n 1, 1) := by decide +kernel
theorem dX11_of_130 : decode cX11_of 130 = .ok (.invokevirtual 157, 3) := by decide +kernel
theorem dX11_of_133 : decode cX11_of 133 = .ok (.ifCond .eq 7, 3) := by decide +kernel
theorem dX11_of_136 : decode cX11_of 136 = .ok (.iconst 1, 1) := by decide +kernel
theorem dX11_of_137 : decode cX11_of 137 = .ok (.goto 4, 3) := by decide +kernel
theorem dX11_of_140 : decode cX11_of 140 = .ok (.iconst 0, 1) := by decide +kernel
theorem dX11_of_141 : decode cX11_of 141 = .ok (.ireturn, 1) := by decide +kernel
theorem dX11_of_142 : decode cX11_of 142 = .ok (.aload_n 0, 1) := by decide +kernel
theorem dX11_of_143 : decode cX11_of 143 = .ok (.getfield 14, 3) := by decide +kernel
theorem dX11_of_146 : decode cX11_of 146 = .ok (.getfield 60, 3) := by decide +kernel
theorem dX11_of_149 : decode cX11_of 149 = .ok (.iload_n 1, 1) := by decide +kernel
theorem dX11_of_150 : decode cX11_of 150 = .ok (.invokevirtual 161, 3) := by decide +kernel
theorem dX11_of_153 : decode cX11_of 153 = .ok (.ireturn, 1) := by decide +kernel
theorem dX11_of_154 : decode cX11_of 154 = .ok (.aload_n 0, 1) := by decide +kernel
theorem dX11_of_155 : decode cX11_of 155 = .ok (.getfield 14, 3) := by decide +kernel
theorem dX11_of_158 : decode cX11_of 158 = .ok (.getfield 60, 3) := by decide +kernel
theorem dX11_of_161 : decode cX11_of 161 = .ok (.iload_n 1, 1) := by decide +kernel
theorem dX11_of_162 : decode cX11_of 162 = .ok (.invokevirtual 164, 3) := by decide +kernel
theorem dX11_of_165 : decode cX11_of 165 = .ok (.ireturn, 1) := by decide +kernel
theorem dX11_of_166 : decode cX11_of 166 = .ok (.aload_n 0, 1) := by decide +kernel
theorem dX11_of_167 : decode cX11_of 167 = .ok (.getfield 14, 3) := by decide +kernel
theorem dX11_of_170 : decode cX11_of 170 = .ok (.getfield 60, 3) := by decide +kernel
theorem dX11_of_173 : decode cX11_of 173 = .ok (.iload_n 1, 1) := by decide +kernel
theorem dX11_of_174 : decode cX11_of 174 = .ok (.invokevirtual 167, 3) := by decide +kernel
theorem dX11_of_177 : decode cX11_of 177 = .ok (.ireturn, 1) := by decide +kernel
theorem dX11_of_178 : decode cX11_of 178 = .ok (.iconst (-1), 1) := by decide +kernel
theorem dX11_of_179 : decode cX11_of 179 = .ok (.ireturn, 1) := by decide +kernel
theorem dX11_timesOf_0 : decode cX11_timesOf 0 = .ok (.aload_n 0, 1) := by decide +kernel
theorem dX11_timesOf_1 : decode cX11_timesOf 1 = .ok (.getfield 35, 3) := by decide +kernel
theorem dX11_timesOf_4 : decode cX11_timesOf 4 = .ok (.aload_n 0, 1) := by decide +kernel
theorem dX11_timesOf_5 : decode cX11_timesOf 5 = .ok (.getfield 14, 3) := by decide +kernel
theorem dX11_timesOf_8 : decode cX11_timesOf 8 = .ok (.getfield 60, 3) := by decide +kernel
theorem dX11_timesOf_11 : decode cX11_timesOf 11 = .ok (.invokevirtual 170, 3) := by decide +kernel
theorem dX11_timesOf_14 : decode cX11_timesOf 14 = .ok (.aload_n 0, 1) := by decide +kernel
theorem dX11_timesOf_15 : decode cX11_timesOf 15 = .ok (.getfield 35, 3) := by decide +kernel
theorem dX11_timesOf_18 : decode cX11_timesOf 18 = .ok (.getfield 174, 3) := by decide +kernel
theorem dX11_timesOf_21 : decode cX11_timesOf 21 = .ok (.ifCond .eq 8, 3) := by decide +kernel
theorem dX11_timesOf_24 : decode cX11_timesOf 24 = .ok (.bipush (-5), 2) := by decide +kernel
theorem dX11_timesOf_26 : decode cX11_timesOf 26 = .ok (.goto 12, 3) := by decide +kernel
theorem dX11_timesOf_29 : decode cX11_timesOf 29 = .ok (.aload_n 0, 1) := by decide +kernel
theorem dX11_timesOf_30 : decode cX11_timesOf 30 = .ok (.getfield 35, 3) := by decide +kernel
theorem dX11_timesOf_33 : decode cX11_timesOf 33 = .ok (.getfield 177, 3) := by decide +kernel
theorem dX11_timesOf_36 : decode cX11_timesOf 36 = .ok (.iload_n 1, 1) := by decide +kernel
theorem dX11_timesOf_37 : decode cX11_timesOf 37 = .ok (.iaload, 1) := by decide +kernel
theorem dX11_timesOf_38 : decode cX11_timesOf 38 = .ok (.ireturn, 1) := by decide +kernel
theorem dX11_about_0 : decode cX11_about 0 = .ok (.aload_n 0, 1) := by decide +kernel
theorem dX11_about_1 : decode cX11_about 1 = .ok (.getfield 14, 3) := by decide +kernel
theorem dX11_about_4 : decode cX11_about 4 = .ok (.getfield 60, 3) := by decide +kernel
theorem dX11_about_7 : decode cX11_about 7 = .ok (.iload_n 1, 1) := by decide +kernel
theorem dX11_about_8 : decode cX11_about 8 = .ok (.invokevirtual 71, 3) := by decide +kernel
theorem dX11_about_11 : decode cX11_about 11 = .ok (.ifCond .ne 5, 3) := by decide +kernel
theorem dX11_about_14 : decode cX11_about 14 = .ok (.iconst (-1), 1) := by decide +kernel
theorem dX11_about_15 : decode cX11_about 15 = .ok (.ireturn, 1) := by decide +kernel
theorem dX11_about_16 : decode cX11_about 16 = .ok (.aload_n 0, 1) := by decide +kernel
theorem dX11_about_17 : decode cX11_about 17 = .ok (.getfield 14, 3) := by decide +kernel
theorem dX11_about_20 : decode cX11_about 20 = .ok (.getfield 60, 3) := by decide +kernel
theorem dX11_about_23 : decode cX11_about 23 = .ok (.getfield 75, 3) := by decide +kernel
theorem dX11_about_26 : decode cX11_about 26 = .ok (.iload_n 1, 1) := by decide +kernel
theorem dX11_about_27 : decode cX11_about 27 = .ok (.aaload, 1) := by decide +kernel
theorem dX11_about_28 : decode cX11_about 28 = .ok (.astore_n 3, 1) := by decide +kernel
theorem dX11_about_29 : decode cX11_about 29 = .ok (.iload_n 2, 1) := by decide +kernel
theorem dX11_about_30 : decode cX11_about 30 = .ok (.tableswitch 79 0 6 #[42, 47, 52, 57, 62, 67, 73], 42) := by decide +kernel
theorem dX11_about_72 : decode cX11_about 72 = .ok (.aload_n 3, 1) := by decide +kernel
theorem dX11_about_73 : decode cX11_about 73 = .ok (.getfield 180, 3) := by decide +kernel
theorem dX11_about_76 : decode cX11_about 76 = .ok (.ireturn, 1) := by decide +kernel
theorem dX11_about_77 : decode cX11_about 77 = .ok (.aload_n 3, 1) := by decide +kernel
theorem dX11_about_78 : decode cX11_about 78 = .ok (.getfield 181, 3) := by decide +kernel
theorem dX11_about_81 : decode cX11_about 81 = .ok (.ireturn, 1) := by decide +kernel
theorem dX11_about_82 : decode cX11_about 82 = .ok (.aload_n 3, 1) := by decide +kernel
theorem dX11_about_83 : decode cX11_about 83 = .ok (.getfield 182, 3) := by decide +kernel
theorem dX11_about_86 : decode cX11_about 86 = .ok (.ireturn, 1) := by decide +kernel
theorem dX11_about_87 : decode cX11_about 87 = .ok (.aload_n 3, 1) := by decide +kernel
theorem dX11_about_88 : decode cX11_about 88 = .ok (.getfield 183, 3) := by decide +kernel
theorem dX11_about_91 : decode cX11_about 91 = .ok (.ireturn, 1) := by decide +kernel
theorem dX11_about_92 : decode cX11_about 92 = .ok (.aload_n 3, 1) := by decide +kernel
theorem dX11_about_93 : decode cX11_about 93 = .ok (.getfield 79, 3) := by decide +kernel
theorem dX11_about_96 : decode cX11_about 96 = .ok (.ireturn, 1) := by decide +kernel
theorem dX11_about_97 : decode cX11_about 97 = .ok (.aload_n 0, 1) := by decide +kernel
theorem dX11_about_98 : decode cX11_about 98 = .ok (.iload_n 1, 1) := by decide +kernel
theorem dX11_about_99 : decode cX11_about 99 = .ok (.invokevirtual 184, 3) := by decide +kernel
theorem dX11_about_102 : decode cX11_about 102 = .ok (.ireturn, 1) := by decide +kernel
theorem dX11_about_103 : decode cX11_about 103 = .ok (.aload_n 0, 1) := by decide +kernel
theorem dX11_about_104 : decode cX11_about 104 = .ok (.iload_n 1, 1) := by decide +kernel
theorem dX11_about_105 : decode cX11_about 105 = .ok (.invokevirtual 187, 3) := by decide +kernel
theorem dX11_about_108 : decode cX11_about 108 = .ok (.ireturn, 1) := by decide +kernel
theorem dX11_about_109 : decode cX11_about 109 = .ok (.iconst (-1), 1) := by decide +kernel
theorem dX11_about_110 : decode cX11_about 110 = .ok (.ireturn, 1) := by decide +kernel
theorem dX11_heldBy_0 : decode cX11_heldBy 0 = .ok (.aload_n 0, 1) := by decide +kernel
theorem dX11_heldBy_1 : decode cX11_heldBy 1 = .ok (.getfield 35, 3) := by decide +kernel
theorem dX11_heldBy_4 : decode cX11_heldBy 4 = .ok (.aload_n 0, 1) := by decide +kernel
theorem dX11_heldBy_5 : decode cX11_heldBy 5 = .ok (.getfield 14, 3) := by decide +kernel
theorem dX11_heldBy_8 : decode cX11_heldBy 8 = .ok (.getfield 60, 3) := by decide +kernel
theorem dX11_heldBy_11 : decode cX11_heldBy 11 = .ok (.invokevirtual 170, 3) := by decide +kernel
theorem dX11_heldBy_14 : decode cX11_heldBy 14 = .ok (.aload_n 0, 1) := by decide +kernel
theorem dX11_heldBy_15 : decode cX11_heldBy 15 = .ok (.getfield 35, 3) := by decide +kernel
theorem dX11_heldBy_18 : decode cX11_heldBy 18 = .ok (.getfield 174, 3) := by decide +kernel
theorem dX11_heldBy_21 : decode cX11_heldBy 21 = .ok (.ifCond .eq 8, 3) := by decide +kernel
theorem dX11_heldBy_24 : decode cX11_heldBy 24 = .ok (.bipush (-5), 2) := by decide +kernel
theorem dX11_heldBy_26 : decode cX11_heldBy 26 = .ok (.goto 12, 3) := by decide +kernel
theorem dX11_heldBy_29 : decode cX11_heldBy 29 = .ok (.aload_n 0, 1) := by decide +kernel
theorem dX11_heldBy_30 : decode cX11_heldBy 30 = .ok (.getfield 35, 3) := by decide +kernel
theorem dX11_heldBy_33 : decode cX11_heldBy 33 = .ok (.getfield 190, 3) := by decide +kernel
theorem dX11_heldBy_36 : decode cX11_heldBy 36 = .ok (.iload_n 1, 1) := by decide +kernel
theorem dX11_heldBy_37 : decode cX11_heldBy 37 = .ok (.iaload, 1) := by decide +kernel
theorem dX11_heldBy_38 : decode cX11_heldBy 38 = .ok (.ireturn, 1) := by decide +kernel
theorem dX11_needOf_0 : decode cX11_needOf 0 = .ok (.iconst 0, 1) := by decide +kernel
theorem dX11_needOf_1 : decode cX11_needOf 1 = .ok (.istore_n 2, 1) := by decide +kernel
theorem dX11_needOf_2 : decode cX11_needOf 2 = .ok (.iload_n 2, 1) := by decide +kernel
theorem dX11_needOf_3 : decode cX11_needOf 3 = .ok (.bipush 20, 2) := by decide +kernel
theorem dX11_needOf_5 : decode cX11_needOf 5 = .ok (.if_icmp .gt 37, 3) := by decide +kernel
theorem dX11_needOf_8 : decode cX11_needOf 8 = .ok (.aload_n 0, 1) := by decide +kernel
theorem dX11_needOf_9 : decode cX11_needOf 9 = .ok (.getfield 35, 3) := by decide +kernel
theorem dX11_needOf_12 : decode cX11_needOf 12 = .ok (.aload_n 0, 1) := by decide +kernel
theorem dX11_needOf_13 : decode cX11_needOf 13 = .ok (.getfield 14, 3) := by decide +kernel
theorem dX11_needOf_16 : decode cX11_needOf 16 = .ok (.getfield 60, 3) := by decide +kernel
theorem dX11_needOf_19 : decode cX11_needOf 19 = .ok (.iload_n 1, 1) := by decide +kernel
theorem dX11_needOf_20 : decode cX11_needOf 20 = .ok (.iload_n 2, 1) := by decide +kernel
theorem dX11_needOf_21 : decode cX11_needOf 21 = .ok (.invokevirtual 193, 3) := by decide +kernel
theorem dX11_needOf_24 : decode cX11_needOf 24 = .ok (.aload_n 0, 1) := by decide +kernel
theorem dX11_needOf_25 : decode cX11_needOf 25 = .ok (.getfield 35, 3) := by decide +kernel
theorem dX11_needOf_28 : decode cX11_needOf 28 = .ok (.invokevirtual 197, 3) := by decide +kernel
theorem dX11_needOf_31 : decode cX11_needOf 31 = .ok (.ifCond .eq 5, 3) := by decide +kernel
theorem dX11_needOf_34 : decode cX11_needOf 34 = .ok (.iload_n 2, 1) := by decide +kernel
theorem dX11_needOf_35 : decode cX11_needOf 35 = .ok (.ireturn, 1) := by decide +kernel
theorem dX11_needOf_36 : decode cX11_needOf 36 = .ok (.iinc 2 1, 3) := by decide +kernel
theorem dX11_needOf_39 : decode cX11_needOf 39 = .ok (.goto (-37), 3) := by decide +kernel
theorem dX11_needOf_42 : decode cX11_needOf 42 = .ok (.bipush (-5), 2) := by decide +kernel
theorem dX11_needOf_44 : decode cX11_needOf 44 = .ok (.ireturn, 1) := by decide +kernel
theorem dX11_read_0 : decode cX11_read 0 = .ok (.aload_n 0, 1) := by decide +kernel
theorem dX11_read_1 : decode cX11_read 1 = .ok (.getfield 14, 3) := by decide +kernel
theorem dX11_read_4 : decode cX11_read 4 = .ok (.getfield 60, 3) := by decide +kernel
theorem dX11_read_7 : decode cX11_read 7 = .ok (.iload_n 1, 1) := by decide +kernel
theorem dX11_read_8 : decode cX11_read 8 = .ok (.iload_n 2, 1) := by decide +kernel
theorem dX11_read_9 : decode cX11_read 9 = .ok (.invokestatic 201, 3) := by decide +kernel
theorem dX11_read_12 : decode cX11_read 12 = .ok (.lreturn, 1) := by decide +kernel
theorem dX11_tokenIn_0 : decode cX11_tokenIn 0 = .ok (.aload_n 0, 1) := by decide +kernel
theorem dX11_tokenIn_1 : decode cX11_tokenIn 1 = .ok (.iload_n 1, 1) := by decide +kernel
theorem dX11_tokenIn_2 : decode cX11_tokenIn 2 = .ok (.invokevirtual 71, 3) := by decide +kernel
theorem dX11_tokenIn_5 : decode cX11_tokenIn 5 = .ok (.ifCond .ne 7, 3) := by decide +kernel
theorem dX11_tokenIn_8 : decode cX11_tokenIn 8 = .ok (.ldc2_w 205, 3) := by decide +kernel
theorem dX11_tokenIn_11 : decode cX11_tokenIn 11 = .ok (.lreturn, 1) := by decide +kernel
theorem dX11_tokenIn_12 : decode cX11_tokenIn 12 = .ok (.aload_n 0, 1) := by decide +kernel
theorem dX11_tokenIn_13 : decode cX11_tokenIn 13 = .ok (.getfield 75, 3) := by decide +kernel
theorem dX11_tokenIn_16 : decode cX11_tokenIn 16 = .ok (.iload_n 1, 1) := by decide +kernel
theorem dX11_tokenIn_17 : decode cX11_tokenIn 17 = .ok (.aaload, 1) := by decide +kernel
theorem dX11_tokenIn_18 : decode cX11_tokenIn 18 = .ok (.astore_n 3, 1) := by decide +kernel
theorem dX11_tokenIn_19 : decode cX11_tokenIn 19 = .ok (.aload_n 3, 1) := by decide +kernel
theorem dX11_tokenIn_20 : decode cX11_tokenIn 20 = .ok (.iload_n 2, 1) := by decide +kernel
theorem dX11_tokenIn_21 : decode cX11_tokenIn 21 = .ok (.invokevirtual 207, 3) := by decide +kernel
theorem dX11_tokenIn_24 : decode cX11_tokenIn 24 = .ok (.ifCond .eq 12, 3) := by decide +kernel
theorem dX11_tokenIn_27 : decode cX11_tokenIn 27 = .ok (.aload_n 3, 1) := by decide +kernel
theorem dX11_tokenIn_28 : decode cX11_tokenIn 28 = .ok (.iload_n 2, 1) := by decide +kernel
theorem dX11_tokenIn_29 : decode cX11_tokenIn 29 = .ok (.invokevirtual 210, 3) := by decide +kernel
theorem dX11_tokenIn_32 : decode cX11_tokenIn 32 = .ok (.i2l, 1) := by decide +kernel
theorem dX11_tokenIn_33 : decode cX11_tokenIn 33 = .ok (.goto 6, 3) := by decide +kernel
theorem dX11_tokenIn_36 : decode cX11_tokenIn 36 = .ok (.ldc2_w 205, 3) := by decide +kernel
theorem dX11_tokenIn_39 : decode cX11_tokenIn 39 = .ok (.lreturn, 1) := by decide +kernel
theorem dX11_fire_0 : decode cX11_fire 0 = .ok (.aload_n 0, 1) := by decide +kernel
theorem dX11_fire_1 : decode cX11_fire 1 = .ok (.getfield 14, 3) := by decide +kernel
theorem dX11_fire_4 : decode cX11_fire 4 = .ok (.getfield 60, 3) := by decide +kernel
theorem dX11_fire_7 : decode cX11_fire 7 = .ok (.iload_n 1, 1) := by decide +kernel
theorem dX11_fire_8 : decode cX11_fire 8 = .ok (.invokevirtual 135, 3) := by decide +kernel
theorem dX11_fire_11 : decode cX11_fire 11 = .ok (.ifCond .eq 21, 3) := by decide +kernel
theorem dX11_fire_14 : decode cX11_fire 14 = .ok (.aload_n 0, 1) := by decide +kernel
theorem dX11_fire_15 : decode cX11_fire 15 = .ok (.getfield 35, 3) := by decide +kernel
theorem dX11_fire_18 : decode cX11_fire 18 = .ok (.aload_n 0, 1) := by decide +kernel
theorem dX11_fire_19 : decode cX11_fire 19 = .ok (.getfield 14, 3) := by decide +kernel
theorem dX11_fire_22 : decode cX11_fire 22 = .ok (.getfield 60, 3) := by decide +kernel
theorem dX11_fire_25 : decode cX11_fire 25 = .ok (.iload_n 1, 1) := by decide +kernel
theorem dX11_fire_26 : decode cX11_fire 26 = .ok (.invokevirtual 157, 3) := by decide +kernel
theorem dX11_fire_29 : decode cX11_fire 29 = .ok (.ifCond .ne 7, 3) := by decide +kernel
theorem dX11_fire_32 : decode cX11_fire 32 = .ok (.ldc2_w 205, 3) := by decide +kernel
theorem dX11_fire_35 : decode cX11_fire 35 = .ok (.lreturn, 1) := by decide +kernel
theorem dX11_fire_36 : decode cX11_fire 36 = .ok (.aload_n 0, 1) := by decide +kernel
theorem dX11_fire_37 : decode cX11_fire 37 = .ok (.getfield 14, 3) := by decide +kernel
theorem dX11_fire_40 : decode cX11_fire 40 = .ok (.getfield 60, 3) := by decide +kernel
theorem dX11_fire_43 : decode cX11_fire 43 = .ok (.iload_n 1, 1) := by decide +kernel
theorem dX11_fire_44 : decode cX11_fire 44 = .ok (.invokevirtual 213, 3) := by decide +kernel
theorem dX11_fire_47 : decode cX11_fire 47 = .ok (.i2l, 1) := by decide +kernel
theorem dX11_fire_48 : decode cX11_fire 48 = .ok (.lreturn, 1) := by decide +kernel
theorem dX11_period_0 : decode cX11_period 0 = .ok (.iload_n 1, 1) := by decide +kernel
theorem dX11_period_1 : decode cX11_period 1 = .ok (.ifCond .lt 9, 3) := by decide +kernel
theorem dX11_period_4 : decode cX11_period 4 = .ok (.iload_n 1, 1) := by decide +kernel
theorem dX11_period_5 : decode cX11_period 5 = .ok (.bipush 9, 2) := by decide +kernel
theorem dX11_period_7 : decode cX11_period 7 = .ok (.if_icmp .le 6, 3) := by decide +kernel
theorem dX11_period_10 : decode cX11_period 10 = .ok (.bipush (-2), 2) := by decide +kernel
theorem dX11_period_12 : decode cX11_period 12 = .ok (.ireturn, 1) := by decide +kernel
theorem dX11_period_13 : decode cX11_period 13 = .ok (.aload_n 0, 1) := by decide +kernel
theorem dX11_period_14 : decode cX11_period 14 = .ok (.getfield 35, 3) := by decide +kernel
theorem dX11_period_17 : decode cX11_period 17 = .ok (.aload_n 0, 1) := by decide +kernel
theorem dX11_period_18 : decode cX11_period 18 = .ok (.getfield 14, 3) := by decide +kernel
theorem dX11_period_21 : decode cX11_period 21 = .ok (.getfield 60, 3) := by decide +kernel
theorem dX11_period_24 : decode cX11_period 24 = .ok (.invokevirtual 170, 3) := by decide +kernel
theorem dX11_period_27 : decode cX11_period 27 = .ok (.aload_n 0, 1) := by decide +kernel
theorem dX11_period_28 : decode cX11_period 28 = .ok (.getfield 35, 3) := by decide +kernel
theorem dX11_period_31 : decode cX11_period 31 = .ok (.getfield 174, 3) := by decide +kernel
theorem dX11_period_34 : decode cX11_period 34 = .ok (.ifCond .eq 6, 3) := by decide +kernel
theorem dX11_period_37 : decode cX11_period 37 = .ok (.bipush (-3), 2) := by decide +kernel
theorem dX11_period_39 : decode cX11_period 39 = .ok (.ireturn, 1) := by decide +kernel
theorem dX11_period_40 : decode cX11_period 40 = .ok (.aload_n 0, 1) := by decide +kernel
theorem dX11_period_41 : decode cX11_period 41 = .ok (.aload_n 0, 1) := by decide +kernel
theorem dX11_period_42 : decode cX11_period 42 = .ok (.getfield 14, 3) := by decide +kernel
theorem dX11_period_45 : decode cX11_period 45 = .ok (.getfield 60, 3) := by decide +kernel
theorem dX11_period_48 : decode cX11_period 48 = .ok (.iload_n 1, 1) := by decide +kernel
theorem dX11_period_49 : decode cX11_period 49 = .ok (.invokevirtual 216, 3) := by decide +kernel
theorem dX11_period_52 : decode cX11_period 52 = .ok (.ireturn, 1) := by decide +kernel
theorem dX11_playPeriods_0 : decode cX11_playPeriods 0 = .ok (.aload_n 0, 1) := by decide +kernel
theorem dX11_playPeriods_1 : decode cX11_playPeriods 1 = .ok (.getfield 35, 3) := by decide +kernel
theorem dX11_playPeriods_4 : decode cX11_playPeriods 4 = .ok (.invokevirtual 197, 3) := by decide +kernel
theorem dX11_playPeriods_7 : decode cX11_playPeriods 7 = .ok (.ifCond .ne 5, 3) := by decide +kernel
theorem dX11_playPeriods_10 : decode cX11_playPeriods 10 = .ok (.iconst 0, 1) := by decide +kernel
theorem dX11_playPeriods_11 : decode cX11_playPeriods 11 = .ok (.ireturn, 1) := by decide +kernel
theorem dX11_playPeriods_12 : decode cX11_playPeriods 12 = .ok (.iconst 0, 1) := by decide +kernel
theorem dX11_playPeriods_13 : decode cX11_playPeriods 13 = .ok (.istore_n 3, 1) := by decide +kernel
theorem dX11_playPeriods_14 : decode cX11_playPeriods 14 = .ok (.iload_n 3, 1) := by decide +kernel
theorem dX11_playPeriods_15 : decode cX11_playPeriods 15 = .ok (.iload_n 2, 1) := by decide +kernel
theorem dX11_playPeriods_16 : decode cX11_playPeriods 16 = .ok (.if_icmp .ge 17, 3) := by decide +kernel
theorem dX11_playPeriods_19 : decode cX11_playPeriods 19 = .ok (.aload_n 0, 1) := by decide +kernel
theorem dX11_playPeriods_20 : decode cX11_playPeriods 20 = .ok (.getfield 35, 3) := by decide +kernel
theorem dX11_playPeriods_23 : decode cX11_playPeriods 23 = .ok (.aload_n 1, 1) := by decide +kernel
theorem dX11_playPeriods_24 : decode cX11_playPeriods 24 = .ok (.invokevirtual 220, 3) := by decide +kernel
theorem dX11_playPeriods_27 : decode cX11_playPeriods 27 = .ok (.iinc 3 1, 3) := by decide +kernel
theorem dX11_playPeriods_30 : decode cX11_playPeriods 30 = .ok (.goto (-16), 3) := by decide +kernel
theorem dX11_playPeriods_33 : decode cX11_playPeriods 33 = .ok (.iload_n 2, 1) := by decide +kernel
theorem dX11_playPeriods_34 : decode cX11_playPeriods 34 = .ok (.ireturn, 1) := by decide +kernel
theorem dX11_told_0 : decode cX11_told 0 = .ok (.iload_n 1, 1) := by decide +kernel
theorem dX11_told_1 : decode cX11_told 1 = .ok (.ifCond .lt 8, 3) := by decide +kernel
theorem dX11_told_4 : decode cX11_told 4 = .ok (.iload_n 1, 1) := by decide +kernel
theorem dX11_told_5 : decode cX11_told 5 = .ok (.iconst 5, 1) := by decide +kernel
theorem dX11_told_6 : decode cX11_told 6 = .ok (.if_icmp .le 5, 3) := by decide +kernel
theorem dX11_told_9 : decode cX11_told 9 = .ok (.iconst (-1), 1) := by decide +kernel
theorem dX11_told_10 : decode cX11_told 10 = .ok (.ireturn, 1) := by decide +kernel
theorem dX11_told_11 : decode cX11_told 11 = .ok (.iload_n 1, 1) := by decide +kernel
theorem dX11_told_12 : decode cX11_told 12 = .ok (.iconst 5, 1) := by decide +kernel
theorem dX11_told_13 : decode cX11_told 13 = .ok (.if_icmp .ne 14, 3) := by decide +kernel
theorem dX11_told_16 : decode cX11_told 16 = .ok (.aload_n 0, 1) := by decide +kernel
theorem dX11_told_17 : decode cX11_told 17 = .ok (.getfield 14, 3) := by decide +kernel
theorem dX11_told_20 : decode cX11_told 20 = .ok (.getfield 60, 3) := by decide +kernel
theorem dX11_told_23 : decode cX11_told 23 = .ok (.invokevirtual 223, 3) := by decide +kernel
theorem dX11_told_26 : decode cX11_told 26 = .ok (.ireturn, 1) := by decide +kernel
theorem dX11_told_27 : decode cX11_told 27 = .ok (.aload_n 0, 1) := by decide +kernel
theorem dX11_told_28 : decode cX11_told 28 = .ok (.getfield 35, 3) := by decide +kernel
theorem dX11_told_31 : decode cX11_told 31 = .ok (.aload_n 0, 1) := by decide +kernel
theorem dX11_told_32 : decode cX11_told 32 = .ok (.getfield 14, 3) := by decide +kernel
theorem dX11_told_35 : decode cX11_told 35 = .ok (.getfield 60, 3) := by decide +kernel
theorem dX11_told_38 : decode cX11_told 38 = .ok (.invokevirtual 170, 3) := by decide +kernel
theorem dX11_told_41 : decode cX11_told 41 = .ok (.iload_n 1, 1) := by decide +kernel
theorem dX11_told_42 : decode cX11_told 42 = .ok (.ifCond .ne 19, 3) := by decide +kernel
theorem dX11_told_45 : decode cX11_told 45 = .ok (.aload_n 0, 1) := by decide +kernel
theorem dX11_told_46 : decode cX11_told 46 = .ok (.getfield 35, 3) := by decide +kernel
theorem dX11_told_49 : decode cX11_told 49 = .ok (.getfield 174, 3) := by decide +kernel
theorem dX11_told_52 : decode cX11_told 52 = .ok (.ifCond .eq 7, 3) := by decide +kernel
theorem dX11_told_55 : decode cX11_told 55 = .ok (.iconst 1, 1) := by decide +kernel
theorem dX11_told_56 : decode cX11_told 56 = .ok (.goto 4, 3) := by decide +kernel
theorem dX11_told_59 : decode cX11_told 59 = .ok (.iconst 0, 1) := by decide +kernel
theorem dX11_told_60 : decode cX11_told 60 = .ok (.ireturn, 1) := by decide +kernel
theorem dX11_told_61 : decode cX11_told 61 = .ok (.aload_n 0, 1) := by decide +kernel
theorem dX11_told_62 : decode cX11_told 62 = .ok (.getfield 35, 3) := by decide +kernel
theorem dX11_told_65 : decode cX11_told 65 = .ok (.getfield 174, 3) := by decide +kernel
theorem dX11_told_68 : decode cX11_told 68 = .ok (.ifCond .eq 6, 3) := by decide +kernel
theorem dX11_told_71 : decode cX11_told 71 = .ok (.bipush (-5), 2) := by decide +kernel
theorem dX11_told_73 : decode cX11_told 73 = .ok (.ireturn, 1) := by decide +kernel
theorem dX11_told_74 : decode cX11_told 74 = .ok (.iload_n 1, 1) := by decide +kernel
theorem dX11_told_75 : decode cX11_told 75 = .ok (.tableswitch 57 1 3 #[25, 33, 49], 25) := by decide +kernel
theorem dX11_told_100 : decode cX11_told 100 = .ok (.aload_n 0, 1) := by decide +kernel
theorem dX11_told_101 : decode cX11_told 101 = .ok (.getfield 35, 3) := by decide +kernel
theorem dX11_told_104 : decode cX11_told 104 = .ok (.getfield 226, 3) := by decide +kernel
theorem dX11_told_107 : decode cX11_told 107 = .ok (.ireturn, 1) := by decide +kernel
theorem dX11_told_108 : decode cX11_told 108 = .ok (.aload_n 0, 1) := by decide +kernel
theorem dX11_told_109 : decode cX11_told 109 = .ok (.getfield 35, 3) := by decide +kernel
theorem dX11_told_112 : decode cX11_told 112 = .ok (.getfield 229, 3) := by decide +kernel
theorem dX11_told_115 : decode cX11_told 115 = .ok (.ifCond .eq 7, 3) := by decide +kernel
theorem dX11_told_118 : decode cX11_told 118 = .ok (.iconst 1, 1) := by decide +kernel
theorem dX11_told_119 : decode cX11_told 119 = .ok (.goto 4, 3) := by decide +kernel
theorem dX11_told_122 : decode cX11_told 122 = .ok (.iconst 0, 1) := by decide +kernel
theorem dX11_told_123 : decode cX11_told 123 = .ok (.ireturn, 1) := by decide +kernel
theorem dX11_told_124 : decode cX11_told 124 = .ok (.aload_n 0, 1) := by decide +kernel
theorem dX11_told_125 : decode cX11_told 125 = .ok (.getfield 35, 3) := by decide +kernel
theorem dX11_told_128 : decode cX11_told 128 = .ok (.invokevirtual 232, 3) := by decide +kernel
theorem dX11_told_131 : decode cX11_told 131 = .ok (.ireturn, 1) := by decide +kernel
theorem dX11_told_132 : decode cX11_told 132 = .ok (.aload_n 0, 1) := by decide +kernel
theorem dX11_told_133 : decode cX11_told 133 = .ok (.invokevirtual 235, 3) := by decide +kernel
theorem dX11_told_136 : decode cX11_told 136 = .ok (.ireturn, 1) := by decide +kernel
theorem dX11_leastHold_0 : decode cX11_leastHold 0 = .ok (.aload_n 0, 1) := by decide +kernel
theorem dX11_leastHold_1 : decode cX11_leastHold 1 = .ok (.getfield 35, 3) := by decide +kernel
theorem dX11_leastHold_4 : decode cX11_leastHold 4 = .ok (.getfield 226, 3) := by decide +kernel
theorem dX11_leastHold_7 : decode cX11_leastHold 7 = .ok (.bipush 8, 2) := by decide +kernel
theorem dX11_leastHold_9 : decode cX11_leastHold 9 = .ok (.if_icmp .le 6, 3) := by decide +kernel
theorem dX11_leastHold_12 : decode cX11_leastHold 12 = .ok (.bipush (-5), 2) := by decide +kernel
theorem dX11_leastHold_14 : decode cX11_leastHold 14 = .ok (.ireturn, 1) := by decide +kernel
theorem dX11_leastHold_15 : decode cX11_leastHold 15 = .ok (.aload_n 0, 1) := by decide +kernel
theorem dX11_leastHold_16 : decode cX11_leastHold 16 = .ok (.getfield 42, 3) := by decide +kernel
theorem dX11_leastHold_19 : decode cX11_leastHold 19 = .ok (.aload_n 0, 1) := by decide +kernel
theorem dX11_leastHold_20 : decode cX11_leastHold 20 = .ok (.getfield 14, 3) := by decide +kernel
theorem dX11_leastHold_23 : decode cX11_leastHold 23 = .ok (.getfield 60, 3) := by decide +kernel
theorem dX11_leastHold_26 : decode cX11_leastHold 26 = .ok (.aload_n 0, 1) := by decide +kernel
theorem dX11_leastHold_27 : decode cX11_leastHold 27 = .ok (.getfield 35, 3) := by decide +kernel
theorem dX11_leastHold_30 : decode cX11_leastHold 30 = .ok (.invokevirtual 238, 3) := by decide +kernel
theorem dX11_leastHold_33 : decode cX11_leastHold 33 = .ok (.ireturn, 1) := by decide +kernel
theorem dX11_when_0 : decode cX11_when 0 = .ok (.iload_n 1, 1) := by decide +kernel
theorem dX11_when_1 : decode cX11_when 1 = .ok (.ifCond .ge 5, 3) := by decide +kernel
theorem dX11_when_4 : decode cX11_when 4 = .ok (.iconst (-1), 1) := by decide +kernel
theorem dX11_when_5 : decode cX11_when 5 = .ok (.ireturn, 1) := by decide +kernel
theorem dX11_when_6 : decode cX11_when 6 = .ok (.aload_n 0, 1) := by decide +kernel
theorem dX11_when_7 : decode cX11_when 7 = .ok (.getfield 35, 3) := by decide +kernel
theorem dX11_when_10 : decode cX11_when 10 = .ok (.aload_n 0, 1) := by decide +kernel
theorem dX11_when_11 : decode cX11_when 11 = .ok (.getfield 14, 3) := by decide +kernel
theorem dX11_when_14 : decode cX11_when 14 = .ok (.getfield 60, 3) := by decide +kernel
theorem dX11_when_17 : decode cX11_when 17 = .ok (.invokevirtual 170, 3) := by decide +kernel
theorem dX11_when_20 : decode cX11_when 20 = .ok (.iload_n 1, 1) := by decide +kernel
theorem dX11_when_21 : decode cX11_when 21 = .ok (.aload_n 0, 1) := by decide +kernel
theorem dX11_when_22 : decode cX11_when 22 = .ok (.getfield 35, 3) := by decide +kernel
theorem dX11_when_25 : decode cX11_when 25 = .ok (.getfield 242, 3) := by decide +kernel
theorem dX11_when_28 : decode cX11_when 28 = .ok (.if_icmp .ge 15, 3) := by decide +kernel
theorem dX11_when_31 : decode cX11_when 31 = .ok (.aload_n 0, 1) := by decide +kernel
theorem dX11_when_32 : decode cX11_when 32 = .ok (.getfield 35, 3) := by decide +kernel
theorem dX11_when_35 : decode cX11_when 35 = .ok (.getfield 245, 3) := by decide +kernel
theorem dX11_when_38 : decode cX11_when 38 = .ok (.iload_n 1, 1) := by decide +kernel
theorem dX11_when_39 : decode cX11_when 39 = .ok (.iaload, 1) := by decide +kernel
theorem dX11_when_40 : decode cX11_when 40 = .ok (.goto 5, 3) := by decide +kernel
theorem dX11_when_43 : decode cX11_when 43 = .ok (.bipush (-5), 2) := by decide +kernel
theorem dX11_when_45 : decode cX11_when 45 = .ok (.ireturn, 1) := by decide +kernel
theorem dX11_on_0 : decode cX11_on 0 = .ok (.aload_n 0, 1) := by decide +kernel
theorem dX11_on_1 : decode cX11_on 1 = .ok (.getfield 14, 3) := by decide +kernel
theorem dX11_on_4 : decode cX11_on 4 = .ok (.getfield 60, 3) := by decide +kernel
theorem dX11_on_7 : decode cX11_on 7 = .ok (.iload_n 2, 1) := by decide +kernel
theorem dX11_on_8 : decode cX11_on 8 = .ok (.invokevirtual 71, 3) := by decide +kernel
theorem dX11_on_11 : decode cX11_on 11 = .ok (.ifCond .ne 5, 3) := by decide +kernel
theorem dX11_on_14 : decode cX11_on 14 = .ok (.iconst (-1), 1) := by decide +kernel
theorem dX11_on_15 : decode cX11_on 15 = .ok (.ireturn, 1) := by decide +kernel
theorem dX11_on_16 : decode cX11_on 16 = .ok (.iload_n 1, 1) := by decide +kernel
theorem dX11_on_17 : decode cX11_on 17 = .ok (.ifCond .lt 9, 3) := by decide +kernel
theorem dX11_on_20 : decode cX11_on 20 = .ok (.iload_n 1, 1) := by decide +kernel
theorem dX11_on_21 : decode cX11_on 21 = .ok (.bipush 9, 2) := by decide +kernel
theorem dX11_on_23 : decode cX11_on 23 = .ok (.if_icmp .le 6, 3) := by decide +kernel
theorem dX11_on_26 : decode cX11_on 26 = .ok (.bipush (-2), 2) := by decide +kernel
theorem dX11_on_28 : decode cX11_on 28 = .ok (.ireturn, 1) := by decide +kernel
theorem dX11_on_29 : decode cX11_on 29 = .ok (.aload_n 0, 1) := by decide +kernel
theorem dX11_on_30 : decode cX11_on 30 = .ok (.getfield 14, 3) := by decide +kernel
theorem dX11_on_33 : decode cX11_on 33 = .ok (.getfield 60, 3) := by decide +kernel
theorem dX11_on_36 : decode cX11_on 36 = .ok (.getfield 75, 3) := by decide +kernel
theorem dX11_on_39 : decode cX11_on 39 = .ok (.iload_n 2, 1) := by decide +kernel
theorem dX11_on_40 : decode cX11_on 40 = .ok (.aaload, 1) := by decide +kernel
theorem dX11_on_41 : decode cX11_on 41 = .ok (.getfield 79, 3) := by decide +kernel
theorem dX11_on_44 : decode cX11_on 44 = .ok (.ireturn, 1) := by decide +kernel
theorem dX11_then_0 : decode cX11_then 0 = .ok (.iload_n 1, 1) := by decide +kernel
theorem dX11_then_1 : decode cX11_then 1 = .ok (.ifCond .lt 23, 3) := by decide +kernel
theorem dX11_then_4 : decode cX11_then 4 = .ok (.iload_n 1, 1) := by decide +kernel
theorem dX11_then_5 : decode cX11_then 5 = .ok (.bipush 9, 2) := by decide +kernel
theorem dX11_then_7 : decode cX11_then 7 = .ok (.if_icmp .gt 17, 3) := by decide +kernel
theorem dX11_then_10 : decode cX11_then 10 = .ok (.aload_n 0, 1) := by decide +kernel
theorem dX11_then_11 : decode cX11_then 11 = .ok (.getfield 14, 3) := by decide +kernel
theorem dX11_then_14 : decode cX11_then 14 = .ok (.getfield 60, 3) := by decide +kernel
theorem dX11_then_17 : decode cX11_then 17 = .ok (.iload_n 2, 1) := by decide +kernel
theorem dX11_then_18 : decode cX11_then 18 = .ok (.invokevirtual 71, 3) := by decide +kernel
theorem dX11_then_21 : decode cX11_then 21 = .ok (.ifCond .ne 7, 3) := by decide +kernel
theorem dX11_then_24 : decode cX11_then 24 = .ok (.ldc2_w 205, 3) := by decide +kernel
theorem dX11_then_27 : decode cX11_then 27 = .ok (.lreturn, 1) := by decide +kernel
theorem dX11_then_28 : decode cX11_then 28 = .ok (.aload_n 0, 1) := by decide +kernel
theorem dX11_then_29 : decode cX11_then 29 = .ok (.getfield 28, 3) := by decide +kernel
theorem dX11_then_32 : decode cX11_then 32 = .ok (.aload_n 0, 1) := by decide +kernel
theorem dX11_then_33 : decode cX11_then 33 = .ok (.getfield 14, 3) := by decide +kernel
theorem dX11_then_36 : decode cX11_then 36 = .ok (.getfield 60, 3) := by decide +kernel
theorem dX11_then_39 : decode cX11_then 39 = .ok (.invokevirtual 248, 3) := by decide +kernel
