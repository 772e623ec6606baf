theorem dX0_ofThing_0 : decode cX0_ofThing 0 = .ok (.iload_n 0, 1) := by decide +kernel
theorem dX0_ofThing_1 : decode cX0_ofThing 1 = .ok (.bipush 97, 2) := by decide +kernel
theorem dX0_ofThing_3 : decode cX0_ofThing 3 = .ok (.if_icmp .lt 18, 3) := by decide +kernel
theorem dX0_ofThing_6 : decode cX0_ofThing 6 = .ok (.iload_n 0, 1) := by decide +kernel
theorem dX0_ofThing_7 : decode cX0_ofThing 7 = .ok (.bipush 104, 2) := by decide +kernel
theorem dX0_ofThing_9 : decode cX0_ofThing 9 = .ok (.if_icmp .gt 12, 3) := by decide +kernel
theorem dX0_ofThing_12 : decode cX0_ofThing 12 = .ok (.sipush 1000, 3) := by decide +kernel
theorem dX0_ofThing_15 : decode cX0_ofThing 15 = .ok (.iload_n 0, 1) := by decide +kernel
theorem dX0_ofThing_16 : decode cX0_ofThing 16 = .ok (.iadd, 1) := by decide +kernel
theorem dX0_ofThing_17 : decode cX0_ofThing 17 = .ok (.bipush 97, 2) := by decide +kernel
theorem dX0_ofThing_19 : decode cX0_ofThing 19 = .ok (.isub, 1) := by decide +kernel
theorem dX0_ofThing_20 : decode cX0_ofThing 20 = .ok (.ireturn, 1) := by decide +kernel
theorem dX0_ofThing_21 : decode cX0_ofThing 21 = .ok (.iload_n 0, 1) := by decide +kernel
theorem dX0_ofThing_22 : decode cX0_ofThing 22 = .ok (.bipush 65, 2) := by decide +kernel
theorem dX0_ofThing_24 : decode cX0_ofThing 24 = .ok (.if_icmp .lt 18, 3) := by decide +kernel
theorem dX0_ofThing_27 : decode cX0_ofThing 27 = .ok (.iload_n 0, 1) := by decide +kernel
theorem dX0_ofThing_28 : decode cX0_ofThing 28 = .ok (.bipush 68, 2) := by decide +kernel
theorem dX0_ofThing_30 : decode cX0_ofThing 30 = .ok (.if_icmp .gt 12, 3) := by decide +kernel
theorem dX0_ofThing_33 : decode cX0_ofThing 33 = .ok (.sipush 1010, 3) := by decide +kernel
theorem dX0_ofThing_36 : decode cX0_ofThing 36 = .ok (.iload_n 0, 1) := by decide +kernel
theorem dX0_ofThing_37 : decode cX0_ofThing 37 = .ok (.iadd, 1) := by decide +kernel
theorem dX0_ofThing_38 : decode cX0_ofThing 38 = .ok (.bipush 65, 2) := by decide +kernel
theorem dX0_ofThing_40 : decode cX0_ofThing 40 = .ok (.isub, 1) := by decide +kernel
theorem dX0_ofThing_41 : decode cX0_ofThing 41 = .ok (.ireturn, 1) := by decide +kernel
theorem dX0_ofThing_42 : decode cX0_ofThing 42 = .ok (.iload_n 1, 1) := by decide +kernel
theorem dX0_ofThing_43 : decode cX0_ofThing 43 = .ok (.ifCond .ne 5, 3) := by decide +kernel
theorem dX0_ofThing_46 : decode cX0_ofThing 46 = .ok (.iconst (-1), 1) := by decide +kernel
theorem dX0_ofThing_47 : decode cX0_ofThing 47 = .ok (.ireturn, 1) := by decide +kernel
theorem dX0_ofThing_48 : decode cX0_ofThing 48 = .ok (.iload_n 0, 1) := by decide +kernel
theorem dX0_ofThing_49 : decode cX0_ofThing 49 = .ok (.lookupswitch 59 #[(70, 43), (80, 47), (83, 51), (87, 55)], 43) := by decide +kernel
theorem dX0_ofThing_92 : decode cX0_ofThing 92 = .ok (.sipush 1020, 3) := by decide +kernel
theorem dX0_ofThing_95 : decode cX0_ofThing 95 = .ok (.ireturn, 1) := by decide +kernel
theorem dX0_ofThing_96 : decode cX0_ofThing 96 = .ok (.sipush 1021, 3) := by decide +kernel
theorem dX0_ofThing_99 : decode cX0_ofThing 99 = .ok (.ireturn, 1) := by decide +kernel
theorem dX0_ofThing_100 : decode cX0_ofThing 100 = .ok (.sipush 1022, 3) := by decide +kernel
theorem dX0_ofThing_103 : decode cX0_ofThing 103 = .ok (.ireturn, 1) := by decide +kernel
theorem dX0_ofThing_104 : decode cX0_ofThing 104 = .ok (.sipush 1023, 3) := by decide +kernel
theorem dX0_ofThing_107 : decode cX0_ofThing 107 = .ok (.ireturn, 1) := by decide +kernel
theorem dX0_ofThing_108 : decode cX0_ofThing 108 = .ok (.iconst (-1), 1) := by decide +kernel
theorem dX0_ofThing_109 : decode cX0_ofThing 109 = .ok (.ireturn, 1) := by decide +kernel
theorem dX0_ofJoint_0 : decode cX0_ofJoint 0 = .ok (.iload_n 0, 1) := by decide +kernel
theorem dX0_ofJoint_1 : decode cX0_ofJoint 1 = .ok (.lookupswitch 95 #[(38, 71), (43, 87), (45, 91), (60, 75), (61, 83), (62, 79), (124, 67)], 67) := by decide +kernel
theorem dX0_ofJoint_68 : decode cX0_ofJoint 68 = .ok (.sipush 1030, 3) := by decide +kernel
theorem dX0_ofJoint_71 : decode cX0_ofJoint 71 = .ok (.ireturn, 1) := by decide +kernel
theorem dX0_ofJoint_72 : decode cX0_ofJoint 72 = .ok (.sipush 1031, 3) := by decide +kernel
theorem dX0_ofJoint_75 : decode cX0_ofJoint 75 = .ok (.ireturn, 1) := by decide +kernel
theorem dX0_ofJoint_76 : decode cX0_ofJoint 76 = .ok (.sipush 1032, 3) := by decide +kernel
theorem dX0_ofJoint_79 : decode cX0_ofJoint 79 = .ok (.ireturn, 1) := by decide +kernel
theorem dX0_ofJoint_80 : decode cX0_ofJoint 80 = .ok (.sipush 1033, 3) := by decide +kernel
theorem dX0_ofJoint_83 : decode cX0_ofJoint 83 = .ok (.ireturn, 1) := by decide +kernel
theorem dX0_ofJoint_84 : decode cX0_ofJoint 84 = .ok (.sipush 1034, 3) := by decide +kernel
theorem dX0_ofJoint_87 : decode cX0_ofJoint 87 = .ok (.ireturn, 1) := by decide +kernel
theorem dX0_ofJoint_88 : decode cX0_ofJoint 88 = .ok (.sipush 1035, 3) := by decide +kernel
theorem dX0_ofJoint_91 : decode cX0_ofJoint 91 = .ok (.ireturn, 1) := by decide +kernel
theorem dX0_ofJoint_92 : decode cX0_ofJoint 92 = .ok (.sipush 1036, 3) := by decide +kernel
theorem dX0_ofJoint_95 : decode cX0_ofJoint 95 = .ok (.ireturn, 1) := by decide +kernel
theorem dX0_ofJoint_96 : decode cX0_ofJoint 96 = .ok (.iconst (-1), 1) := by decide +kernel
theorem dX0_ofJoint_97 : decode cX0_ofJoint 97 = .ok (.ireturn, 1) := by decide +kernel
theorem dX0_rank_0 : decode cX0_rank 0 = .ok (.iload_n 0, 1) := by decide +kernel
theorem dX0_rank_1 : decode cX0_rank 1 = .ok (.tableswitch 65 1030 1039 #[57, 59, 61, 61, 61, 63, 63, 65, 65, 55], 55) := by decide +kernel
theorem dX0_rank_56 : decode cX0_rank 56 = .ok (.iconst 0, 1) := by decide +kernel
theorem dX0_rank_57 : decode cX0_rank 57 = .ok (.ireturn, 1) := by decide +kernel
theorem dX0_rank_58 : decode cX0_rank 58 = .ok (.iconst 1, 1) := by decide +kernel
theorem dX0_rank_59 : decode cX0_rank 59 = .ok (.ireturn, 1) := by decide +kernel
theorem dX0_rank_60 : decode cX0_rank 60 = .ok (.iconst 2, 1) := by decide +kernel
theorem dX0_rank_61 : decode cX0_rank 61 = .ok (.ireturn, 1) := by decide +kernel
theorem dX0_rank_62 : decode cX0_rank 62 = .ok (.iconst 3, 1) := by decide +kernel
theorem dX0_rank_63 : decode cX0_rank 63 = .ok (.ireturn, 1) := by decide +kernel
theorem dX0_rank_64 : decode cX0_rank 64 = .ok (.iconst 4, 1) := by decide +kernel
theorem dX0_rank_65 : decode cX0_rank 65 = .ok (.ireturn, 1) := by decide +kernel
theorem dX0_rank_66 : decode cX0_rank 66 = .ok (.iconst 5, 1) := by decide +kernel
theorem dX0_rank_67 : decode cX0_rank 67 = .ok (.ireturn, 1) := by decide +kernel
theorem dX1_init_0 : decode cX1_init 0 = .ok (.aload_n 0, 1) := by decide +kernel
theorem dX1_init_1 : decode cX1_init 1 = .ok (.invokespecial 3, 3) := by decide +kernel
theorem dX1_init_4 : decode cX1_init 4 = .ok (.aload_n 0, 1) := by decide +kernel
theorem dX1_init_5 : decode cX1_init 5 = .ok (.bipush 12, 2) := by decide +kernel
theorem dX1_init_7 : decode cX1_init 7 = .ok (.newarray .int, 2) := by decide +kernel
theorem dX1_init_9 : decode cX1_init 9 = .ok (.putfield 11, 3) := by decide +kernel
theorem dX1_init_12 : decode cX1_init 12 = .ok (.aload_n 0, 1) := by decide +kernel
theorem dX1_init_13 : decode cX1_init 13 = .ok (.bipush 12, 2) := by decide +kernel
theorem dX1_init_15 : decode cX1_init 15 = .ok (.newarray .int, 2) := by decide +kernel
theorem dX1_init_17 : decode cX1_init 17 = .ok (.putfield 15, 3) := by decide +kernel
theorem dX1_init_20 : decode cX1_init 20 = .ok (.aload_n 0, 1) := by decide +kernel
theorem dX1_init_21 : decode cX1_init 21 = .ok (.bipush 12, 2) := by decide +kernel
theorem dX1_init_23 : decode cX1_init 23 = .ok (.newarray .int, 2) := by decide +kernel
theorem dX1_init_25 : decode cX1_init 25 = .ok (.putfield 18, 3) := by decide +kernel
theorem dX1_init_28 : decode cX1_init 28 = .ok (.aload_n 0, 1) := by decide +kernel
theorem dX1_init_29 : decode cX1_init 29 = .ok (.bipush 12, 2) := by decide +kernel
theorem dX1_init_31 : decode cX1_init 31 = .ok (.newarray .int, 2) := by decide +kernel
theorem dX1_init_33 : decode cX1_init 33 = .ok (.putfield 21, 3) := by decide +kernel
theorem dX1_init_36 : decode cX1_init 36 = .ok (.aload_n 0, 1) := by decide +kernel
theorem dX1_init_37 : decode cX1_init 37 = .ok (.bipush 12, 2) := by decide +kernel
theorem dX1_init_39 : decode cX1_init 39 = .ok (.newarray .int, 2) := by decide +kernel
theorem dX1_init_41 : decode cX1_init 41 = .ok (.putfield 24, 3) := by decide +kernel
theorem dX1_init_44 : decode cX1_init 44 = .ok (.aload_n 0, 1) := by decide +kernel
theorem dX1_init_45 : decode cX1_init 45 = .ok (.bipush 12, 2) := by decide +kernel
theorem dX1_init_47 : decode cX1_init 47 = .ok (.newarray .int, 2) := by decide +kernel
theorem dX1_init_49 : decode cX1_init 49 = .ok (.putfield 27, 3) := by decide +kernel
theorem dX1_init_52 : decode cX1_init 52 = .ok (.aload_n 0, 1) := by decide +kernel
theorem dX1_init_53 : decode cX1_init 53 = .ok (.bipush 12, 2) := by decide +kernel
theorem dX1_init_55 : decode cX1_init 55 = .ok (.newarray .int, 2) := by decide +kernel
theorem dX1_init_57 : decode cX1_init 57 = .ok (.putfield 30, 3) := by decide +kernel
theorem dX1_init_60 : decode cX1_init 60 = .ok (.aload_n 0, 1) := by decide +kernel
theorem dX1_init_61 : decode cX1_init 61 = .ok (.bipush 12, 2) := by decide +kernel
theorem dX1_init_63 : decode cX1_init 63 = .ok (.newarray .int, 2) := by decide +kernel
theorem dX1_init_65 : decode cX1_init 65 = .ok (.putfield 33, 3) := by decide +kernel
theorem dX1_init_68 : decode cX1_init 68 = .ok (.aload_n 0, 1) := by decide +kernel
theorem dX1_init_69 : decode cX1_init 69 = .ok (.iconst 0, 1) := by decide +kernel
theorem dX1_init_70 : decode cX1_init 70 = .ok (.putfield 36, 3) := by decide +kernel
theorem dX1_init_73 : decode cX1_init 73 = .ok (.aload_n 0, 1) := by decide +kernel
theorem dX1_init_74 : decode cX1_init 74 = .ok (.iconst 0, 1) := by decide +kernel
theorem dX1_init_75 : decode cX1_init 75 = .ok (.putfield 40, 3) := by decide +kernel
theorem dX1_init_78 : decode cX1_init 78 = .ok (.return_, 1) := by decide +kernel
theorem dX1_isHouse_0 : decode cX1_isHouse 0 = .ok (.iload_n 0, 1) := by decide +kernel
theorem dX1_isHouse_1 : decode cX1_isHouse 1 = .ok (.ifCond .lt 13, 3) := by decide +kernel
theorem dX1_isHouse_4 : decode cX1_isHouse 4 = .ok (.iload_n 0, 1) := by decide +kernel
theorem dX1_isHouse_5 : decode cX1_isHouse 5 = .ok (.bipush 6, 2) := by decide +kernel
theorem dX1_isHouse_7 : decode cX1_isHouse 7 = .ok (.if_icmp .ge 7, 3) := by decide +kernel
theorem dX1_isHouse_10 : decode cX1_isHouse 10 = .ok (.iconst 1, 1) := by decide +kernel
theorem dX1_isHouse_11 : decode cX1_isHouse 11 = .ok (.goto 4, 3) := by decide +kernel
theorem dX1_isHouse_14 : decode cX1_isHouse 14 = .ok (.iconst 0, 1) := by decide +kernel
theorem dX1_isHouse_15 : decode cX1_isHouse 15 = .ok (.ireturn, 1) := by decide +kernel
theorem dX1_addCase_0 : decode cX1_addCase 0 = .ok (.aload_n 0, 1) := by decide +kernel
theorem dX1_addCase_1 : decode cX1_addCase 1 = .ok (.getfield 36, 3) := by decide +kernel
theorem dX1_addCase_4 : decode cX1_addCase 4 = .ok (.bipush 12, 2) := by decide +kernel
theorem dX1_addCase_6 : decode cX1_addCase 6 = .ok (.if_icmp .lt 5, 3) := by decide +kernel
theorem dX1_addCase_9 : decode cX1_addCase 9 = .ok (.iconst (-1), 1) := by decide +kernel
theorem dX1_addCase_10 : decode cX1_addCase 10 = .ok (.ireturn, 1) := by decide +kernel
theorem dX1_addCase_11 : decode cX1_addCase 11 = .ok (.aload_n 0, 1) := by decide +kernel
theorem dX1_addCase_12 : decode cX1_addCase 12 = .ok (.getfield 11, 3) := by decide +kernel
theorem dX1_addCase_15 : decode cX1_addCase 15 = .ok (.aload_n 0, 1) := by decide +kernel
theorem dX1_addCase_16 : decode cX1_addCase 16 = .ok (.getfield 36, 3) := by decide +kernel
theorem dX1_addCase_19 : decode cX1_addCase 19 = .ok (.iload_n 1, 1) := by decide +kernel
theorem dX1_addCase_20 : decode cX1_addCase 20 = .ok (.iastore, 1) := by decide +kernel
theorem dX1_addCase_21 : decode cX1_addCase 21 = .ok (.aload_n 0, 1) := by decide +kernel
theorem dX1_addCase_22 : decode cX1_addCase 22 = .ok (.getfield 15, 3) := by decide +kernel
theorem dX1_addCase_25 : decode cX1_addCase 25 = .ok (.aload_n 0, 1) := by decide +kernel
theorem dX1_addCase_26 : decode cX1_addCase 26 = .ok (.getfield 36, 3) := by decide +kernel
theorem dX1_addCase_29 : decode cX1_addCase 29 = .ok (.iload_n 2, 1) := by decide +kernel
theorem dX1_addCase_30 : decode cX1_addCase 30 = .ok (.iastore, 1) := by decide +kernel
theorem dX1_addCase_31 : decode cX1_addCase 31 = .ok (.aload_n 0, 1) := by decide +kernel
theorem dX1_addCase_32 : decode cX1_addCase 32 = .ok (.getfield 18, 3) := by decide +kernel
theorem dX1_addCase_35 : decode cX1_addCase 35 = .ok (.aload_n 0, 1) := by decide +kernel
theorem dX1_addCase_36 : decode cX1_addCase 36 = .ok (.getfield 36, 3) := by decide +kernel
theorem dX1_addCase_39 : decode cX1_addCase 39 = .ok (.iload_n 3, 1) := by decide +kernel
theorem dX1_addCase_40 : decode cX1_addCase 40 = .ok (.iastore, 1) := by decide +kernel
theorem dX1_addCase_41 : decode cX1_addCase 41 = .ok (.aload_n 0, 1) := by decide +kernel
theorem dX1_addCase_42 : decode cX1_addCase 42 = .ok (.dup, 1) := by decide +kernel
theorem dX1_addCase_43 : decode cX1_addCase 43 = .ok (.getfield 36, 3) := by decide +kernel
theorem dX1_addCase_46 : decode cX1_addCase 46 = .ok (.iconst 1, 1) := by decide +kernel
theorem dX1_addCase_47 : decode cX1_addCase 47 = .ok (.iadd, 1) := by decide +kernel
theorem dX1_addCase_48 : decode cX1_addCase 48 = .ok (.putfield 36, 3) := by decide +kernel
theorem dX1_addCase_51 : decode cX1_addCase 51 = .ok (.aload_n 0, 1) := by decide +kernel
theorem dX1_addCase_52 : decode cX1_addCase 52 = .ok (.invokevirtual 43, 3) := by decide +kernel
theorem dX1_addCase_55 : decode cX1_addCase 55 = .ok (.aload_n 0, 1) := by decide +kernel
theorem dX1_addCase_56 : decode cX1_addCase 56 = .ok (.getfield 36, 3) := by decide +kernel
theorem dX1_addCase_59 : decode cX1_addCase 59 = .ok (.iconst 1, 1) := by decide +kernel
theorem dX1_addCase_60 : decode cX1_addCase 60 = .ok (.isub, 1) := by decide +kernel
theorem dX1_addCase_61 : decode cX1_addCase 61 = .ok (.ireturn, 1) := by decide +kernel
theorem dX1_addLetter_0 : decode cX1_addLetter 0 = .ok (.aload_n 0, 1) := by decide +kernel
theorem dX1_addLetter_1 : decode cX1_addLetter 1 = .ok (.getfield 40, 3) := by decide +kernel
theorem dX1_addLetter_4 : decode cX1_addLetter 4 = .ok (.bipush 12, 2) := by decide +kernel
theorem dX1_addLetter_6 : decode cX1_addLetter 6 = .ok (.if_icmp .lt 5, 3) := by decide +kernel
theorem dX1_addLetter_9 : decode cX1_addLetter 9 = .ok (.iconst (-1), 1) := by decide +kernel
theorem dX1_addLetter_10 : decode cX1_addLetter 10 = .ok (.ireturn, 1) := by decide +kernel
theorem dX1_addLetter_11 : decode cX1_addLetter 11 = .ok (.aload_n 0, 1) := by decide +kernel
theorem dX1_addLetter_12 : decode cX1_addLetter 12 = .ok (.getfield 21, 3) := by decide +kernel
theorem dX1_addLetter_15 : decode cX1_addLetter 15 = .ok (.aload_n 0, 1) := by decide +kernel
theorem dX1_addLetter_16 : decode cX1_addLetter 16 = .ok (.getfield 40, 3) := by decide +kernel
theorem dX1_addLetter_19 : decode cX1_addLetter 19 = .ok (.iload_n 1, 1) := by decide +kernel
theorem dX1_addLetter_20 : decode cX1_addLetter 20 = .ok (.iastore, 1) := by decide +kernel
theorem dX1_addLetter_21 : decode cX1_addLetter 21 = .ok (.aload_n 0, 1) := by decide +kernel
theorem dX1_addLetter_22 : decode cX1_addLetter 22 = .ok (.getfield 24, 3) := by decide +kernel
theorem dX1_addLetter_25 : decode cX1_addLetter 25 = .ok (.aload_n 0, 1) := by decide +kernel
theorem dX1_addLetter_26 : decode cX1_addLetter 26 = .ok (.getfield 40, 3) := by decide +kernel
theorem dX1_addLetter_29 : decode cX1_addLetter 29 = .ok (.iload_n 2, 1) := by decide +kernel
theorem dX1_addLetter_30 : decode cX1_addLetter 30 = .ok (.iastore, 1) := by decide +kernel
theorem dX1_addLetter_31 : decode cX1_addLetter 31 = .ok (.aload_n 0, 1) := by decide +kernel
theorem dX1_addLetter_32 : decode cX1_addLetter 32 = .ok (.getfield 27, 3) := by decide +kernel
theorem dX1_addLetter_35 : decode cX1_addLetter 35 = .ok (.aload_n 0, 1) := by decide +kernel
theorem dX1_addLetter_36 : decode cX1_addLetter 36 = .ok (.getfield 40, 3) := by decide +kernel
theorem dX1_addLetter_39 : decode cX1_addLetter 39 = .ok (.iload_n 3, 1) := by decide +kernel
theorem dX1_addLetter_40 : decode cX1_addLetter 40 = .ok (.iastore, 1) := by decide +kernel
theorem dX1_addLetter_41 : decode cX1_addLetter 41 = .ok (.aload_n 0, 1) := by decide +kernel
theorem dX1_addLetter_42 : decode cX1_addLetter 42 = .ok (.getfield 30, 3) := by decide +kernel
theorem dX1_addLetter_45 : decode cX1_addLetter 45 = .ok (.aload_n 0, 1) := by decide +kernel
theorem dX1_addLetter_46 : decode cX1_addLetter 46 = .ok (.getfield 40, 3) := by decide +kernel
theorem dX1_addLetter_49 : decode cX1_addLetter 49 = .ok (.iload_n 3, 1) := by decide +kernel
theorem dX1_addLetter_50 : decode cX1_addLetter 50 = .ok (.iload 4, 2) := by decide +kernel
theorem dX1_addLetter_52 : decode cX1_addLetter 52 = .ok (.iadd, 1) := by decide +kernel
theorem dX1_addLetter_53 : decode cX1_addLetter 53 = .ok (.iastore, 1) := by decide +kernel
theorem dX1_addLetter_54 : decode cX1_addLetter 54 = .ok (.aload_n 0, 1) := by decide +kernel
theorem dX1_addLetter_55 : decode cX1_addLetter 55 = .ok (.getfield 33, 3) := by decide +kernel
theorem dX1_addLetter_58 : decode cX1_addLetter 58 = .ok (.aload_n 0, 1) := by decide +kernel
theorem dX1_addLetter_59 : decode cX1_addLetter 59 = .ok (.getfield 40, 3) := by decide +kernel
theorem dX1_addLetter_62 : decode cX1_addLetter 62 = .ok (.iconst 0, 1) := by decide +kernel
theorem dX1_addLetter_63 : decode cX1_addLetter 63 = .ok (.iastore, 1) := by decide +kernel
theorem dX1_addLetter_64 : decode cX1_addLetter 64 = .ok (.aload_n 0, 1) := by decide +kernel
theorem dX1_addLetter_65 : decode cX1_addLetter 65 = .ok (.dup, 1) := by decide +kernel
theorem dX1_addLetter_66 : decode cX1_addLetter 66 = .ok (.getfield 40, 3) := by decide +kernel
theorem dX1_addLetter_69 : decode cX1_addLetter 69 = .ok (.iconst 1, 1) := by decide +kernel
theorem dX1_addLetter_70 : decode cX1_addLetter 70 = .ok (.iadd, 1) := by decide +kernel
theorem dX1_addLetter_71 : decode cX1_addLetter 71 = .ok (.putfield 40, 3) := by decide +kernel
theorem dX1_addLetter_74 : decode cX1_addLetter 74 = .ok (.aload_n 0, 1) := by decide +kernel
theorem dX1_addLetter_75 : decode cX1_addLetter 75 = .ok (.invokevirtual 43, 3) := by decide +kernel
theorem dX1_addLetter_78 : decode cX1_addLetter 78 = .ok (.aload_n 0, 1) := by decide +kernel
theorem dX1_addLetter_79 : decode cX1_addLetter 79 = .ok (.getfield 40, 3) := by decide +kernel
theorem dX1_addLetter_82 : decode cX1_addLetter 82 = .ok (.ireturn, 1) := by decide +kernel
theorem dX1_settle_0 : decode cX1_settle 0 = .ok (.iconst 0, 1) := by decide +kernel
theorem dX1_settle_1 : decode cX1_settle 1 = .ok (.istore_n 1, 1) := by decide +kernel
theorem dX1_settle_2 : decode cX1_settle 2 = .ok (.iload_n 1, 1) := by decide +kernel
theorem dX1_settle_3 : decode cX1_settle 3 = .ok (.aload_n 0, 1) := by decide +kernel
theorem dX1_settle_4 : decode cX1_settle 4 = .ok (.getfield 40, 3) := by decide +kernel
theorem dX1_settle_7 : decode cX1_settle 7 = .ok (.if_icmp .ge 47, 3) := by decide +kernel
theorem dX1_settle_10 : decode cX1_settle 10 = .ok (.iconst 0, 1) := by decide +kernel
theorem dX1_settle_11 : decode cX1_settle 11 = .ok (.istore_n 2, 1) := by decide +kernel
theorem dX1_settle_12 : decode cX1_settle 12 = .ok (.iload_n 2, 1) := by decide +kernel
theorem dX1_settle_13 : decode cX1_settle 13 = .ok (.aload_n 0, 1) := by decide +kernel
theorem dX1_settle_14 : decode cX1_settle 14 = .ok (.getfield 40, 3) := by decide +kernel
theorem dX1_settle_17 : decode cX1_settle 17 = .ok (.if_icmp .ge 31, 3) := by decide +kernel
theorem dX1_settle_20 : decode cX1_settle 20 = .ok (.aload_n 0, 1) := by decide +kernel
theorem dX1_settle_21 : decode cX1_settle 21 = .ok (.getfield 33, 3) := by decide +kernel
theorem dX1_settle_24 : decode cX1_settle 24 = .ok (.iload_n 2, 1) := by decide +kernel
theorem dX1_settle_25 : decode cX1_settle 25 = .ok (.aload_n 0, 1) := by decide +kernel
theorem dX1_settle_26 : decode cX1_settle 26 = .ok (.aload_n 0, 1) := by decide +kernel
theorem dX1_settle_27 : decode cX1_settle 27 = .ok (.getfield 21, 3) := by decide +kernel
theorem dX1_settle_30 : decode cX1_settle 30 = .ok (.iload_n 2, 1) := by decide +kernel
theorem dX1_settle_31 : decode cX1_settle 31 = .ok (.iaload, 1) := by decide +kernel
theorem dX1_settle_32 : decode cX1_settle 32 = .ok (.aload_n 0, 1) := by decide +kernel
theorem dX1_settle_33 : decode cX1_settle 33 = .ok (.getfield 27, 3) := by decide +kernel
theorem dX1_settle_36 : decode cX1_settle 36 = .ok (.iload_n 2, 1) := by decide +kernel
theorem dX1_settle_37 : decode cX1_settle 37 = .ok (.iaload, 1) := by decide +kernel
theorem dX1_settle_38 : decode cX1_settle 38 = .ok (.invokevirtual 46, 3) := by decide +kernel
theorem dX1_settle_41 : decode cX1_settle 41 = .ok (.iastore, 1) := by decide +kernel
theorem dX1_settle_42 : decode cX1_settle 42 = .ok (.iinc 2 1, 3) := by decide +kernel
theorem dX1_settle_45 : decode cX1_settle 45 = .ok (.goto (-33), 3) := by decide +kernel
theorem dX1_settle_48 : decode cX1_settle 48 = .ok (.iinc 1 1, 3) := by decide +kernel
theorem dX1_settle_51 : decode cX1_settle 51 = .ok (.goto (-49), 3) := by decide +kernel
theorem dX1_settle_54 : decode cX1_settle 54 = .ok (.return_, 1) := by decide +kernel
theorem dX1_known_0 : decode cX1_known 0 = .ok (.iconst 0, 1) := by decide +kernel
theorem dX1_known_1 : decode cX1_known 1 = .ok (.istore_n 3, 1) := by decide +kernel
theorem dX1_known_2 : decode cX1_known 2 = .ok (.iconst 0, 1) := by decide +kernel
theorem dX1_known_3 : decode cX1_known 3 = .ok (.istore 4, 2) := by decide +kernel
theorem dX1_known_5 : decode cX1_known 5 = .ok (.iload 4, 2) := by decide +kernel
theorem dX1_known_7 : decode cX1_known 7 = .ok (.aload_n 0, 1) := by decide +kernel
theorem dX1_known_8 : decode cX1_known 8 = .ok (.getfield 36, 3) := by decide +kernel
theorem dX1_known_11 : decode cX1_known 11 = .ok (.if_icmp .ge 38, 3) := by decide +kernel
theorem dX1_known_14 : decode cX1_known 14 = .ok (.aload_n 0, 1) := by decide +kernel
theorem dX1_known_15 : decode cX1_known 15 = .ok (.getfield 11, 3) := by decide +kernel
theorem dX1_known_18 : decode cX1_known 18 = .ok (.iload 4, 2) := by decide +kernel
theorem dX1_known_20 : decode cX1_known 20 = .ok (.iaload, 1) := by decide +kernel
theorem dX1_known_21 : decode cX1_known 21 = .ok (.iload_n 1, 1) := by decide +kernel
theorem dX1_known_22 : decode cX1_known 22 = .ok (.if_icmp .ne 21, 3) := by decide +kernel
theorem dX1_known_25 : decode cX1_known 25 = .ok (.aload_n 0, 1) := by decide +kernel
theorem dX1_known_26 : decode cX1_known 26 = .ok (.getfield 15, 3) := by decide +kernel
theorem dX1_known_29 : decode cX1_known 29 = .ok (.iload 4, 2) := by decide +kernel
theorem dX1_known_31 : decode cX1_known 31 = .ok (.iaload, 1) := by decide +kernel
theorem dX1_known_32 : decode cX1_known 32 = .ok (.iload_n 2, 1) := by decide +kernel
theorem dX1_known_33 : decode cX1_known 33 = .ok (.if_icmp .gt 10, 3) := by decide +kernel
theorem dX1_known_36 : decode cX1_known 36 = .ok (.iload_n 3, 1) := by decide +kernel
theorem dX1_known_37 : decode cX1_known 37 = .ok (.iconst 1, 1) := by decide +kernel
theorem dX1_known_38 : decode cX1_known 38 = .ok (.iload 4, 2) := by decide +kernel
theorem dX1_known_40 : decode cX1_known 40 = .ok (.ishl, 1) := by decide +kernel
theorem dX1_known_41 : decode cX1_known 41 = .ok (.ior, 1) := by decide +kernel
theorem dX1_known_42 : decode cX1_known 42 = .ok (.istore_n 3, 1) := by decide +kernel
theorem dX1_known_43 : decode cX1_known 43 = .ok (.iinc 4 1, 3) := by decide +kernel
theorem dX1_known_46 : decode cX1_known 46 = .ok (.goto (-41), 3) := by decide +kernel
theorem dX1_known_49 : decode cX1_known 49 = .ok (.iconst 0, 1) := by decide +kernel
theorem dX1_known_50 : decode cX1_known 50 = .ok (.istore 4, 2) := by decide +kernel
theorem dX1_known_52 : decode cX1_known 52 = .ok (.iload 4, 2) := by decide +kernel
theorem dX1_known_54 : decode cX1_known 54 = .ok (.aload_n 0, 1) := by decide +kernel
theorem dX1_known_55 : decode cX1_known 55 = .ok (.getfield 40, 3) := by decide +kernel
theorem dX1_known_58 : decode cX1_known 58 = .ok (.if_icmp .ge 41, 3) := by decide +kernel
theorem dX1_known_61 : decode cX1_known 61 = .ok (.aload_n 0, 1) := by decide +kernel
theorem dX1_known_62 : decode cX1_known 62 = .ok (.getfield 24, 3) := by decide +kernel
theorem dX1_known_65 : decode cX1_known 65 = .ok (.iload 4, 2) := by decide +kernel
theorem dX1_known_67 : decode cX1_known 67 = .ok (.iaload, 1) := by decide +kernel
theorem dX1_known_68 : decode cX1_known 68 = .ok (.iload_n 1, 1) := by decide +kernel
theorem dX1_known_69 : decode cX1_known 69 = .ok (.if_icmp .ne 24, 3) := by decide +kernel
theorem dX1_known_72 : decode cX1_known 72 = .ok (.aload_n 0, 1) := by decide +kernel
theorem dX1_known_73 : decode cX1_known 73 = .ok (.getfield 30, 3) := by decide +kernel
theorem dX1_known_76 : decode cX1_known 76 = .ok (.iload 4, 2) := by decide +kernel
theorem dX1_known_78 : decode cX1_known 78 = .ok (.iaload, 1) := by decide +kernel
theorem dX1_known_79 : decode cX1_known 79 = .ok (.iload_n 2, 1) := by decide +kernel
theorem dX1_known_80 : decode cX1_known 80 = .ok (.if_icmp .gt 13, 3) := by decide +kernel
theorem dX1_known_83 : decode cX1_known 83 = .ok (.iload_n 3, 1) := by decide +kernel
theorem dX1_known_84 : decode cX1_known 84 = .ok (.aload_n 0, 1) := by decide +kernel
theorem dX1_known_85 : decode cX1_known 85 = .ok (.getfield 33, 3) := by decide +kernel
theorem dX1_known_88 : decode cX1_known 88 = .ok (.iload 4, 2) := by decide +kernel
theorem dX1_known_90 : decode cX1_known 90 = .ok (.iaload, 1) := by decide +kernel
theorem dX1_known_91 : decode cX1_known 91 = .ok (.ior, 1) := by decide +kernel
theorem dX1_known_92 : decode cX1_known 92 = .ok (.istore_n 3, 1) := by decide +kernel
theorem dX1_known_93 : decode cX1_known 93 = .ok (.iinc 4 1, 3) := by decide +kernel
theorem dX1_known_96 : decode cX1_known 96 = .ok (.goto (-44), 3) := by decide +kernel
theorem dX1_known_99 : decode cX1_known 99 = .ok (.iload_n 3, 1) := by decide +kernel
theorem dX1_known_100 : decode cX1_known 100 = .ok (.ireturn, 1) := by decide +kernel
theorem dX1_hasEnough_0 : decode cX1_hasEnough 0 = .ok (.iconst 0, 1) := by decide +kernel
theorem dX1_hasEnough_1 : decode cX1_hasEnough 1 = .ok (.istore 4, 2) := by decide +kernel
theorem dX1_hasEnough_3 : decode cX1_hasEnough 3 = .ok (.iconst 0, 1) := by decide +kernel
theorem dX1_hasEnough_4 : decode cX1_hasEnough 4 = .ok (.istore 5, 2) := by decide +kernel
theorem dX1_hasEnough_6 : decode cX1_hasEnough 6 = .ok (.iconst 0, 1) := by decide +kernel
theorem dX1_hasEnough_7 : decode cX1_hasEnough 7 = .ok (.istore 6, 2) := by decide +kernel
theorem dX1_hasEnough_9 : decode cX1_hasEnough 9 = .ok (.iload 6, 2) := by decide +kernel
theorem dX1_hasEnough_11 : decode cX1_hasEnough 11 = .ok (.aload_n 0, 1) := by decide +kernel
theorem dX1_hasEnough_12 : decode cX1_hasEnough 12 = .ok (.getfield 36, 3) := by decide +kernel
theorem dX1_hasEnough_15 : decode cX1_hasEnough 15 = .ok (.if_icmp .ge 55, 3) := by decide +kernel
theorem dX1_hasEnough_18 : decode cX1_hasEnough 18 = .ok (.iload_n 1, 1) := by decide +kernel
theorem dX1_hasEnough_19 : decode cX1_hasEnough 19 = .ok (.iconst 1, 1) := by decide +kernel
theorem dX1_hasEnough_20 : decode cX1_hasEnough 20 = .ok (.iload 6, 2) := by decide +kernel
theorem dX1_hasEnough_22 : decode cX1_hasEnough 22 = .ok (.ishl, 1) := by decide +kernel
theorem dX1_hasEnough_23 : decode cX1_hasEnough 23 = .ok (.iand, 1) := by decide +kernel
theorem dX1_hasEnough_24 : decode cX1_hasEnough 24 = .ok (.ifCond .eq 15, 3) := by decide +kernel
theorem dX1_hasEnough_27 : decode cX1_hasEnough 27 = .ok (.aload_n 0, 1) := by decide +kernel
theorem dX1_hasEnough_28 : decode cX1_hasEnough 28 = .ok (.getfield 18, 3) := by decide +kernel
theorem dX1_hasEnough_31 : decode cX1_hasEnough 31 = .ok (.iload 6, 2) := by decide +kernel
theorem dX1_hasEnough_33 : decode cX1_hasEnough 33 = .ok (.iaload, 1) := by decide +kernel
theorem dX1_hasEnough_34 : decode cX1_hasEnough 34 = .ok (.iload_n 2, 1) := by decide +kernel
theorem dX1_hasEnough_35 : decode cX1_hasEnough 35 = .ok (.iand, 1) := by decide +kernel
theorem dX1_hasEnough_36 : decode cX1_hasEnough 36 = .ok (.goto 4, 3) := by decide +kernel
theorem dX1_hasEnough_39 : decode cX1_hasEnough 39 = .ok (.iconst 0, 1) := by decide +kernel
theorem dX1_hasEnough_40 : decode cX1_hasEnough 40 = .ok (.istore 7, 2) := by decide +kernel
theorem dX1_hasEnough_42 : decode cX1_hasEnough 42 = .ok (.iload 4, 2) := by decide +kernel
theorem dX1_hasEnough_44 : decode cX1_hasEnough 44 = .ok (.iload 7, 2) := by decide +kernel
theorem dX1_hasEnough_46 : decode cX1_hasEnough 46 = .ok (.ior, 1) := by decide +kernel
theorem dX1_hasEnough_47 : decode cX1_hasEnough 47 = .ok (.istore 4, 2) := by decide +kernel
theorem dX1_hasEnough_49 : decode cX1_hasEnough 49 = .ok (.iload 5, 2) := by decide +kernel
theorem dX1_hasEnough_51 : decode cX1_hasEnough 51 = .ok (.iload 7, 2) := by decide +kernel
theorem dX1_hasEnough_53 : decode cX1_hasEnough 53 = .ok (.ifCond .eq 7, 3) := by decide +kernel
theorem dX1_hasEnough_56 : decode cX1_hasEnough 56 = .ok (.iconst 1, 1) := by decide +kernel
theorem dX1_hasEnough_57 : decode cX1_hasEnough 57 = .ok (.goto 4, 3) := by decide +kernel
theorem dX1_hasEnough_60 : decode cX1_hasEnough 60 = .ok (.iconst 0, 1) := by decide +kernel
theorem dX1_hasEnough_61 : decode cX1_hasEnough 61 = .ok (.iadd, 1) := by decide +kernel
theorem dX1_hasEnough_62 : decode cX1_hasEnough 62 = .ok (.istore 5, 2) := by decide +kernel
theorem dX1_hasEnough_64 : decode cX1_hasEnough 64 = .ok (.iinc 6 1, 3) := by decide +kernel
theorem dX1_hasEnough_67 : decode cX1_hasEnough 67 = .ok (.goto (-58), 3) := by decide +kernel
theorem dX1_hasEnough_70 : decode cX1_hasEnough 70 = .ok (.iload 4, 2) := by decide +kernel
theorem dX1_hasEnough_72 : decode cX1_hasEnough 72 = .ok (.iload_n 2, 1) := by decide +kernel
theorem dX1_hasEnough_73 : decode cX1_hasEnough 73 = .ok (.if_icmp .ne 13, 3) := by decide +kernel
theorem dX1_hasEnough_76 : decode cX1_hasEnough 76 = .ok (.iload 5, 2) := by decide +kernel
theorem dX1_hasEnough_78 : decode cX1_hasEnough 78 = .ok (.iload_n 3, 1) := by decide +kernel
theorem dX1_hasEnough_79 : decode cX1_hasEnough 79 = .ok (.if_icmp .lt 7, 3) := by decide +kernel
theorem dX1_hasEnough_82 : decode cX1_hasEnough 82 = .ok (.iconst 1, 1) := by decide +kernel
theorem dX1_hasEnough_83 : decode cX1_hasEnough 83 = .ok (.goto 4, 3) := by decide +kernel
theorem dX1_hasEnough_86 : decode cX1_hasEnough 86 = .ok (.iconst 0, 1) := by decide +kernel
theorem dX1_hasEnough_87 : decode cX1_hasEnough 87 = .ok (.ireturn, 1) := by decide +kernel
theorem dX2_init_0 : decode cX2_init 0 = .ok (.aload_n 0, 1) := by decide +kernel
theorem dX2_init_1 : decode cX2_init 1 = .ok (.invokespecial 3, 3) := by decide +kernel
theorem dX2_init_4 : decode cX2_init 4 = .ok (.aload_n 0, 1) := by decide +kernel
theorem dX2_init_5 : decode cX2_init 5 = .ok (.new 9, 3) := by decide +kernel
theorem dX2_init_8 : decode cX2_init 8 = .ok (.dup, 1) := by decide +kernel
theorem dX2_init_9 : decode cX2_init 9 = .ok (.invokespecial 11, 3) := by decide +kernel
theorem dX2_init_12 : decode cX2_init 12 = .ok (.putfield 12, 3) := by decide +kernel
theorem dX2_init_15 : decode cX2_init 15 = .ok (.aload_n 0, 1) := by decide +kernel
theorem dX2_init_16 : decode cX2_init 16 = .ok (.iconst 4, 1) := by decide +kernel
theorem dX2_init_17 : decode cX2_init 17 = .ok (.newarray .int, 2) := by decide +kernel
theorem dX2_init_19 : decode cX2_init 19 = .ok (.putfield 18, 3) := by decide +kernel
theorem dX2_init_22 : decode cX2_init 22 = .ok (.aload_n 0, 1) := by decide +kernel
theorem dX2_init_23 : decode cX2_init 23 = .ok (.iconst 0, 1) := by decide +kernel
theorem dX2_init_24 : decode cX2_init 24 = .ok (.putfield 22, 3) := by decide +kernel
theorem dX2_init_27 : decode cX2_init 27 = .ok (.aload_n 0, 1) := by decide +kernel
theorem dX2_init_28 : decode cX2_init 28 = .ok (.iconst 0, 1) := by decide +kernel
theorem dX2_init_29 : decode cX2_init 29 = .ok (.putfield 26, 3) := by decide +kernel
theorem dX2_init_32 : decode cX2_init 32 = .ok (.aload_n 0, 1) := by decide +kernel
theorem dX2_init_33 : decode cX2_init 33 = .ok (.iconst 0, 1) := by decide +kernel
theorem dX2_init_34 : decode cX2_init 34 = .ok (.putfield 29, 3) := by decide +kernel
theorem dX2_init_37 : decode cX2_init 37 = .ok (.return_, 1) := by decide +kernel
theorem dX2_take_0 : decode cX2_take 0 = .ok (.aload_n 0, 1) := by decide +kernel
theorem dX2_take_1 : decode cX2_take 1 = .ok (.getfield 12, 3) := by decide +kernel
theorem dX2_take_4 : decode cX2_take 4 = .ok (.aload_n 1, 1) := by decide +kernel
theorem dX2_take_5 : decode cX2_take 5 = .ok (.invokevirtual 33, 3) := by decide +kernel
theorem dX2_take_8 : decode cX2_take 8 = .ok (.aload_n 2, 1) := by decide +kernel
theorem dX2_take_9 : decode cX2_take 9 = .ok (.getfield 37, 3) := by decide +kernel
theorem dX2_take_12 : decode cX2_take 12 = .ok (.iconst 0, 1) := by decide +kernel
theorem dX2_take_13 : decode cX2_take 13 = .ok (.aload_n 0, 1) := by decide +kernel
theorem dX2_take_14 : decode cX2_take 14 = .ok (.getfield 18, 3) := by decide +kernel
theorem dX2_take_17 : decode cX2_take 17 = .ok (.iconst 0, 1) := by decide +kernel
theorem dX2_take_18 : decode cX2_take 18 = .ok (.iconst 4, 1) := by decide +kernel
theorem dX2_take_19 : decode cX2_take 19 = .ok (.invokestatic 40, 3) := by decide +kernel
theorem dX2_take_22 : decode cX2_take 22 = .ok (.aload_n 0, 1) := by decide +kernel
theorem dX2_take_23 : decode cX2_take 23 = .ok (.aload_n 2, 1) := by decide +kernel
theorem dX2_take_24 : decode cX2_take 24 = .ok (.getfield 46, 3) := by decide +kernel
theorem dX2_take_27 : decode cX2_take 27 = .ok (.putfield 22, 3) := by decide +kernel
theorem dX2_take_30 : decode cX2_take 30 = .ok (.aload_n 0, 1) := by decide +kernel
theorem dX2_take_31 : decode cX2_take 31 = .ok (.aload_n 2, 1) := by decide +kernel
theorem dX2_take_32 : decode cX2_take 32 = .ok (.getfield 47, 3) := by decide +kernel
theorem dX2_take_35 : decode cX2_take 35 = .ok (.putfield 26, 3) := by decide +kernel
theorem dX2_take_38 : decode cX2_take 38 = .ok (.aload_n 0, 1) := by decide +kernel
theorem dX2_take_39 : decode cX2_take 39 = .ok (.iconst 1, 1) := by decide +kernel
theorem dX2_take_40 : decode cX2_take 40 = .ok (.putfield 29, 3) := by decide +kernel
theorem dX2_take_43 : decode cX2_take 43 = .ok (.return_, 1) := by decide +kernel
theorem dX2_giveBack_0 : decode cX2_giveBack 0 = .ok (.aload_n 1, 1) := by decide +kernel
theorem dX2_giveBack_1 : decode cX2_giveBack 1 = .ok (.aload_n 0, 1) := by decide +kernel
theorem dX2_giveBack_2 : decode cX2_giveBack 2 = .ok (.getfield 12, 3) := by decide +kernel
theorem dX2_giveBack_5 : decode cX2_giveBack 5 = .ok (.invokevirtual 33, 3) := by decide +kernel
theorem dX2_giveBack_8 : decode cX2_giveBack 8 = .ok (.aload_n 0, 1) := by decide +kernel
theorem dX2_giveBack_9 : decode cX2_giveBack 9 = .ok (.getfield 18, 3) := by decide +kernel
theorem dX2_giveBack_12 : decode cX2_giveBack 12 = .ok (.iconst 0, 1) := by decide +kernel
theorem dX2_giveBack_13 : decode cX2_giveBack 13 = .ok (.aload_n 2, 1) := by decide +kernel
theorem dX2_giveBack_14 : decode cX2_giveBack 14 = .ok (.getfield 37, 3) := by decide +kernel
theorem dX2_giveBack_17 : decode cX2_giveBack 17 = .ok (.iconst 0, 1) := by decide +kernel
theorem dX2_giveBack_18 : decode cX2_giveBack 18 = .ok (.iconst 4, 1) := by decide +kernel
theorem dX2_giveBack_19 : decode cX2_giveBack 19 = .ok (.invokestatic 40, 3) := by decide +kernel
theorem dX2_giveBack_22 : decode cX2_giveBack 22 = .ok (.aload_n 2, 1) := by decide +kernel
theorem dX2_giveBack_23 : decode cX2_giveBack 23 = .ok (.aload_n 0, 1) := by decide +kernel
theorem dX2_giveBack_24 : decode cX2_giveBack 24 = .ok (.getfield 22, 3) := by decide +kernel
theorem dX2_giveBack_27 : decode cX2_giveBack 27 = .ok (.putfield 46, 3) := by decide +kernel
theorem dX2_giveBack_30 : decode cX2_giveBack 30 = .ok (.aload_n 2, 1) := by decide +kernel
theorem dX2_giveBack_31 : decode cX2_giveBack 31 = .ok (.aload_n 0, 1) := by decide +kernel
theorem dX2_giveBack_32 : decode cX2_giveBack 32 = .ok (.getfield 26, 3) := by decide +kernel
theorem dX2_giveBack_35 : decode cX2_giveBack 35 = .ok (.putfield 47, 3) := by decide +kernel
theorem dX2_giveBack_38 : decode cX2_giveBack 38 = .ok (.return_, 1) := by decide +kernel
theorem dX3_init_0 : decode cX3_init 0 = .ok (.aload_n 0, 1) := by decide +kernel
theorem dX3_init_1 : decode cX3_init 1 = .ok (.invokespecial 3, 3) := by decide +kernel
theorem dX3_init_4 : decode cX3_init 4 = .ok (.aload_n 0, 1) := by decide +kernel
theorem dX3_init_5 : decode cX3_init 5 = .ok (.iconst 4, 1) := by decide +kernel
theorem dX3_init_6 : decode cX3_init 6 = .ok (.anewarray 9, 3) := by decide +kernel
theorem dX3_init_9 : decode cX3_init 9 = .ok (.putfield 11, 3) := by decide +kernel
theorem dX3_init_12 : decode cX3_init 12 = .ok (.aload_n 0, 1) := by decide +kernel
theorem dX3_init_13 : decode cX3_init 13 = .ok (.iconst 3, 1) := by decide +kernel
theorem dX3_init_14 : decode cX3_init 14 = .ok (.anewarray 9, 3) := by decide +kernel
theorem dX3_init_17 : decode cX3_init 17 = .ok (.putfield 17, 3) := by decide +kernel
theorem dX3_init_20 : decode cX3_init 20 = .ok (.aload_n 0, 1) := by decide +kernel
theorem dX3_init_21 : decode cX3_init 21 = .ok (.iconst 5, 1) := by decide +kernel
theorem dX3_init_22 : decode cX3_init 22 = .ok (.anewarray 9, 3) := by decide +kernel
theorem dX3_init_25 : decode cX3_init 25 = .ok (.putfield 20, 3) := by decide +kernel
theorem dX3_init_28 : decode cX3_init 28 = .ok (.aload_n 0, 1) := by decide +kernel
theorem dX3_init_29 : decode cX3_init 29 = .ok (.iconst 5, 1) := by decide +kernel
theorem dX3_init_30 : decode cX3_init 30 = .ok (.newarray .int, 2) := by decide +kernel
theorem dX3_init_32 : decode cX3_init 32 = .ok (.putfield 23, 3) := by decide +kernel
theorem dX3_init_35 : decode cX3_init 35 = .ok (.aload_n 0, 1) := by decide +kernel
theorem dX3_init_36 : decode cX3_init 36 = .ok (.iconst 5, 1) := by decide +kernel
theorem dX3_init_37 : decode cX3_init 37 = .ok (.newarray .int, 2) := by decide +kernel
theorem dX3_init_39 : decode cX3_init 39 = .ok (.putfield 27, 3) := by decide +kernel
theorem dX3_init_42 : decode cX3_init 42 = .ok (.aload_n 0, 1) := by decide +kernel
theorem dX3_init_43 : decode cX3_init 43 = .ok (.bipush 64, 2) := by decide +kernel
theorem dX3_init_45 : decode cX3_init 45 = .ok (.anewarray 9, 3) := by decide +kernel
theorem dX3_init_48 : decode cX3_init 48 = .ok (.putfield 30, 3) := by decide +kernel
theorem dX3_init_51 : decode cX3_init 51 = .ok (.aload_n 0, 1) := by decide +kernel
theorem dX3_init_52 : decode cX3_init 52 = .ok (.iconst 4, 1) := by decide +kernel
theorem dX3_init_53 : decode cX3_init 53 = .ok (.newarray .int, 2) := by decide +kernel
theorem dX3_init_55 : decode cX3_init 55 = .ok (.dup, 1) := by decide +kernel
theorem dX3_init_56 : decode cX3_init 56 = .ok (.iconst 0, 1) := by decide +kernel
theorem dX3_init_57 : decode cX3_init 57 = .ok (.iconst 3, 1) := by decide +kernel
theorem dX3_init_58 : decode cX3_init 58 = .ok (.iastore, 1) := by decide +kernel
theorem dX3_init_59 : decode cX3_init 59 = .ok (.dup, 1) := by decide +kernel
theorem dX3_init_60 : decode cX3_init 60 = .ok (.iconst 1, 1) := by decide +kernel
theorem dX3_init_61 : decode cX3_init 61 = .ok (.iconst 3, 1) := by decide +kernel
theorem dX3_init_62 : decode cX3_init 62 = .ok (.iastore, 1) := by decide +kernel
theorem dX3_init_63 : decode cX3_init 63 = .ok (.dup, 1) := by decide +kernel
theorem dX3_init_64 : decode cX3_init 64 = .ok (.iconst 2, 1) := by decide +kernel
theorem dX3_init_65 : decode cX3_init 65 = .ok (.iconst 3, 1) := by decide +kernel
theorem dX3_init_66 : decode cX3_init 66 = .ok (.iastore, 1) := by decide +kernel
theorem dX3_init_67 : decode cX3_init 67 = .ok (.dup, 1) := by decide +kernel
theorem dX3_init_68 : decode cX3_init 68 = .ok (.iconst 3, 1) := by decide +kernel
theorem dX3_init_69 : decode cX3_init 69 = .ok (.iconst 3, 1) := by decide +kernel
theorem dX3_init_70 : decode cX3_init 70 = .ok (.iastore, 1) := by decide +kernel
theorem dX3_init_71 : decode cX3_init 71 = .ok (.putfield 33, 3) := by decide +kernel
theorem dX3_init_74 : decode cX3_init 74 = .ok (.aload_n 0, 1) := by decide +kernel
theorem dX3_init_75 : decode cX3_init 75 = .ok (.bipush 64, 2) := by decide +kernel
theorem dX3_init_77 : decode cX3_init 77 = .ok (.newarray .int, 2) := by decide +kernel
theorem dX3_init_79 : decode cX3_init 79 = .ok (.putfield 36, 3) := by decide +kernel
theorem dX3_init_82 : decode cX3_init 82 = .ok (.aload_n 0, 1) := by decide +kernel
theorem dX3_init_83 : decode cX3_init 83 = .ok (.new 9, 3) := by decide +kernel
theorem dX3_init_86 : decode cX3_init 86 = .ok (.dup, 1) := by decide +kernel
theorem dX3_init_87 : decode cX3_init 87 = .ok (.invokespecial 39, 3) := by decide +kernel
theorem dX3_init_90 : decode cX3_init 90 = .ok (.putfield 40, 3) := by decide +kernel
theorem dX3_init_93 : decode cX3_init 93 = .ok (.aload_n 0, 1) := by decide +kernel
theorem dX3_init_94 : decode cX3_init 94 = .ok (.new 9, 3) := by decide +kernel
theorem dX3_init_97 : decode cX3_init 97 = .ok (.dup, 1) := by decide +kernel
theorem dX3_init_98 : decode cX3_init 98 = .ok (.invokespecial 39, 3) := by decide +kernel
theorem dX3_init_101 : decode cX3_init 101 = .ok (.putfield 44, 3) := by decide +kernel
theorem dX3_init_104 : decode cX3_init 104 = .ok (.aload_n 0, 1) := by decide +kernel
theorem dX3_init_105 : decode cX3_init 105 = .ok (.iconst 0, 1) := by decide +kernel
theorem dX3_init_106 : decode cX3_init 106 = .ok (.putfield 47, 3) := by decide +kernel
theorem dX3_init_109 : decode cX3_init 109 = .ok (.aload_n 0, 1) := by decide +kernel
theorem dX3_init_110 : decode cX3_init 110 = .ok (.iconst 0, 1) := by decide +kernel
theorem dX3_init_111 : decode cX3_init 111 = .ok (.putfield 51, 3) := by decide +kernel
theorem dX3_init_114 : decode cX3_init 114 = .ok (.aload_n 0, 1) := by decide +kernel
theorem dX3_init_115 : decode cX3_init 115 = .ok (.iconst 0, 1) := by decide +kernel
theorem dX3_init_116 : decode cX3_init 116 = .ok (.putfield 54, 3) := by decide +kernel
theorem dX3_init_119 : decode cX3_init 119 = .ok (.aload_n 0, 1) := by decide +kernel
theorem dX3_init_120 : decode cX3_init 120 = .ok (.iconst 2, 1) := by decide +kernel
theorem dX3_init_121 : decode cX3_init 121 = .ok (.putfield 57, 3) := by decide +kernel
theorem dX3_init_124 : decode cX3_init 124 = .ok (.aload_n 0, 1) := by decide +kernel
theorem dX3_init_125 : decode cX3_init 125 = .ok (.iconst 0, 1) := by decide +kernel
theorem dX3_init_126 : decode cX3_init 126 = .ok (.putfield 60, 3) := by decide +kernel
theorem dX3_init_129 : decode cX3_init 129 = .ok (.iconst 0, 1) := by decide +kernel
theorem dX3_init_130 : decode cX3_init 130 = .ok (.istore_n 1, 1) := by decide +kernel
theorem dX3_init_131 : decode cX3_init 131 = .ok (.iload_n 1, 1) := by decide +kernel
theorem dX3_init_132 : decode cX3_init 132 = .ok (.iconst 4, 1) := by decide +kernel
theorem dX3_init_133 : decode cX3_init 133 = .ok (.if_icmp .ge 22, 3) := by decide +kernel
theorem dX3_init_136 : decode cX3_init 136 = .ok (.aload_n 0, 1) := by decide +kernel
theorem dX3_init_137 : decode cX3_init 137 = .ok (.getfield 11, 3) := by decide +kernel
theorem dX3_init_140 : decode cX3_init 140 = .ok (.iload_n 1, 1) := by decide +kernel
theorem dX3_init_141 : decode cX3_init 141 = .ok (.new 9, 3) := by decide +kernel
theorem dX3_init_144 : decode cX3_init 144 = .ok (.dup, 1) := by decide +kernel
theorem dX3_init_145 : decode cX3_init 145 = .ok (.invokespecial 39, 3) := by decide +kernel
theorem dX3_init_148 : decode cX3_init 148 = .ok (.aastore, 1) := by decide +kernel
theorem dX3_init_149 : decode cX3_init 149 = .ok (.iinc 1 1, 3) := by decide +kernel
theorem dX3_init_152 : decode cX3_init 152 = .ok (.goto (-21), 3) := by decide +kernel
theorem dX3_init_155 : decode cX3_init 155 = .ok (.iconst 0, 1) := by decide +kernel
theorem dX3_init_156 : decode cX3_init 156 = .ok (.istore_n 1, 1) := by decide +kernel
theorem dX3_init_157 : decode cX3_init 157 = .ok (.iload_n 1, 1) := by decide +kernel
theorem dX3_init_158 : decode cX3_init 158 = .ok (.iconst 3, 1) := by decide +kernel
theorem dX3_init_159 : decode cX3_init 159 = .ok (.if_icmp .ge 22, 3) := by decide +kernel
theorem dX3_init_162 : decode cX3_init 162 = .ok (.aload_n 0, 1) := by decide +kernel
theorem dX3_init_163 : decode cX3_init 163 = .ok (.getfield 17, 3) := by decide +kernel
theorem dX3_init_166 : decode cX3_init 166 = .ok (.iload_n 1, 1) := by decide +kernel
theorem dX3_init_167 : decode cX3_init 167 = .ok (.new 9, 3) := by decide +kernel
theorem dX3_init_170 : decode cX3_init 170 = .ok (.dup, 1) := by decide +kernel
theorem dX3_init_171 : decode cX3_init 171 = .ok (.invokespecial 39, 3) := by decide +kernel
theorem dX3_init_174 : decode cX3_init 174 = .ok (.aastore, 1) := by decide +kernel
theorem dX3_init_175 : decode cX3_init 175 = .ok (.iinc 1 1, 3) := by decide +kernel
theorem dX3_init_178 : decode cX3_init 178 = .ok (.goto (-21), 3) := by decide +kernel
theorem dX3_init_181 : decode cX3_init 181 = .ok (.iconst 0, 1) := by decide +kernel
theorem dX3_init_182 : decode cX3_init 182 = .ok (.istore_n 1, 1) := by decide +kernel
theorem dX3_init_183 : decode cX3_init 183 = .ok (.iload_n 1, 1) := by decide +kernel
theorem dX3_init_184 : decode cX3_init 184 = .ok (.iconst 5, 1) := by decide +kernel
theorem dX3_init_185 : decode cX3_init 185 = .ok (.if_icmp .ge 22, 3) := by decide +kernel
theorem dX3_init_188 : decode cX3_init 188 = .ok (.aload_n 0, 1) := by decide +kernel
theorem dX3_init_189 : decode cX3_init 189 = .ok (.getfield 20, 3) := by decide +kernel
theorem dX3_init_192 : decode cX3_init 192 = .ok (.iload_n 1, 1) := by decide +kernel
theorem dX3_init_193 : decode cX3_init 193 = .ok (.new 9, 3) := by decide +kernel
theorem dX3_init_196 : decode cX3_init 196 = .ok (.dup, 1) := by decide +kernel
theorem dX3_init_197 : decode cX3_init 197 = .ok (.invokespecial 39, 3) := by decide +kernel
theorem dX3_init_200 : decode cX3_init 200 = .ok (.aastore, 1) := by decide +kernel
theorem dX3_init_201 : decode cX3_init 201 = .ok (.iinc 1 1, 3) := by decide +kernel
theorem dX3_init_204 : decode cX3_init 204 = .ok (.goto (-21), 3) := by decide +kernel
theorem dX3_init_207 : decode cX3_init 207 = .ok (.return_, 1) := by decide +kernel
theorem dX3_usePatches_0 : decode cX3_usePatches 0 = .ok (.iconst 0, 1) := by decide +kernel
theorem dX3_usePatches_1 : decode cX3_usePatches 1 = .ok (.istore_n 2, 1) := by decide +kernel
theorem dX3_usePatches_2 : decode cX3_usePatches 2 = .ok (.iload_n 2, 1) := by decide +kernel
theorem dX3_usePatches_3 : decode cX3_usePatches 3 = .ok (.bipush 64, 2) := by decide +kernel
theorem dX3_usePatches_5 : decode cX3_usePatches 5 = .ok (.if_icmp .ge 16, 3) := by decide +kernel
theorem dX3_usePatches_8 : decode cX3_usePatches 8 = .ok (.aload_n 0, 1) := by decide +kernel
theorem dX3_usePatches_9 : decode cX3_usePatches 9 = .ok (.getfield 30, 3) := by decide +kernel
theorem dX3_usePatches_12 : decode cX3_usePatches 12 = .ok (.iload_n 2, 1) := by decide +kernel
theorem dX3_usePatches_13 : decode cX3_usePatches 13 = .ok (.aconst_null, 1) := by decide +kernel
theorem dX3_usePatches_14 : decode cX3_usePatches 14 = .ok (.aastore, 1) := by decide +kernel
theorem dX3_usePatches_15 : decode cX3_usePatches 15 = .ok (.iinc 2 1, 3) := by decide +kernel
theorem dX3_usePatches_18 : decode cX3_usePatches 18 = .ok (.goto (-16), 3) := by decide +kernel
theorem dX3_usePatches_21 : decode cX3_usePatches 21 = .ok (.iconst 0, 1) := by decide +kernel
theorem dX3_usePatches_22 : decode cX3_usePatches 22 = .ok (.istore_n 2, 1) := by decide +kernel
theorem dX3_usePatches_23 : decode cX3_usePatches 23 = .ok (.iload_n 2, 1) := by decide +kernel
theorem dX3_usePatches_24 : decode cX3_usePatches 24 = .ok (.aload_n 0, 1) := by decide +kernel
theorem dX3_usePatches_25 : decode cX3_usePatches 25 = .ok (.getfield 54, 3) := by decide +kernel
theorem dX3_usePatches_28 : decode cX3_usePatches 28 = .ok (.if_icmp .ge 64, 3) := by decide +kernel
theorem dX3_usePatches_31 : decode cX3_usePatches 31 = .ok (.aload_n 0, 1) := by decide +kernel
theorem dX3_usePatches_32 : decode cX3_usePatches 32 = .ok (.getfield 23, 3) := by decide +kernel
theorem dX3_usePatches_35 : decode cX3_usePatches 35 = .ok (.iload_n 2, 1) := by decide +kernel
theorem dX3_usePatches_36 : decode cX3_usePatches 36 = .ok (.iaload, 1) := by decide +kernel
theorem dX3_usePatches_37 : decode cX3_usePatches 37 = .ok (.istore_n 3, 1) := by decide +kernel
theorem dX3_usePatches_38 : decode cX3_usePatches 38 = .ok (.aload_n 0, 1) := by decide +kernel
theorem dX3_usePatches_39 : decode cX3_usePatches 39 = .ok (.getfield 27, 3) := by decide +kernel
theorem dX3_usePatches_42 : decode cX3_usePatches 42 = .ok (.iload_n 2, 1) := by decide +kernel
theorem dX3_usePatches_43 : decode cX3_usePatches 43 = .ok (.iaload, 1) := by decide +kernel
theorem dX3_usePatches_44 : decode cX3_usePatches 44 = .ok (.istore 4, 2) := by decide +kernel
theorem dX3_usePatches_46 : decode cX3_usePatches 46 = .ok (.iload_n 1, 1) := by decide +kernel
theorem dX3_usePatches_47 : decode cX3_usePatches 47 = .ok (.iconst 1, 1) := by decide +kernel
theorem dX3_usePatches_48 : decode cX3_usePatches 48 = .ok (.iload_n 2, 1) := by decide +kernel
theorem dX3_usePatches_49 : decode cX3_usePatches 49 = .ok (.ishl, 1) := by decide +kernel
theorem dX3_usePatches_50 : decode cX3_usePatches 50 = .ok (.iand, 1) := by decide +kernel
theorem dX3_usePatches_51 : decode cX3_usePatches 51 = .ok (.ifCond .eq 35, 3) := by decide +kernel
theorem dX3_usePatches_54 : decode cX3_usePatches 54 = .ok (.iload 4, 2) := by decide +kernel
theorem dX3_usePatches_56 : decode cX3_usePatches 56 = .ok (.aload_n 0, 1) := by decide +kernel
theorem dX3_usePatches_57 : decode cX3_usePatches 57 = .ok (.getfield 11, 3) := by decide +kernel
theorem dX3_usePatches_60 : decode cX3_usePatches 60 = .ok (.iload_n 3, 1) := by decide +kernel
theorem dX3_usePatches_61 : decode cX3_usePatches 61 = .ok (.aaload, 1) := by decide +kernel
theorem dX3_usePatches_62 : decode cX3_usePatches 62 = .ok (.getfield 63, 3) := by decide +kernel
theorem dX3_usePatches_65 : decode cX3_usePatches 65 = .ok (.if_icmp .ge 21, 3) := by decide +kernel
theorem dX3_usePatches_68 : decode cX3_usePatches 68 = .ok (.aload_n 0, 1) := by decide +kernel
theorem dX3_usePatches_69 : decode cX3_usePatches 69 = .ok (.getfield 30, 3) := by decide +kernel
theorem dX3_usePatches_72 : decode cX3_usePatches 72 = .ok (.iload_n 3, 1) := by decide +kernel
theorem dX3_usePatches_73 : decode cX3_usePatches 73 = .ok (.bipush 16, 2) := by decide +kernel
theorem dX3_usePatches_75 : decode cX3_usePatches 75 = .ok (.imul, 1) := by decide +kernel
theorem dX3_usePatches_76 : decode cX3_usePatches 76 = .ok (.iload 4, 2) := by decide +kernel
theorem dX3_usePatches_78 : decode cX3_usePatches 78 = .ok (.iadd, 1) := by decide +kernel
theorem dX3_usePatches_79 : decode cX3_usePatches 79 = .ok (.aload_n 0, 1) := by decide +kernel
theorem dX3_usePatches_80 : decode cX3_usePatches 80 = .ok (.getfield 20, 3) := by decide +kernel
theorem dX3_usePatches_83 : decode cX3_usePatches 83 = .ok (.iload_n 2, 1) := by decide +kernel
theorem dX3_usePatches_84 : decode cX3_usePatches 84 = .ok (.aaload, 1) := by decide +kernel
theorem dX3_usePatches_85 : decode cX3_usePatches 85 = .ok (.aastore, 1) := by decide +kernel
theorem dX3_usePatches_86 : decode cX3_usePatches 86 = .ok (.iinc 2 1, 3) := by decide +kernel
theorem dX3_usePatches_89 : decode cX3_usePatches 89 = .ok (.goto (-66), 3) := by decide +kernel
theorem dX3_usePatches_92 : decode cX3_usePatches 92 = .ok (.return_, 1) := by decide +kernel
theorem dX3_breaks_0 : decode cX3_breaks 0 = .ok (.aload_n 0, 1) := by decide +kernel
theorem dX3_breaks_1 : decode cX3_breaks 1 = .ok (.getfield 40, 3) := by decide +kernel
theorem dX3_breaks_4 : decode cX3_breaks 4 = .ok (.getfield 63, 3) := by decide +kernel
theorem dX3_breaks_7 : decode cX3_breaks 7 = .ok (.ifCond .le 20, 3) := by decide +kernel
theorem dX3_breaks_10 : decode cX3_breaks 10 = .ok (.aload_n 0, 1) := by decide +kernel
theorem dX3_breaks_11 : decode cX3_breaks 11 = .ok (.aload_n 0, 1) := by decide +kernel
theorem dX3_breaks_12 : decode cX3_breaks 12 = .ok (.getfield 40, 3) := by decide +kernel
theorem dX3_breaks_15 : decode cX3_breaks 15 = .ok (.iconst 0, 1) := by decide +kernel
theorem dX3_breaks_16 : decode cX3_breaks 16 = .ok (.aload_n 1, 1) := by decide +kernel
theorem dX3_breaks_17 : decode cX3_breaks 17 = .ok (.invokevirtual 66, 3) := by decide +kernel
theorem dX3_breaks_20 : decode cX3_breaks 20 = .ok (.ifCond .ne 7, 3) := by decide +kernel
theorem dX3_breaks_23 : decode cX3_breaks 23 = .ok (.iconst 1, 1) := by decide +kernel
theorem dX3_breaks_24 : decode cX3_breaks 24 = .ok (.goto 4, 3) := by decide +kernel
theorem dX3_breaks_27 : decode cX3_breaks 27 = .ok (.iconst 0, 1) := by decide +kernel
theorem dX3_breaks_28 : decode cX3_breaks 28 = .ok (.ireturn, 1) := by decide +kernel
theorem dX3_act_0 : decode cX3_act 0 = .ok (.iload_n 2, 1) := by decide +kernel
theorem dX3_act_1 : decode cX3_act 1 = .ok (.ifCond .lt 11, 3) := by decide +kernel
theorem dX3_act_4 : decode cX3_act 4 = .ok (.iload_n 2, 1) := by decide +kernel
theorem dX3_act_5 : decode cX3_act 5 = .ok (.aload_n 0, 1) := by decide +kernel
theorem dX3_act_6 : decode cX3_act 6 = .ok (.getfield 47, 3) := by decide +kernel
theorem dX3_act_9 : decode cX3_act 9 = .ok (.if_icmp .lt 4, 3) := by decide +kernel
theorem dX3_act_12 : decode cX3_act 12 = .ok (.return_, 1) := by decide +kernel
theorem dX3_act_13 : decode cX3_act 13 = .ok (.aload_n 1, 1) := by decide +kernel
theorem dX3_act_14 : decode cX3_act 14 = .ok (.iload_n 2, 1) := by decide +kernel
theorem dX3_act_15 : decode cX3_act 15 = .ok (.iload_n 3, 1) := by decide +kernel
theorem dX3_act_16 : decode cX3_act 16 = .ok (.invokevirtual 70, 3) := by decide +kernel
theorem dX3_act_19 : decode cX3_act 19 = .ok (.aload_n 1, 1) := by decide +kernel
theorem dX3_act_20 : decode cX3_act 20 = .ok (.getfield 76, 3) := by decide +kernel
theorem dX3_act_23 : decode cX3_act 23 = .ok (.lstore 4, 2) := by decide +kernel
theorem dX3_act_25 : decode cX3_act 25 = .ok (.aload_n 1, 1) := by decide +kernel
theorem dX3_act_26 : decode cX3_act 26 = .ok (.iload_n 2, 1) := by decide +kernel
theorem dX3_act_27 : decode cX3_act 27 = .ok (.invokevirtual 80, 3) := by decide +kernel
theorem dX3_act_30 : decode cX3_act 30 = .ok (.istore 6, 2) := by decide +kernel
theorem dX3_act_32 : decode cX3_act 32 = .ok (.aload_n 0, 1) := by decide +kernel
theorem dX3_act_33 : decode cX3_act 33 = .ok (.getfield 11, 3) := by decide +kernel
theorem dX3_act_36 : decode cX3_act 36 = .ok (.iload_n 2, 1) := by decide +kernel
theorem dX3_act_37 : decode cX3_act 37 = .ok (.aaload, 1) := by decide +kernel
theorem dX3_act_38 : decode cX3_act 38 = .ok (.getfield 63, 3) := by decide +kernel
theorem dX3_act_41 : decode cX3_act 41 = .ok (.istore 7, 2) := by decide +kernel
theorem dX3_act_43 : decode cX3_act 43 = .ok (.aload_n 0, 1) := by decide +kernel
theorem dX3_act_44 : decode cX3_act 44 = .ok (.getfield 30, 3) := by decide +kernel
theorem dX3_act_47 : decode cX3_act 47 = .ok (.iload_n 2, 1) := by decide +kernel
theorem dX3_act_48 : decode cX3_act 48 = .ok (.bipush 16, 2) := by decide +kernel
theorem dX3_act_50 : decode cX3_act 50 = .ok (.imul, 1) := by decide +kernel
theorem dX3_act_51 : decode cX3_act 51 = .ok (.iload 6, 2) := by decide +kernel
theorem dX3_act_53 : decode cX3_act 53 = .ok (.iadd, 1) := by decide +kernel
theorem dX3_act_54 : decode cX3_act 54 = .ok (.aaload, 1) := by decide +kernel
theorem dX3_act_55 : decode cX3_act 55 = .ok (.astore 8, 2) := by decide +kernel
theorem dX3_act_57 : decode cX3_act 57 = .ok (.iconst 0, 1) := by decide +kernel
theorem dX3_act_58 : decode cX3_act 58 = .ok (.istore 9, 2) := by decide +kernel
theorem dX3_act_60 : decode cX3_act 60 = .ok (.aload 8, 2) := by decide +kernel
theorem dX3_act_62 : decode cX3_act 62 = .ok (.ifnonnull 15, 3) := by decide +kernel
theorem dX3_act_65 : decode cX3_act 65 = .ok (.aload_n 0, 1) := by decide +kernel
theorem dX3_act_66 : decode cX3_act 66 = .ok (.getfield 11, 3) := by decide +kernel
theorem dX3_act_69 : decode cX3_act 69 = .ok (.iload_n 2, 1) := by decide +kernel
theorem dX3_act_70 : decode cX3_act 70 = .ok (.aaload, 1) := by decide +kernel
theorem dX3_act_71 : decode cX3_act 71 = .ok (.astore 8, 2) := by decide +kernel
theorem dX3_act_73 : decode cX3_act 73 = .ok (.iload 6, 2) := by decide +kernel
theorem dX3_act_75 : decode cX3_act 75 = .ok (.istore 9, 2) := by decide +kernel
theorem dX3_act_77 : decode cX3_act 77 = .ok (.aload_n 0, 1) := by decide +kernel
theorem dX3_act_78 : decode cX3_act 78 = .ok (.aload 8, 2) := by decide +kernel
theorem dX3_act_80 : decode cX3_act 80 = .ok (.iload 9, 2) := by decide +kernel
theorem dX3_act_82 : decode cX3_act 82 = .ok (.aload_n 1, 1) := by decide +kernel
theorem dX3_act_83 : decode cX3_act 83 = .ok (.invokevirtual 66, 3) := by decide +kernel
theorem dX3_act_86 : decode cX3_act 86 = .ok (.istore 10, 2) := by decide +kernel
theorem dX3_act_88 : decode cX3_act 88 = .ok (.aload 8, 2) := by decide +kernel
theorem dX3_act_90 : decode cX3_act 90 = .ok (.getfield 84, 3) := by decide +kernel
theorem dX3_act_93 : decode cX3_act 93 = .ok (.iload 9, 2) := by decide +kernel
theorem dX3_act_95 : decode cX3_act 95 = .ok (.iaload, 1) := by decide +kernel
theorem dX3_act_96 : decode cX3_act 96 = .ok (.istore 11, 2) := by decide +kernel
theorem dX3_act_98 : decode cX3_act 98 = .ok (.iload 6, 2) := by decide +kernel
theorem dX3_act_100 : decode cX3_act 100 = .ok (.iconst 1, 1) := by decide +kernel
theorem dX3_act_101 : decode cX3_act 101 = .ok (.iadd, 1) := by decide +kernel
theorem dX3_act_102 : decode cX3_act 102 = .ok (.istore 12, 2) := by decide +kernel
theorem dX3_act_104 : decode cX3_act 104 = .ok (.aload 8, 2) := by decide +kernel
theorem dX3_act_106 : decode cX3_act 106 = .ok (.getfield 87, 3) := by decide +kernel
theorem dX3_act_109 : decode cX3_act 109 = .ok (.iload 9, 2) := by decide +kernel
theorem dX3_act_111 : decode cX3_act 111 = .ok (.iaload, 1) := by decide +kernel
theorem dX3_act_112 : decode cX3_act 112 = .ok (.tableswitch 106 0 4 #[36, 47, 64, 78, 95], 36) := by decide +kernel
theorem dX3_act_148 : decode cX3_act 148 = .ok (.aload_n 1, 1) := by decide +kernel
theorem dX3_act_149 : decode cX3_act 149 = .ok (.iload 11, 2) := by decide +kernel
theorem dX3_act_151 : decode cX3_act 151 = .ok (.iload 10, 2) := by decide +kernel
theorem dX3_act_153 : decode cX3_act 153 = .ok (.invokevirtual 90, 3) := by decide +kernel
theorem dX3_act_156 : decode cX3_act 156 = .ok (.goto 67, 3) := by decide +kernel
theorem dX3_act_159 : decode cX3_act 159 = .ok (.iload 10, 2) := by decide +kernel
theorem dX3_act_161 : decode cX3_act 161 = .ok (.ifCond .ne 8, 3) := by decide +kernel
theorem dX3_act_164 : decode cX3_act 164 = .ok (.iload 6, 2) := by decide +kernel
theorem dX3_act_166 : decode cX3_act 166 = .ok (.goto 5, 3) := by decide +kernel
theorem dX3_act_169 : decode cX3_act 169 = .ok (.iload 12, 2) := by decide +kernel
theorem dX3_act_171 : decode cX3_act 171 = .ok (.istore 12, 2) := by decide +kernel
theorem dX3_act_173 : decode cX3_act 173 = .ok (.goto 50, 3) := by decide +kernel
theorem dX3_act_176 : decode cX3_act 176 = .ok (.aload_n 0, 1) := by decide +kernel
theorem dX3_act_177 : decode cX3_act 177 = .ok (.aload_n 1, 1) := by decide +kernel
theorem dX3_act_178 : decode cX3_act 178 = .ok (.iload 11, 2) := by decide +kernel
theorem dX3_act_180 : decode cX3_act 180 = .ok (.iload 10, 2) := by decide +kernel
theorem dX3_act_182 : decode cX3_act 182 = .ok (.iconst 3, 1) := by decide +kernel
theorem dX3_act_183 : decode cX3_act 183 = .ok (.iand, 1) := by decide +kernel
theorem dX3_act_184 : decode cX3_act 184 = .ok (.invokevirtual 93, 3) := by decide +kernel
theorem dX3_act_187 : decode cX3_act 187 = .ok (.goto 36, 3) := by decide +kernel
theorem dX3_act_190 : decode cX3_act 190 = .ok (.iload 10, 2) := by decide +kernel
theorem dX3_act_192 : decode cX3_act 192 = .ok (.ifCond .ne 8, 3) := by decide +kernel
theorem dX3_act_195 : decode cX3_act 195 = .ok (.iload 12, 2) := by decide +kernel
theorem dX3_act_197 : decode cX3_act 197 = .ok (.goto 5, 3) := by decide +kernel
theorem dX3_act_200 : decode cX3_act 200 = .ok (.iload 11, 2) := by decide +kernel
theorem dX3_act_202 : decode cX3_act 202 = .ok (.istore 12, 2) := by decide +kernel
theorem dX3_act_204 : decode cX3_act 204 = .ok (.goto 19, 3) := by decide +kernel
theorem dX3_act_207 : decode cX3_act 207 = .ok (.aload_n 1, 1) := by decide +kernel
theorem dX3_act_208 : decode cX3_act 208 = .ok (.iload 11, 2) := by decide +kernel
theorem dX3_act_210 : decode cX3_act 210 = .ok (.iconst 1, 1) := by decide +kernel
theorem dX3_act_211 : decode cX3_act 211 = .ok (.iadd, 1) := by decide +kernel
theorem dX3_act_212 : decode cX3_act 212 = .ok (.putfield 97, 3) := by decide +kernel
theorem dX3_act_215 : decode cX3_act 215 = .ok (.goto 8, 3) := by decide +kernel
theorem dX3_act_218 : decode cX3_act 218 = .ok (.aload_n 0, 1) := by decide +kernel
theorem dX3_act_219 : decode cX3_act 219 = .ok (.aload_n 1, 1) := by decide +kernel
theorem dX3_act_220 : decode cX3_act 220 = .ok (.invokevirtual 100, 3) := by decide +kernel
theorem dX3_act_223 : decode cX3_act 223 = .ok (.aload_n 1, 1) := by decide +kernel
theorem dX3_act_224 : decode cX3_act 224 = .ok (.iload_n 2, 1) := by decide +kernel
theorem dX3_act_225 : decode cX3_act 225 = .ok (.iload 12, 2) := by decide +kernel
theorem dX3_act_227 : decode cX3_act 227 = .ok (.iload 7, 2) := by decide +kernel
theorem dX3_act_229 : decode cX3_act 229 = .ok (.if_icmp .ge 8, 3) := by decide +kernel
theorem dX3_act_232 : decode cX3_act 232 = .ok (.iload 12, 2) := by decide +kernel
theorem dX3_act_234 : decode cX3_act 234 = .ok (.goto 4, 3) := by decide +kernel
theorem dX3_act_237 : decode cX3_act 237 = .ok (.iconst 0, 1) := by decide +kernel
theorem dX3_act_238 : decode cX3_act 238 = .ok (.invokevirtual 104, 3) := by decide +kernel
theorem dX3_act_241 : decode cX3_act 241 = .ok (.aload_n 1, 1) := by decide +kernel
theorem dX3_act_242 : decode cX3_act 242 = .ok (.lload 4, 2) := by decide +kernel
theorem dX3_act_244 : decode cX3_act 244 = .ok (.invokevirtual 107, 3) := by decide +kernel
theorem dX3_act_247 : decode cX3_act 247 = .ok (.return_, 1) := by decide +kernel
theorem dX3_move_0 : decode cX3_move 0 = .ok (.iload_n 2, 1) := by decide +kernel
theorem dX3_move_1 : decode cX3_move 1 = .ok (.ifCond .lt 16, 3) := by decide +kernel
theorem dX3_move_4 : decode cX3_move 4 = .ok (.iload_n 2, 1) := by decide +kernel
theorem dX3_move_5 : decode cX3_move 5 = .ok (.iconst 4, 1) := by decide +kernel
theorem dX3_move_6 : decode cX3_move 6 = .ok (.if_icmp .ge 11, 3) := by decide +kernel
theorem dX3_move_9 : decode cX3_move 9 = .ok (.aload_n 1, 1) := by decide +kernel
theorem dX3_move_10 : decode cX3_move 10 = .ok (.iload_n 2, 1) := by decide +kernel
theorem dX3_move_11 : decode cX3_move 11 = .ok (.invokevirtual 111, 3) := by decide +kernel
theorem dX3_move_14 : decode cX3_move 14 = .ok (.ifCond .le 4, 3) := by decide +kernel
theorem dX3_move_17 : decode cX3_move 17 = .ok (.return_, 1) := by decide +kernel
theorem dX3_move_18 : decode cX3_move 18 = .ok (.aload_n 1, 1) := by decide +kernel
theorem dX3_move_19 : decode cX3_move 19 = .ok (.iload_n 2, 1) := by decide +kernel
theorem dX3_move_20 : decode cX3_move 20 = .ok (.iload_n 3, 1) := by decide +kernel
theorem dX3_move_21 : decode cX3_move 21 = .ok (.aload_n 1, 1) := by decide +kernel
theorem dX3_move_22 : decode cX3_move 22 = .ok (.iload_n 2, 1) := by decide +kernel
theorem dX3_move_23 : decode cX3_move 23 = .ok (.invokevirtual 114, 3) := by decide +kernel
theorem dX3_move_26 : decode cX3_move 26 = .ok (.iload_n 3, 1) := by decide +kernel
theorem dX3_move_27 : decode cX3_move 27 = .ok (.if_icmp .ne 7, 3) := by decide +kernel
theorem dX3_move_30 : decode cX3_move 30 = .ok (.iconst 0, 1) := by decide +kernel
theorem dX3_move_31 : decode cX3_move 31 = .ok (.goto 9, 3) := by decide +kernel
theorem dX3_move_34 : decode cX3_move 34 = .ok (.aload_n 0, 1) := by decide +kernel
theorem dX3_move_35 : decode cX3_move 35 = .ok (.getfield 33, 3) := by decide +kernel
theorem dX3_move_38 : decode cX3_move 38 = .ok (.iload_n 2, 1) := by decide +kernel
theorem dX3_move_39 : decode cX3_move 39 = .ok (.iaload, 1) := by decide +kernel
theorem dX3_move_40 : decode cX3_move 40 = .ok (.invokevirtual 117, 3) := by decide +kernel
theorem dX3_move_43 : decode cX3_move 43 = .ok (.return_, 1) := by decide +kernel
theorem dX3_fire_0 : decode cX3_fire 0 = .ok (.iconst 0, 1) := by decide +kernel
theorem dX3_fire_1 : decode cX3_fire 1 = .ok (.istore_n 2, 1) := by decide +kernel
theorem dX3_fire_2 : decode cX3_fire 2 = .ok (.iconst 0, 1) := by decide +kernel
theorem dX3_fire_3 : decode cX3_fire 3 = .ok (.istore_n 3, 1) := by decide +kernel
theorem dX3_fire_4 : decode cX3_fire 4 = .ok (.iload_n 3, 1) := by decide +kernel
theorem dX3_fire_5 : decode cX3_fire 5 = .ok (.aload_n 0, 1) := by decide +kernel
theorem dX3_fire_6 : decode cX3_fire 6 = .ok (.getfield 51, 3) := by decide +kernel
theorem dX3_fire_9 : decode cX3_fire 9 = .ok (.if_icmp .ge 41, 3) := by decide +kernel
theorem dX3_fire_12 : decode cX3_fire 12 = .ok (.aload_n 0, 1) := by decide +kernel
theorem dX3_fire_13 : decode cX3_fire 13 = .ok (.getfield 60, 3) := by decide +kernel
theorem dX3_fire_16 : decode cX3_fire 16 = .ok (.iconst 1, 1) := by decide +kernel
theorem dX3_fire_17 : decode cX3_fire 17 = .ok (.iload_n 3, 1) := by decide +kernel
theorem dX3_fire_18 : decode cX3_fire 18 = .ok (.ishl, 1) := by decide +kernel
theorem dX3_fire_19 : decode cX3_fire 19 = .ok (.iand, 1) := by decide +kernel
theorem dX3_fire_20 : decode cX3_fire 20 = .ok (.ifCond .eq 24, 3) := by decide +kernel
theorem dX3_fire_23 : decode cX3_fire 23 = .ok (.aload_n 0, 1) := by decide +kernel
theorem dX3_fire_24 : decode cX3_fire 24 = .ok (.aload_n 0, 1) := by decide +kernel
theorem dX3_fire_25 : decode cX3_fire 25 = .ok (.getfield 17, 3) := by decide +kernel
theorem dX3_fire_28 : decode cX3_fire 28 = .ok (.iload_n 3, 1) := by decide +kernel
theorem dX3_fire_29 : decode cX3_fire 29 = .ok (.aaload, 1) := by decide +kernel
theorem dX3_fire_30 : decode cX3_fire 30 = .ok (.iconst 0, 1) := by decide +kernel
theorem dX3_fire_31 : decode cX3_fire 31 = .ok (.aload_n 1, 1) := by decide +kernel
theorem dX3_fire_32 : decode cX3_fire 32 = .ok (.invokevirtual 66, 3) := by decide +kernel
theorem dX3_fire_35 : decode cX3_fire 35 = .ok (.ifCond .ne 9, 3) := by decide +kernel
theorem dX3_fire_38 : decode cX3_fire 38 = .ok (.iload_n 2, 1) := by decide +kernel
theorem dX3_fire_39 : decode cX3_fire 39 = .ok (.iconst 1, 1) := by decide +kernel
theorem dX3_fire_40 : decode cX3_fire 40 = .ok (.iload_n 3, 1) := by decide +kernel
theorem dX3_fire_41 : decode cX3_fire 41 = .ok (.ishl, 1) := by decide +kernel
theorem dX3_fire_42 : decode cX3_fire 42 = .ok (.ior, 1) := by decide +kernel
theorem dX3_fire_43 : decode cX3_fire 43 = .ok (.istore_n 2, 1) := by decide +kernel
theorem dX3_fire_44 : decode cX3_fire 44 = .ok (.iinc 3 1, 3) := by decide +kernel
theorem dX3_fire_47 : decode cX3_fire 47 = .ok (.goto (-43), 3) := by decide +kernel
theorem dX3_fire_50 : decode cX3_fire 50 = .ok (.aload_n 1, 1) := by decide +kernel
theorem dX3_fire_51 : decode cX3_fire 51 = .ok (.iload_n 2, 1) := by decide +kernel
theorem dX3_fire_52 : decode cX3_fire 52 = .ok (.putfield 121, 3) := by decide +kernel
theorem dX3_fire_55 : decode cX3_fire 55 = .ok (.aload_n 1, 1) := by decide +kernel
theorem dX3_fire_56 : decode cX3_fire 56 = .ok (.iload_n 2, 1) := by decide +kernel
theorem dX3_fire_57 : decode cX3_fire 57 = .ok (.ifCond .ne 7, 3) := by decide +kernel
theorem dX3_fire_60 : decode cX3_fire 60 = .ok (.iconst 1, 1) := by decide +kernel
theorem dX3_fire_61 : decode cX3_fire 61 = .ok (.goto 4, 3) := by decide +kernel
theorem dX3_fire_64 : decode cX3_fire 64 = .ok (.iconst 0, 1) := by decide +kernel
theorem dX3_fire_65 : decode cX3_fire 65 = .ok (.putfield 124, 3) := by decide +kernel
theorem dX3_fire_68 : decode cX3_fire 68 = .ok (.aload_n 1, 1) := by decide +kernel
theorem dX3_fire_69 : decode cX3_fire 69 = .ok (.iconst 1, 1) := by decide +kernel
theorem dX3_fire_70 : decode cX3_fire 70 = .ok (.aload_n 1, 1) := by decide +kernel
theorem dX3_fire_71 : decode cX3_fire 71 = .ok (.getfield 124, 3) := by decide +kernel
theorem dX3_fire_74 : decode cX3_fire 74 = .ok (.isub, 1) := by decide +kernel
theorem dX3_fire_75 : decode cX3_fire 75 = .ok (.putfield 127, 3) := by decide +kernel
theorem dX3_fire_78 : decode cX3_fire 78 = .ok (.return_, 1) := by decide +kernel
theorem dX3_value_0 : decode cX3_value 0 = .ok (.iload_n 2, 1) := by decide +kernel
theorem dX3_value_1 : decode cX3_value 1 = .ok (.ifCond .lt 11, 3) := by decide +kernel
theorem dX3_value_4 : decode cX3_value 4 = .ok (.iload_n 2, 1) := by decide +kernel
theorem dX3_value_5 : decode cX3_value 5 = .ok (.aload_n 1, 1) := by decide +kernel
theorem dX3_value_6 : decode cX3_value 6 = .ok (.getfield 63, 3) := by decide +kernel
theorem dX3_value_9 : decode cX3_value 9 = .ok (.if_icmp .lt 5, 3) := by decide +kernel
theorem dX3_value_12 : decode cX3_value 12 = .ok (.iconst 0, 1) := by decide +kernel
theorem dX3_value_13 : decode cX3_value 13 = .ok (.ireturn, 1) := by decide +kernel
theorem dX3_value_14 : decode cX3_value 14 = .ok (.iconst 0, 1) := by decide +kernel
theorem dX3_value_15 : decode cX3_value 15 = .ok (.istore 4, 2) := by decide +kernel
theorem dX3_value_17 : decode cX3_value 17 = .ok (.aload_n 1, 1) := by decide +kernel
theorem dX3_value_18 : decode cX3_value 18 = .ok (.getfield 130, 3) := by decide +kernel
theorem dX3_value_21 : decode cX3_value 21 = .ok (.iload_n 2, 1) := by decide +kernel
theorem dX3_value_22 : decode cX3_value 22 = .ok (.iconst 1, 1) := by decide +kernel
theorem dX3_value_23 : decode cX3_value 23 = .ok (.iadd, 1) := by decide +kernel
theorem dX3_value_24 : decode cX3_value 24 = .ok (.iaload, 1) := by decide +kernel
theorem dX3_value_25 : decode cX3_value 25 = .ok (.istore 5, 2) := by decide +kernel
theorem dX3_value_27 : decode cX3_value 27 = .ok (.aload_n 1, 1) := by decide +kernel
theorem dX3_value_28 : decode cX3_value 28 = .ok (.getfield 130, 3) := by decide +kernel
theorem dX3_value_31 : decode cX3_value 31 = .ok (.iload_n 2, 1) := by decide +kernel
theorem dX3_value_32 : decode cX3_value 32 = .ok (.iaload, 1) := by decide +kernel
theorem dX3_value_33 : decode cX3_value 33 = .ok (.istore 6, 2) := by decide +kernel
theorem dX3_value_35 : decode cX3_value 35 = .ok (.iload 6, 2) := by decide +kernel
theorem dX3_value_37 : decode cX3_value 37 = .ok (.iload 5, 2) := by decide +kernel
theorem dX3_value_39 : decode cX3_value 39 = .ok (.if_icmp .ge 168, 3) := by decide +kernel
theorem dX3_value_42 : decode cX3_value 42 = .ok (.aload_n 1, 1) := by decide +kernel
theorem dX3_value_43 : decode cX3_value 43 = .ok (.getfield 133, 3) := by decide +kernel
theorem dX3_value_46 : decode cX3_value 46 = .ok (.iload 6, 2) := by decide +kernel
theorem dX3_value_48 : decode cX3_value 48 = .ok (.iaload, 1) := by decide +kernel
theorem dX3_value_49 : decode cX3_value 49 = .ok (.istore 7, 2) := by decide +kernel
theorem dX3_value_51 : decode cX3_value 51 = .ok (.iload 7, 2) := by decide +kernel
theorem dX3_value_53 : decode cX3_value 53 = .ok (.sipush 1030, 3) := by decide +kernel
theorem dX3_value_56 : decode cX3_value 56 = .ok (.if_icmp .ge 38, 3) := by decide +kernel
theorem dX3_value_59 : decode cX3_value 59 = .ok (.aload_n 0, 1) := by decide +kernel
theorem dX3_value_60 : decode cX3_value 60 = .ok (.getfield 36, 3) := by decide +kernel
theorem dX3_value_63 : decode cX3_value 63 = .ok (.iload 4, 2) := by decide +kernel
theorem dX3_value_65 : decode cX3_value 65 = .ok (.bipush 63, 2) := by decide +kernel
theorem dX3_value_67 : decode cX3_value 67 = .ok (.iand, 1) := by decide +kernel
theorem dX3_value_68 : decode cX3_value 68 = .ok (.iload 7, 2) := by decide +kernel
theorem dX3_value_70 : decode cX3_value 70 = .ok (.sipush 1000, 3) := by decide +kernel
theorem dX3_value_73 : decode cX3_value 73 = .ok (.if_icmp .ge 8, 3) := by decide +kernel
theorem dX3_value_76 : decode cX3_value 76 = .ok (.iload 7, 2) := by decide +kernel
theorem dX3_value_78 : decode cX3_value 78 = .ok (.goto 9, 3) := by decide +kernel
theorem dX3_value_81 : decode cX3_value 81 = .ok (.iload 7, 2) := by decide +kernel
theorem dX3_value_83 : decode cX3_value 83 = .ok (.aload_n 3, 1) := by decide +kernel
theorem dX3_value_84 : decode cX3_value 84 = .ok (.invokestatic 138, 3) := by decide +kernel
theorem dX3_value_87 : decode cX3_value 87 = .ok (.iastore, 1) := by decide +kernel
theorem dX3_value_88 : decode cX3_value 88 = .ok (.iinc 4 1, 3) := by decide +kernel
theorem dX3_value_91 : decode cX3_value 91 = .ok (.goto 110, 3) := by decide +kernel
theorem dX3_value_94 : decode cX3_value 94 = .ok (.iload 7, 2) := by decide +kernel
theorem dX3_value_96 : decode cX3_value 96 = .ok (.sipush 1037, 3) := by decide +kernel
theorem dX3_value_99 : decode cX3_value 99 = .ok (.if_icmp .lt 56, 3) := by decide +kernel
theorem dX3_value_102 : decode cX3_value 102 = .ok (.aload_n 0, 1) := by decide +kernel
theorem dX3_value_103 : decode cX3_value 103 = .ok (.getfield 36, 3) := by decide +kernel
theorem dX3_value_106 : decode cX3_value 106 = .ok (.iload 4, 2) := by decide +kernel
theorem dX3_value_108 : decode cX3_value 108 = .ok (.iconst 1, 1) := by decide +kernel
theorem dX3_value_109 : decode cX3_value 109 = .ok (.isub, 1) := by decide +kernel
theorem dX3_value_110 : decode cX3_value 110 = .ok (.bipush 63, 2) := by decide +kernel
theorem dX3_value_112 : decode cX3_value 112 = .ok (.iand, 1) := by decide +kernel
theorem dX3_value_113 : decode cX3_value 113 = .ok (.iaload, 1) := by decide +kernel
theorem dX3_value_114 : decode cX3_value 114 = .ok (.istore 8, 2) := by decide +kernel
theorem dX3_value_116 : decode cX3_value 116 = .ok (.aload_n 0, 1) := by decide +kernel
theorem dX3_value_117 : decode cX3_value 117 = .ok (.getfield 36, 3) := by decide +kernel
theorem dX3_value_120 : decode cX3_value 120 = .ok (.iload 4, 2) := by decide +kernel
theorem dX3_value_122 : decode cX3_value 122 = .ok (.iconst 1, 1) := by decide +kernel
theorem dX3_value_123 : decode cX3_value 123 = .ok (.isub, 1) := by decide +kernel
theorem dX3_value_124 : decode cX3_value 124 = .ok (.bipush 63, 2) := by decide +kernel
theorem dX3_value_126 : decode cX3_value 126 = .ok (.iand, 1) := by decide +kernel
theorem dX3_value_127 : decode cX3_value 127 = .ok (.iload 7, 2) := by decide +kernel
theorem dX3_value_129 : decode cX3_value 129 = .ok (.sipush 1038, 3) := by decide +kernel
theorem dX3_value_132 : decode cX3_value 132 = .ok (.if_icmp .ne 9, 3) := by decide +kernel
theorem dX3_value_135 : decode cX3_value 135 = .ok (.iload 8, 2) := by decide +kernel
theorem dX3_value_137 : decode cX3_value 137 = .ok (.ineg, 1) := by decide +kernel
theorem dX3_value_138 : decode cX3_value 138 = .ok (.goto 13, 3) := by decide +kernel
theorem dX3_value_141 : decode cX3_value 141 = .ok (.iload 8, 2) := by decide +kernel
theorem dX3_value_143 : decode cX3_value 143 = .ok (.ifCond .ne 7, 3) := by decide +kernel
theorem dX3_value_146 : decode cX3_value 146 = .ok (.iconst 1, 1) := by decide +kernel
theorem dX3_value_147 : decode cX3_value 147 = .ok (.goto 4, 3) := by decide +kernel
theorem dX3_value_150 : decode cX3_value 150 = .ok (.iconst 0, 1) := by decide +kernel
theorem dX3_value_151 : decode cX3_value 151 = .ok (.iastore, 1) := by decide +kernel
theorem dX3_value_152 : decode cX3_value 152 = .ok (.goto 49, 3) := by decide +kernel
theorem dX3_value_155 : decode cX3_value 155 = .ok (.iinc 4 (-1), 3) := by decide +kernel
theorem dX3_value_158 : decode cX3_value 158 = .ok (.aload_n 0, 1) := by decide +kernel
theorem dX3_value_159 : decode cX3_value 159 = .ok (.getfield 36, 3) := by decide +kernel
theorem dX3_value_162 : decode cX3_value 162 = .ok (.iload 4, 2) := by decide +kernel
theorem dX3_value_164 : decode cX3_value 164 = .ok (.iconst 1, 1) := by decide +kernel
theorem dX3_value_165 : decode cX3_value 165 = .ok (.isub, 1) := by decide +kernel
theorem dX3_value_166 : decode cX3_value 166 = .ok (.bipush 63, 2) := by decide +kernel
theorem dX3_value_168 : decode cX3_value 168 = .ok (.iand, 1) := by decide +kernel
theorem dX3_value_169 : decode cX3_value 169 = .ok (.iaload, 1) := by decide +kernel
theorem dX3_value_170 : decode cX3_value 170 = .ok (.istore 8, 2) := by decide +kernel
theorem dX3_value_172 : decode cX3_value 172 = .ok (.aload_n 0, 1) := by decide +kernel
theorem dX3_value_173 : decode cX3_value 173 = .ok (.getfield 36, 3) := by decide +kernel
theorem dX3_value_176 : decode cX3_value 176 = .ok (.iload 4, 2) := by decide +kernel
theorem dX3_value_178 : decode cX3_value 178 = .ok (.iconst 1, 1) := by decide +kernel
theorem dX3_value_179 : decode cX3_value 179 = .ok (.isub, 1) := by decide +kernel
theorem dX3_value_180 : decode cX3_value 180 = .ok (.bipush 63, 2) := by decide +kernel
theorem dX3_value_182 : decode cX3_value 182 = .ok (.iand, 1) := by decide +kernel
theorem dX3_value_183 : decode cX3_value 183 = .ok (.iload 7, 2) := by decide +kernel
theorem dX3_value_185 : decode cX3_value 185 = .ok (.iload 8, 2) := by decide +kernel
theorem dX3_value_187 : decode cX3_value 187 = .ok (.aload_n 0, 1) := by decide +kernel
theorem dX3_value_188 : decode cX3_value 188 = .ok (.getfield 36, 3) := by decide +kernel
theorem dX3_value_191 : decode cX3_value 191 = .ok (.iload 4, 2) := by decide +kernel
theorem dX3_value_193 : decode cX3_value 193 = .ok (.bipush 63, 2) := by decide +kernel
theorem dX3_value_195 : decode cX3_value 195 = .ok (.iand, 1) := by decide +kernel
theorem dX3_value_196 : decode cX3_value 196 = .ok (.iaload, 1) := by decide +kernel
theorem dX3_value_197 : decode cX3_value 197 = .ok (.invokestatic 142, 3) := by decide +kernel
theorem dX3_value_200 : decode cX3_value 200 = .ok (.iastore, 1) := by decide +kernel
theorem dX3_value_201 : decode cX3_value 201 = .ok (.iinc 6 1, 3) := by decide +kernel
theorem dX3_value_204 : decode cX3_value 204 = .ok (.goto (-169), 3) := by decide +kernel
theorem dX3_value_207 : decode cX3_value 207 = .ok (.iload 4, 2) := by decide +kernel
theorem dX3_value_209 : decode cX3_value 209 = .ok (.iconst 1, 1) := by decide +kernel
theorem dX3_value_210 : decode cX3_value 210 = .ok (.if_icmp .ne 12, 3) := by decide +kernel
theorem dX3_value_213 : decode cX3_value 213 = .ok (.aload_n 0, 1) := by decide +kernel
theorem dX3_value_214 : decode cX3_value 214 = .ok (.getfield 36, 3) := by decide +kernel
theorem dX3_value_217 : decode cX3_value 217 = .ok (.iconst 0, 1) := by decide +kernel
theorem dX3_value_218 : decode cX3_value 218 = .ok (.iaload, 1) := by decide +kernel
theorem dX3_value_219 : decode cX3_value 219 = .ok (.goto 4, 3) := by decide +kernel
theorem dX3_value_222 : decode cX3_value 222 = .ok (.iconst 0, 1) := by decide +kernel
theorem dX3_value_223 : decode cX3_value 223 = .ok (.ireturn, 1) := by decide +kernel
theorem dX3_thing_0 : decode cX3_thing 0 = .ok (.iload_n 0, 1) := by decide +kernel
theorem dX3_thing_1 : decode cX3_thing 1 = .ok (.sipush 1010, 3) := by decide +kernel
theorem dX3_thing_4 : decode cX3_thing 4 = .ok (.if_icmp .ge 22, 3) := by decide +kernel
theorem dX3_thing_7 : decode cX3_thing 7 = .ok (.aload_n 1, 1) := by decide +kernel
theorem dX3_thing_8 : decode cX3_thing 8 = .ok (.getfield 146, 3) := by decide +kernel
theorem dX3_thing_11 : decode cX3_thing 11 = .ok (.iload_n 0, 1) := by decide +kernel
theorem dX3_thing_12 : decode cX3_thing 12 = .ok (.sipush 1000, 3) := by decide +kernel
theorem dX3_thing_15 : decode cX3_thing 15 = .ok (.isub, 1) := by decide +kernel
theorem dX3_thing_16 : decode cX3_thing 16 = .ok (.bipush 8, 2) := by decide +kernel
theorem dX3_thing_18 : decode cX3_thing 18 = .ok (.imul, 1) := by decide +kernel
theorem dX3_thing_19 : decode cX3_thing 19 = .ok (.lushr, 1) := by decide +kernel
theorem dX3_thing_20 : decode cX3_thing 20 = .ok (.l2i, 1) := by decide +kernel
theorem dX3_thing_21 : decode cX3_thing 21 = .ok (.sipush 255, 3) := by decide +kernel
theorem dX3_thing_24 : decode cX3_thing 24 = .ok (.iand, 1) := by decide +kernel
theorem dX3_thing_25 : decode cX3_thing 25 = .ok (.ireturn, 1) := by decide +kernel
theorem dX3_thing_26 : decode cX3_thing 26 = .ok (.iload_n 0, 1) := by decide +kernel
theorem dX3_thing_27 : decode cX3_thing 27 = .ok (.sipush 1020, 3) := by decide +kernel
theorem dX3_thing_30 : decode cX3_thing 30 = .ok (.if_icmp .ge 32, 3) := by decide +kernel
theorem dX3_thing_33 : decode cX3_thing 33 = .ok (.aload_n 1, 1) := by decide +kernel
theorem dX3_thing_34 : decode cX3_thing 34 = .ok (.getfield 76, 3) := by decide +kernel
theorem dX3_thing_37 : decode cX3_thing 37 = .ok (.iload_n 0, 1) := by decide +kernel
theorem dX3_thing_38 : decode cX3_thing 38 = .ok (.sipush 1010, 3) := by decide +kernel
theorem dX3_thing_41 : decode cX3_thing 41 = .ok (.isub, 1) := by decide +kernel
theorem dX3_thing_42 : decode cX3_thing 42 = .ok (.bipush 6, 2) := by decide +kernel
theorem dX3_thing_44 : decode cX3_thing 44 = .ok (.imul, 1) := by decide +kernel
theorem dX3_thing_45 : decode cX3_thing 45 = .ok (.lushr, 1) := by decide +kernel
theorem dX3_thing_46 : decode cX3_thing 46 = .ok (.l2i, 1) := by decide +kernel
theorem dX3_thing_47 : decode cX3_thing 47 = .ok (.bipush 63, 2) := by decide +kernel
theorem dX3_thing_49 : decode cX3_thing 49 = .ok (.iand, 1) := by decide +kernel
theorem dX3_thing_50 : decode cX3_thing 50 = .ok (.istore_n 2, 1) := by decide +kernel
theorem dX3_thing_51 : decode cX3_thing 51 = .ok (.iload_n 2, 1) := by decide +kernel
theorem dX3_thing_52 : decode cX3_thing 52 = .ok (.iconst 4, 1) := by decide +kernel
theorem dX3_thing_53 : decode cX3_thing 53 = .ok (.if_icmp .ge 7, 3) := by decide +kernel
theorem dX3_thing_56 : decode cX3_thing 56 = .ok (.iload_n 2, 1) := by decide +kernel
theorem dX3_thing_57 : decode cX3_thing 57 = .ok (.goto 4, 3) := by decide +kernel
theorem dX3_thing_60 : decode cX3_thing 60 = .ok (.iconst 4, 1) := by decide +kernel
theorem dX3_thing_61 : decode cX3_thing 61 = .ok (.ireturn, 1) := by decide +kernel
theorem dX3_thing_62 : decode cX3_thing 62 = .ok (.iload_n 0, 1) := by decide +kernel
theorem dX3_thing_63 : decode cX3_thing 63 = .ok (.tableswitch 40 1020 1022 #[25, 30, 35], 25) := by decide +kernel
theorem dX3_thing_88 : decode cX3_thing 88 = .ok (.aload_n 1, 1) := by decide +kernel
theorem dX3_thing_89 : decode cX3_thing 89 = .ok (.getfield 124, 3) := by decide +kernel
theorem dX3_thing_92 : decode cX3_thing 92 = .ok (.ireturn, 1) := by decide +kernel
theorem dX3_thing_93 : decode cX3_thing 93 = .ok (.aload_n 1, 1) := by decide +kernel
theorem dX3_thing_94 : decode cX3_thing 94 = .ok (.getfield 127, 3) := by decide +kernel
theorem dX3_thing_97 : decode cX3_thing 97 = .ok (.ireturn, 1) := by decide +kernel
theorem dX3_thing_98 : decode cX3_thing 98 = .ok (.aload_n 1, 1) := by decide +kernel
theorem dX3_thing_99 : decode cX3_thing 99 = .ok (.getfield 97, 3) := by decide +kernel
theorem dX3_thing_102 : decode cX3_thing 102 = .ok (.ireturn, 1) := by decide +kernel
theorem dX3_thing_103 : decode cX3_thing 103 = .ok (.aload_n 1, 1) := by decide +kernel
theorem dX3_thing_104 : decode cX3_thing 104 = .ok (.getfield 149, 3) := by decide +kernel
theorem dX3_thing_107 : decode cX3_thing 107 = .ok (.ireturn, 1) := by decide +kernel
theorem dX3_joined_0 : decode cX3_joined 0 = .ok (.iload_n 0, 1) := by decide +kernel
theorem dX3_joined_1 : decode cX3_joined 1 = .ok (.tableswitch 102 1030 1035 #[39, 51, 65, 76, 87, 98], 39) := by decide +kernel
theorem dX3_joined_40 : decode cX3_joined 40 = .ok (.iload_n 1, 1) := by decide +kernel
theorem dX3_joined_41 : decode cX3_joined 41 = .ok (.iload_n 2, 1) := by decide +kernel
theorem dX3_joined_42 : decode cX3_joined 42 = .ok (.ior, 1) := by decide +kernel
theorem dX3_joined_43 : decode cX3_joined 43 = .ok (.ifCond .eq 7, 3) := by decide +kernel
theorem dX3_joined_46 : decode cX3_joined 46 = .ok (.iconst 1, 1) := by decide +kernel
theorem dX3_joined_47 : decode cX3_joined 47 = .ok (.goto 4, 3) := by decide +kernel
theorem dX3_joined_50 : decode cX3_joined 50 = .ok (.iconst 0, 1) := by decide +kernel
theorem dX3_joined_51 : decode cX3_joined 51 = .ok (.ireturn, 1) := by decide +kernel
theorem dX3_joined_52 : decode cX3_joined 52 = .ok (.iload_n 1, 1) := by decide +kernel
theorem dX3_joined_53 : decode cX3_joined 53 = .ok (.ifCond .eq 11, 3) := by decide +kernel
theorem dX3_joined_56 : decode cX3_joined 56 = .ok (.iload_n 2, 1) := by decide +kernel
theorem dX3_joined_57 : decode cX3_joined 57 = .ok (.ifCond .eq 7, 3) := by decide +kernel
theorem dX3_joined_60 : decode cX3_joined 60 = .ok (.iconst 1, 1) := by decide +kernel
theorem dX3_joined_61 : decode cX3_joined 61 = .ok (.goto 4, 3) := by decide +kernel
theorem dX3_joined_64 : decode cX3_joined 64 = .ok (.iconst 0, 1) := by decide +kernel
theorem dX3_joined_65 : decode cX3_joined 65 = .ok (.ireturn, 1) := by decide +kernel
theorem dX3_joined_66 : decode cX3_joined 66 = .ok (.iload_n 1, 1) := by decide +kernel
theorem dX3_joined_67 : decode cX3_joined 67 = .ok (.iload_n 2, 1) := by decide +kernel
theorem dX3_joined_68 : decode cX3_joined 68 = .ok (.if_icmp .ge 7, 3) := by decide +kernel
theorem dX3_joined_71 : decode cX3_joined 71 = .ok (.iconst 1, 1) := by decide +kernel
theorem dX3_joined_72 : decode cX3_joined 72 = .ok (.goto 4, 3) := by decide +kernel
theorem dX3_joined_75 : decode cX3_joined 75 = .ok (.iconst 0, 1) := by decide +kernel
theorem dX3_joined_76 : decode cX3_joined 76 = .ok (.ireturn, 1) := by decide +kernel
theorem dX3_joined_77 : decode cX3_joined 77 = .ok (.iload_n 1, 1) := by decide +kernel
theorem dX3_joined_78 : decode cX3_joined 78 = .ok (.iload_n 2, 1) := by decide +kernel
theorem dX3_joined_79 : decode cX3_joined 79 = .ok (.if_icmp .le 7, 3) := by decide +kernel
theorem dX3_joined_82 : decode cX3_joined 82 = .ok (.iconst 1, 1) := by decide +kernel
theorem dX3_joined_83 : decode cX3_joined 83 = .ok (.goto 4, 3) := by decide +kernel
theorem dX3_joined_86 : decode cX3_joined 86 = .ok (.iconst 0, 1) := by decide +kernel
theorem dX3_joined_87 : decode cX3_joined 87 = .ok (.ireturn, 1) := by decide +kernel
theorem dX3_joined_88 : decode cX3_joined 88 = .ok (.iload_n 1, 1) := by decide +kernel
theorem dX3_joined_89 : decode cX3_joined 89 = .ok (.iload_n 2, 1) := by decide +kernel
theorem dX3_joined_90 : decode cX3_joined 90 = .ok (.if_icmp .ne 7, 3) := by decide +kernel
theorem dX3_joined_93 : decode cX3_joined 93 = .ok (.iconst 1, 1) := by decide +kernel
theorem dX3_joined_94 : decode cX3_joined 94 = .ok (.goto 4, 3) := by decide +kernel
theorem dX3_joined_97 : decode cX3_joined 97 = .ok (.iconst 0, 1) := by decide +kernel
theorem dX3_joined_98 : decode cX3_joined 98 = .ok (.ireturn, 1) := by decide +kernel
theorem dX3_joined_99 : decode cX3_joined 99 = .ok (.iload_n 1, 1) := by decide +kernel
theorem dX3_joined_100 : decode cX3_joined 100 = .ok (.iload_n 2, 1) := by decide +kernel
theorem dX3_joined_101 : decode cX3_joined 101 = .ok (.iadd, 1) := by decide +kernel
theorem dX3_joined_102 : decode cX3_joined 102 = .ok (.ireturn, 1) := by decide +kernel
theorem dX3_joined_103 : decode cX3_joined 103 = .ok (.iload_n 1, 1) := by decide +kernel
theorem dX3_joined_104 : decode cX3_joined 104 = .ok (.iload_n 2, 1) := by decide +kernel
theorem dX3_joined_105 : decode cX3_joined 105 = .ok (.isub, 1) := by decide +kernel
theorem dX3_joined_106 : decode cX3_joined 106 = .ok (.ireturn, 1) := by decide +kernel
theorem dX4_init_0 : decode cX4_init 0 = .ok (.aload_n 0, 1) := by decide +kernel
theorem dX4_init_1 : decode cX4_init 1 = .ok (.invokespecial 3, 3) := by decide +kernel
theorem dX4_init_4 : decode cX4_init 4 = .ok (.aload_n 0, 1) := by decide +kernel
theorem dX4_init_5 : decode cX4_init 5 = .ok (.lconst 0, 1) := by decide +kernel
theorem dX4_init_6 : decode cX4_init 6 = .ok (.putfield 9, 3) := by decide +kernel
theorem dX4_init_9 : decode cX4_init 9 = .ok (.aload_n 0, 1) := by decide +kernel
theorem dX4_init_10 : decode cX4_init 10 = .ok (.lconst 0, 1) := by decide +kernel
theorem dX4_init_11 : decode cX4_init 11 = .ok (.putfield 15, 3) := by decide +kernel
theorem dX4_init_14 : decode cX4_init 14 = .ok (.aload_n 0, 1) := by decide +kernel
theorem dX4_init_15 : decode cX4_init 15 = .ok (.iconst 0, 1) := by decide +kernel
theorem dX4_init_16 : decode cX4_init 16 = .ok (.putfield 18, 3) := by decide +kernel
theorem dX4_init_19 : decode cX4_init 19 = .ok (.aload_n 0, 1) := by decide +kernel
theorem dX4_init_20 : decode cX4_init 20 = .ok (.iconst 0, 1) := by decide +kernel
theorem dX4_init_21 : decode cX4_init 21 = .ok (.putfield 22, 3) := by decide +kernel
theorem dX4_init_24 : decode cX4_init 24 = .ok (.aload_n 0, 1) := by decide +kernel
theorem dX4_init_25 : decode cX4_init 25 = .ok (.iconst 0, 1) := by decide +kernel
theorem dX4_init_26 : decode cX4_init 26 = .ok (.putfield 25, 3) := by decide +kernel
theorem dX4_init_29 : decode cX4_init 29 = .ok (.aload_n 0, 1) := by decide +kernel
theorem dX4_init_30 : decode cX4_init 30 = .ok (.iconst 0, 1) := by decide +kernel
theorem dX4_init_31 : decode cX4_init 31 = .ok (.putfield 28, 3) := by decide +kernel
theorem dX4_init_34 : decode cX4_init 34 = .ok (.aload_n 0, 1) := by decide +kernel
theorem dX4_init_35 : decode cX4_init 35 = .ok (.iconst 0, 1) := by decide +kernel
theorem dX4_init_36 : decode cX4_init 36 = .ok (.putfield 31, 3) := by decide +kernel
theorem dX4_init_39 : decode cX4_init 39 = .ok (.return_, 1) := by decide +kernel
theorem dX4_isSlot_0 : decode cX4_isSlot 0 = .ok (.iload_n 0, 1) := by decide +kernel
theorem dX4_isSlot_1 : decode cX4_isSlot 1 = .ok (.ifCond .lt 13, 3) := by decide +kernel
theorem dX4_isSlot_4 : decode cX4_isSlot 4 = .ok (.iload_n 0, 1) := by decide +kernel
theorem dX4_isSlot_5 : decode cX4_isSlot 5 = .ok (.bipush 8, 2) := by decide +kernel
theorem dX4_isSlot_7 : decode cX4_isSlot 7 = .ok (.if_icmp .ge 7, 3) := by decide +kernel
theorem dX4_isSlot_10 : decode cX4_isSlot 10 = .ok (.iconst 1, 1) := by decide +kernel
theorem dX4_isSlot_11 : decode cX4_isSlot 11 = .ok (.goto 4, 3) := by decide +kernel
theorem dX4_isSlot_14 : decode cX4_isSlot 14 = .ok (.iconst 0, 1) := by decide +kernel
theorem dX4_isSlot_15 : decode cX4_isSlot 15 = .ok (.ireturn, 1) := by decide +kernel
theorem dX4_copy_0 : decode cX4_copy 0 = .ok (.aload_n 0, 1) := by decide +kernel
theorem dX4_copy_1 : decode cX4_copy 1 = .ok (.aload_n 1, 1) := by decide +kernel
theorem dX4_copy_2 : decode cX4_copy 2 = .ok (.getfield 9, 3) := by decide +kernel
theorem dX4_copy_5 : decode cX4_copy 5 = .ok (.putfield 9, 3) := by decide +kernel
theorem dX4_copy_8 : decode cX4_copy 8 = .ok (.aload_n 0, 1) := by decide +kernel
theorem dX4_copy_9 : decode cX4_copy 9 = .ok (.aload_n 1, 1) := by decide +kernel
theorem dX4_copy_10 : decode cX4_copy 10 = .ok (.getfield 15, 3) := by decide +kernel
theorem dX4_copy_13 : decode cX4_copy 13 = .ok (.putfield 15, 3) := by decide +kernel
theorem dX4_copy_16 : decode cX4_copy 16 = .ok (.return_, 1) := by decide +kernel
theorem dX4_slotValue_0 : decode cX4_slotValue 0 = .ok (.aload_n 0, 1) := by decide +kernel
theorem dX4_slotValue_1 : decode cX4_slotValue 1 = .ok (.getfield 9, 3) := by decide +kernel
theorem dX4_slotValue_4 : decode cX4_slotValue 4 = .ok (.iload_n 1, 1) := by decide +kernel
theorem dX4_slotValue_5 : decode cX4_slotValue 5 = .ok (.bipush 8, 2) := by decide +kernel
theorem dX4_slotValue_7 : decode cX4_slotValue 7 = .ok (.imul, 1) := by decide +kernel
theorem dX4_slotValue_8 : decode cX4_slotValue 8 = .ok (.lushr, 1) := by decide +kernel
theorem dX4_slotValue_9 : decode cX4_slotValue 9 = .ok (.l2i, 1) := by decide +kernel
theorem dX4_slotValue_10 : decode cX4_slotValue 10 = .ok (.sipush 255, 3) := by decide +kernel
theorem dX4_slotValue_13 : decode cX4_slotValue 13 = .ok (.iand, 1) := by decide +kernel
theorem dX4_slotValue_14 : decode cX4_slotValue 14 = .ok (.ireturn, 1) := by decide +kernel
theorem dX4_putSlot_0 : decode cX4_putSlot 0 = .ok (.iload_n 1, 1) := by decide +kernel
theorem dX4_putSlot_1 : decode cX4_putSlot 1 = .ok (.bipush 8, 2) := by decide +kernel
theorem dX4_putSlot_3 : decode cX4_putSlot 3 = .ok (.imul, 1) := by decide +kernel
theorem dX4_putSlot_4 : decode cX4_putSlot 4 = .ok (.istore_n 3, 1) := by decide +kernel
theorem dX4_putSlot_5 : decode cX4_putSlot 5 = .ok (.aload_n 0, 1) := by decide +kernel
theorem dX4_putSlot_6 : decode cX4_putSlot 6 = .ok (.aload_n 0, 1) := by decide +kernel
theorem dX4_putSlot_7 : decode cX4_putSlot 7 = .ok (.getfield 9, 3) := by decide +kernel
theorem dX4_putSlot_10 : decode cX4_putSlot 10 = .ok (.ldc2_w 34, 3) := by decide +kernel
theorem dX4_putSlot_13 : decode cX4_putSlot 13 = .ok (.iload_n 3, 1) := by decide +kernel
theorem dX4_putSlot_14 : decode cX4_putSlot 14 = .ok (.lshl, 1) := by decide +kernel
theorem dX4_putSlot_15 : decode cX4_putSlot 15 = .ok (.ldc2_w 36, 3) := by decide +kernel
theorem dX4_putSlot_18 : decode cX4_putSlot 18 = .ok (.lxor, 1) := by decide +kernel
theorem dX4_putSlot_19 : decode cX4_putSlot 19 = .ok (.land, 1) := by decide +kernel
theorem dX4_putSlot_20 : decode cX4_putSlot 20 = .ok (.iload_n 2, 1) := by decide +kernel
theorem dX4_putSlot_21 : decode cX4_putSlot 21 = .ok (.sipush 255, 3) := by decide +kernel
theorem dX4_putSlot_24 : decode cX4_putSlot 24 = .ok (.iand, 1) := by decide +kernel
theorem dX4_putSlot_25 : decode cX4_putSlot 25 = .ok (.i2l, 1) := by decide +kernel
theorem dX4_putSlot_26 : decode cX4_putSlot 26 = .ok (.iload_n 3, 1) := by decide +kernel
theorem dX4_putSlot_27 : decode cX4_putSlot 27 = .ok (.lshl, 1) := by decide +kernel
theorem dX4_putSlot_28 : decode cX4_putSlot 28 = .ok (.lor, 1) := by decide +kernel
theorem dX4_putSlot_29 : decode cX4_putSlot 29 = .ok (.putfield 9, 3) := by decide +kernel
theorem dX4_putSlot_32 : decode cX4_putSlot 32 = .ok (.return_, 1) := by decide +kernel
theorem dX4_targetOf_0 : decode cX4_targetOf 0 = .ok (.aload_n 0, 1) := by decide +kernel
theorem dX4_targetOf_1 : decode cX4_targetOf 1 = .ok (.getfield 15, 3) := by decide +kernel
theorem dX4_targetOf_4 : decode cX4_targetOf 4 = .ok (.iload_n 1, 1) := by decide +kernel
theorem dX4_targetOf_5 : decode cX4_targetOf 5 = .ok (.bipush 6, 2) := by decide +kernel
theorem dX4_targetOf_7 : decode cX4_targetOf 7 = .ok (.imul, 1) := by decide +kernel
theorem dX4_targetOf_8 : decode cX4_targetOf 8 = .ok (.lushr, 1) := by decide +kernel
theorem dX4_targetOf_9 : decode cX4_targetOf 9 = .ok (.l2i, 1) := by decide +kernel
theorem dX4_targetOf_10 : decode cX4_targetOf 10 = .ok (.iconst 3, 1) := by decide +kernel
theorem dX4_targetOf_11 : decode cX4_targetOf 11 = .ok (.iand, 1) := by decide +kernel
theorem dX4_targetOf_12 : decode cX4_targetOf 12 = .ok (.ireturn, 1) := by decide +kernel
theorem dX4_tenthsOf_0 : decode cX4_tenthsOf 0 = .ok (.aload_n 0, 1) := by decide +kernel
theorem dX4_tenthsOf_1 : decode cX4_tenthsOf 1 = .ok (.getfield 15, 3) := by decide +kernel
theorem dX4_tenthsOf_4 : decode cX4_tenthsOf 4 = .ok (.iload_n 1, 1) := by decide +kernel
theorem dX4_tenthsOf_5 : decode cX4_tenthsOf 5 = .ok (.invokestatic 38, 3) := by decide +kernel
theorem dX4_tenthsOf_8 : decode cX4_tenthsOf 8 = .ok (.ireturn, 1) := by decide +kernel
theorem dX4_tenthsIn_0 : decode cX4_tenthsIn 0 = .ok (.lload_n 0, 1) := by decide +kernel
theorem dX4_tenthsIn_1 : decode cX4_tenthsIn 1 = .ok (.iload_n 2, 1) := by decide +kernel
theorem dX4_tenthsIn_2 : decode cX4_tenthsIn 2 = .ok (.bipush 6, 2) := by decide +kernel
theorem dX4_tenthsIn_4 : decode cX4_tenthsIn 4 = .ok (.imul, 1) := by decide +kernel
theorem dX4_tenthsIn_5 : decode cX4_tenthsIn 5 = .ok (.iconst 2, 1) := by decide +kernel
theorem dX4_tenthsIn_6 : decode cX4_tenthsIn 6 = .ok (.iadd, 1) := by decide +kernel
theorem dX4_tenthsIn_7 : decode cX4_tenthsIn 7 = .ok (.lushr, 1) := by decide +kernel
theorem dX4_tenthsIn_8 : decode cX4_tenthsIn 8 = .ok (.l2i, 1) := by decide +kernel
theorem dX4_tenthsIn_9 : decode cX4_tenthsIn 9 = .ok (.bipush 15, 2) := by decide +kernel
theorem dX4_tenthsIn_11 : decode cX4_tenthsIn 11 = .ok (.iand, 1) := by decide +kernel
theorem dX4_tenthsIn_12 : decode cX4_tenthsIn 12 = .ok (.ireturn, 1) := by decide +kernel
theorem dX4_placeOf_0 : decode cX4_placeOf 0 = .ok (.aload_n 0, 1) := by decide +kernel
theorem dX4_placeOf_1 : decode cX4_placeOf 1 = .ok (.getfield 15, 3) := by decide +kernel
theorem dX4_placeOf_4 : decode cX4_placeOf 4 = .ok (.iload_n 1, 1) := by decide +kernel
theorem dX4_placeOf_5 : decode cX4_placeOf 5 = .ok (.bipush 6, 2) := by decide +kernel
theorem dX4_placeOf_7 : decode cX4_placeOf 7 = .ok (.imul, 1) := by decide +kernel
theorem dX4_placeOf_8 : decode cX4_placeOf 8 = .ok (.lushr, 1) := by decide +kernel
theorem dX4_placeOf_9 : decode cX4_placeOf 9 = .ok (.l2i, 1) := by decide +kernel
theorem dX4_placeOf_10 : decode cX4_placeOf 10 = .ok (.bipush 63, 2) := by decide +kernel
theorem dX4_placeOf_12 : decode cX4_placeOf 12 = .ok (.iand, 1) := by decide +kernel
theorem dX4_placeOf_13 : decode cX4_placeOf 13 = .ok (.istore_n 2, 1) := by decide +kernel
theorem dX4_placeOf_14 : decode cX4_placeOf 14 = .ok (.iload_n 2, 1) := by decide +kernel
theorem dX4_placeOf_15 : decode cX4_placeOf 15 = .ok (.iconst 4, 1) := by decide +kernel
theorem dX4_placeOf_16 : decode cX4_placeOf 16 = .ok (.if_icmp .ge 7, 3) := by decide +kernel
theorem dX4_placeOf_19 : decode cX4_placeOf 19 = .ok (.iload_n 2, 1) := by decide +kernel
theorem dX4_placeOf_20 : decode cX4_placeOf 20 = .ok (.goto 4, 3) := by decide +kernel
theorem dX4_placeOf_23 : decode cX4_placeOf 23 = .ok (.iconst 4, 1) := by decide +kernel
theorem dX4_placeOf_24 : decode cX4_placeOf 24 = .ok (.ireturn, 1) := by decide +kernel
theorem dX4_putPart_0 : decode cX4_putPart 0 = .ok (.iload_n 1, 1) := by decide +kernel
theorem dX4_putPart_1 : decode cX4_putPart 1 = .ok (.bipush 6, 2) := by decide +kernel
theorem dX4_putPart_3 : decode cX4_putPart 3 = .ok (.imul, 1) := by decide +kernel
theorem dX4_putPart_4 : decode cX4_putPart 4 = .ok (.istore 4, 2) := by decide +kernel
theorem dX4_putPart_6 : decode cX4_putPart 6 = .ok (.iload_n 3, 1) := by decide +kernel
theorem dX4_putPart_7 : decode cX4_putPart 7 = .ok (.bipush 15, 2) := by decide +kernel
theorem dX4_putPart_9 : decode cX4_putPart 9 = .ok (.iand, 1) := by decide +kernel
theorem dX4_putPart_10 : decode cX4_putPart 10 = .ok (.iconst 2, 1) := by decide +kernel
theorem dX4_putPart_11 : decode cX4_putPart 11 = .ok (.ishl, 1) := by decide +kernel
theorem dX4_putPart_12 : decode cX4_putPart 12 = .ok (.iload_n 2, 1) := by decide +kernel
theorem dX4_putPart_13 : decode cX4_putPart 13 = .ok (.iconst 3, 1) := by decide +kernel
theorem dX4_putPart_14 : decode cX4_putPart 14 = .ok (.iand, 1) := by decide +kernel
theorem dX4_putPart_15 : decode cX4_putPart 15 = .ok (.ior, 1) := by decide +kernel
theorem dX4_putPart_16 : decode cX4_putPart 16 = .ok (.i2l, 1) := by decide +kernel
theorem dX4_putPart_17 : decode cX4_putPart 17 = .ok (.lstore 5, 2) := by decide +kernel
theorem dX4_putPart_19 : decode cX4_putPart 19 = .ok (.aload_n 0, 1) := by decide +kernel
theorem dX4_putPart_20 : decode cX4_putPart 20 = .ok (.aload_n 0, 1) := by decide +kernel
theorem dX4_putPart_21 : decode cX4_putPart 21 = .ok (.getfield 15, 3) := by decide +kernel
theorem dX4_putPart_24 : decode cX4_putPart 24 = .ok (.ldc2_w 42, 3) := by decide +kernel
theorem dX4_putPart_27 : decode cX4_putPart 27 = .ok (.iload 4, 2) := by decide +kernel
theorem dX4_putPart_29 : decode cX4_putPart 29 = .ok (.lshl, 1) := by decide +kernel
theorem dX4_putPart_30 : decode cX4_putPart 30 = .ok (.ldc2_w 36, 3) := by decide +kernel
theorem dX4_putPart_33 : decode cX4_putPart 33 = .ok (.lxor, 1) := by decide +kernel
theorem dX4_putPart_34 : decode cX4_putPart 34 = .ok (.land, 1) := by decide +kernel
theorem dX4_putPart_35 : decode cX4_putPart 35 = .ok (.lload 5, 2) := by decide +kernel
theorem dX4_putPart_37 : decode cX4_putPart 37 = .ok (.iload 4, 2) := by decide +kernel
theorem dX4_putPart_39 : decode cX4_putPart 39 = .ok (.lshl, 1) := by decide +kernel
theorem dX4_putPart_40 : decode cX4_putPart 40 = .ok (.lor, 1) := by decide +kernel
theorem dX4_putPart_41 : decode cX4_putPart 41 = .ok (.putfield 15, 3) := by decide +kernel
theorem dX4_putPart_44 : decode cX4_putPart 44 = .ok (.return_, 1) := by decide +kernel
theorem dX4_lineOf_0 : decode cX4_lineOf 0 = .ok (.aload_n 0, 1) := by decide +kernel
theorem dX4_lineOf_1 : decode cX4_lineOf 1 = .ok (.getfield 15, 3) := by decide +kernel
theorem dX4_lineOf_4 : decode cX4_lineOf 4 = .ok (.bipush 24, 2) := by decide +kernel
theorem dX4_lineOf_6 : decode cX4_lineOf 6 = .ok (.iload_n 1, 1) := by decide +kernel
theorem dX4_lineOf_7 : decode cX4_lineOf 7 = .ok (.iconst 4, 1) := by decide +kernel
theorem dX4_lineOf_8 : decode cX4_lineOf 8 = .ok (.imul, 1) := by decide +kernel
theorem dX4_lineOf_9 : decode cX4_lineOf 9 = .ok (.iadd, 1) := by decide +kernel
theorem dX4_lineOf_10 : decode cX4_lineOf 10 = .ok (.lushr, 1) := by decide +kernel
theorem dX4_lineOf_11 : decode cX4_lineOf 11 = .ok (.l2i, 1) := by decide +kernel
theorem dX4_lineOf_12 : decode cX4_lineOf 12 = .ok (.bipush 15, 2) := by decide +kernel
theorem dX4_lineOf_14 : decode cX4_lineOf 14 = .ok (.iand, 1) := by decide +kernel
theorem dX4_lineOf_15 : decode cX4_lineOf 15 = .ok (.ireturn, 1) := by decide +kernel
theorem dX4_putLine_0 : decode cX4_putLine 0 = .ok (.bipush 24, 2) := by decide +kernel
theorem dX4_putLine_2 : decode cX4_putLine 2 = .ok (.iload_n 1, 1) := by decide +kernel
theorem dX4_putLine_3 : decode cX4_putLine 3 = .ok (.iconst 4, 1) := by decide +kernel
theorem dX4_putLine_4 : decode cX4_putLine 4 = .ok (.imul, 1) := by decide +kernel
theorem dX4_putLine_5 : decode cX4_putLine 5 = .ok (.iadd, 1) := by decide +kernel
theorem dX4_putLine_6 : decode cX4_putLine 6 = .ok (.istore_n 3, 1) := by decide +kernel
theorem dX4_putLine_7 : decode cX4_putLine 7 = .ok (.aload_n 0, 1) := by decide +kernel
theorem dX4_putLine_8 : decode cX4_putLine 8 = .ok (.aload_n 0, 1) := by decide +kernel
theorem dX4_putLine_9 : decode cX4_putLine 9 = .ok (.getfield 15, 3) := by decide +kernel
theorem dX4_putLine_12 : decode cX4_putLine 12 = .ok (.ldc2_w 44, 3) := by decide +kernel
theorem dX4_putLine_15 : decode cX4_putLine 15 = .ok (.iload_n 3, 1) := by decide +kernel
theorem dX4_putLine_16 : decode cX4_putLine 16 = .ok (.lshl, 1) := by decide +kernel
theorem dX4_putLine_17 : decode cX4_putLine 17 = .ok (.ldc2_w 36, 3) := by decide +kernel
theorem dX4_putLine_20 : decode cX4_putLine 20 = .ok (.lxor, 1) := by decide +kernel
theorem dX4_putLine_21 : decode cX4_putLine 21 = .ok (.land, 1) := by decide +kernel
theorem dX4_putLine_22 : decode cX4_putLine 22 = .ok (.iload_n 2, 1) := by decide +kernel
theorem dX4_putLine_23 : decode cX4_putLine 23 = .ok (.bipush 15, 2) := by decide +kernel
theorem dX4_putLine_25 : decode cX4_putLine 25 = .ok (.iand, 1) := by decide +kernel
theorem dX4_putLine_26 : decode cX4_putLine 26 = .ok (.i2l, 1) := by decide +kernel
theorem dX4_putLine_27 : decode cX4_putLine 27 = .ok (.iload_n 3, 1) := by decide +kernel
theorem dX4_putLine_28 : decode cX4_putLine 28 = .ok (.lshl, 1) := by decide +kernel
theorem dX4_putLine_29 : decode cX4_putLine 29 = .ok (.lor, 1) := by decide +kernel
theorem dX4_putLine_30 : decode cX4_putLine 30 = .ok (.putfield 15, 3) := by decide +kernel
theorem dX4_putLine_33 : decode cX4_putLine 33 = .ok (.return_, 1) := by decide +kernel
theorem dX4_beginStep_0 : decode cX4_beginStep 0 = .ok (.aload_n 0, 1) := by decide +kernel
theorem dX4_beginStep_1 : decode cX4_beginStep 1 = .ok (.iconst 0, 1) := by decide +kernel
theorem dX4_beginStep_2 : decode cX4_beginStep 2 = .ok (.putfield 18, 3) := by decide +kernel
theorem dX4_beginStep_5 : decode cX4_beginStep 5 = .ok (.aload_n 0, 1) := by decide +kernel
theorem dX4_beginStep_6 : decode cX4_beginStep 6 = .ok (.iconst 0, 1) := by decide +kernel
theorem dX4_beginStep_7 : decode cX4_beginStep 7 = .ok (.putfield 22, 3) := by decide +kernel
theorem dX4_beginStep_10 : decode cX4_beginStep 10 = .ok (.aload_n 0, 1) := by decide +kernel
theorem dX4_beginStep_11 : decode cX4_beginStep 11 = .ok (.iconst 0, 1) := by decide +kernel
theorem dX4_beginStep_12 : decode cX4_beginStep 12 = .ok (.putfield 25, 3) := by decide +kernel
theorem dX4_beginStep_15 : decode cX4_beginStep 15 = .ok (.aload_n 0, 1) := by decide +kernel
theorem dX4_beginStep_16 : decode cX4_beginStep 16 = .ok (.iconst 0, 1) := by decide +kernel
theorem dX4_beginStep_17 : decode cX4_beginStep 17 = .ok (.putfield 31, 3) := by decide +kernel
theorem dX4_beginStep_20 : decode cX4_beginStep 20 = .ok (.aload_n 0, 1) := by decide +kernel
theorem dX4_beginStep_21 : decode cX4_beginStep 21 = .ok (.iload_n 1, 1) := by decide +kernel
theorem dX4_beginStep_22 : decode cX4_beginStep 22 = .ok (.putfield 28, 3) := by decide +kernel
theorem dX4_beginStep_25 : decode cX4_beginStep 25 = .ok (.iload_n 2, 1) := by decide +kernel
theorem dX4_beginStep_26 : decode cX4_beginStep 26 = .ok (.ifCond .le 10, 3) := by decide +kernel
theorem dX4_beginStep_29 : decode cX4_beginStep 29 = .ok (.aload_n 0, 1) := by decide +kernel
theorem dX4_beginStep_30 : decode cX4_beginStep 30 = .ok (.bipush 7, 2) := by decide +kernel
theorem dX4_beginStep_32 : decode cX4_beginStep 32 = .ok (.iload_n 2, 1) := by decide +kernel
theorem dX4_beginStep_33 : decode cX4_beginStep 33 = .ok (.invokevirtual 46, 3) := by decide +kernel
theorem dX4_beginStep_36 : decode cX4_beginStep 36 = .ok (.return_, 1) := by decide +kernel
theorem dX4_endStep_0 : decode cX4_endStep 0 = .ok (.iconst 0, 1) := by decide +kernel
theorem dX4_endStep_1 : decode cX4_endStep 1 = .ok (.istore_n 3, 1) := by decide +kernel
theorem dX4_endStep_2 : decode cX4_endStep 2 = .ok (.iload_n 3, 1) := by decide +kernel
theorem dX4_endStep_3 : decode cX4_endStep 3 = .ok (.iconst 4, 1) := by decide +kernel
theorem dX4_endStep_4 : decode cX4_endStep 4 = .ok (.if_icmp .ge 34, 3) := by decide +kernel
theorem dX4_endStep_7 : decode cX4_endStep 7 = .ok (.lload_n 1, 1) := by decide +kernel
theorem dX4_endStep_8 : decode cX4_endStep 8 = .ok (.iload_n 3, 1) := by decide +kernel
theorem dX4_endStep_9 : decode cX4_endStep 9 = .ok (.invokestatic 38, 3) := by decide +kernel
theorem dX4_endStep_12 : decode cX4_endStep 12 = .ok (.ifCond .le 20, 3) := by decide +kernel
theorem dX4_endStep_15 : decode cX4_endStep 15 = .ok (.aload_n 0, 1) := by decide +kernel
theorem dX4_endStep_16 : decode cX4_endStep 16 = .ok (.dup, 1) := by decide +kernel
theorem dX4_endStep_17 : decode cX4_endStep 17 = .ok (.getfield 15, 3) := by decide +kernel
theorem dX4_endStep_20 : decode cX4_endStep 20 = .ok (.ldc2_w 50, 3) := by decide +kernel
theorem dX4_endStep_23 : decode cX4_endStep 23 = .ok (.iload_n 3, 1) := by decide +kernel
theorem dX4_endStep_24 : decode cX4_endStep 24 = .ok (.bipush 6, 2) := by decide +kernel
theorem dX4_endStep_26 : decode cX4_endStep 26 = .ok (.imul, 1) := by decide +kernel
theorem dX4_endStep_27 : decode cX4_endStep 27 = .ok (.lshl, 1) := by decide +kernel
theorem dX4_endStep_28 : decode cX4_endStep 28 = .ok (.lsub, 1) := by decide +kernel
theorem dX4_endStep_29 : decode cX4_endStep 29 = .ok (.putfield 15, 3) := by decide +kernel
theorem dX4_endStep_32 : decode cX4_endStep 32 = .ok (.iinc 3 1, 3) := by decide +kernel
theorem dX4_endStep_35 : decode cX4_endStep 35 = .ok (.goto (-33), 3) := by decide +kernel
theorem dX4_endStep_38 : decode cX4_endStep 38 = .ok (.return_, 1) := by decide +kernel
theorem dX5_init_0 : decode cX5_init 0 = .ok (.aload_n 0, 1) := by decide +kernel
theorem dX5_init_1 : decode cX5_init 1 = .ok (.invokespecial 3, 3) := by decide +kernel
theorem dX5_init_4 : decode cX5_init 4 = .ok (.aload_n 0, 1) := by decide +kernel
theorem dX5_init_5 : decode cX5_init 5 = .ok (.bipush 60, 2) := by decide +kernel
theorem dX5_init_7 : decode cX5_init 7 = .ok (.newarray .char, 2) := by decide +kernel
theorem dX5_init_9 : decode cX5_init 9 = .ok (.putfield 9, 3) := by decide +kernel
theorem dX5_init_12 : decode cX5_init 12 = .ok (.aload_n 0, 1) := by decide +kernel
theorem dX5_init_13 : decode cX5_init 13 = .ok (.bipush 16, 2) := by decide +kernel
theorem dX5_init_15 : decode cX5_init 15 = .ok (.newarray .int, 2) := by decide +kernel
theorem dX5_init_17 : decode cX5_init 17 = .ok (.putfield 15, 3) := by decide +kernel
theorem dX5_init_20 : decode cX5_init 20 = .ok (.aload_n 0, 1) := by decide +kernel
theorem dX5_init_21 : decode cX5_init 21 = .ok (.bipush 16, 2) := by decide +kernel
theorem dX5_init_23 : decode cX5_init 23 = .ok (.newarray .int, 2) := by decide +kernel
theorem dX5_init_25 : decode cX5_init 25 = .ok (.putfield 19, 3) := by decide +kernel
theorem dX5_init_28 : decode cX5_init 28 = .ok (.aload_n 0, 1) := by decide +kernel
theorem dX5_init_29 : decode cX5_init 29 = .ok (.bipush 17, 2) := by decide +kernel
theorem dX5_init_31 : decode cX5_init 31 = .ok (.newarray .int, 2) := by decide +kernel
theorem dX5_init_33 : decode cX5_init 33 = .ok (.putfield 22, 3) := by decide +kernel
theorem dX5_init_36 : decode cX5_init 36 = .ok (.aload_n 0, 1) := by decide +kernel
theorem dX5_init_37 : decode cX5_init 37 = .ok (.bipush 60, 2) := by decide +kernel
theorem dX5_init_39 : decode cX5_init 39 = .ok (.newarray .int, 2) := by decide +kernel
theorem dX5_init_41 : decode cX5_init 41 = .ok (.putfield 25, 3) := by decide +kernel
theorem dX5_init_44 : decode cX5_init 44 = .ok (.aload_n 0, 1) := by decide +kernel
theorem dX5_init_45 : decode cX5_init 45 = .ok (.iconst 0, 1) := by decide +kernel
theorem dX5_init_46 : decode cX5_init 46 = .ok (.putfield 28, 3) := by decide +kernel
theorem dX5_init_49 : decode cX5_init 49 = .ok (.aload_n 0, 1) := by decide +kernel
theorem dX5_init_50 : decode cX5_init 50 = .ok (.iconst 0, 1) := by decide +kernel
theorem dX5_init_51 : decode cX5_init 51 = .ok (.putfield 32, 3) := by decide +kernel
theorem dX5_init_54 : decode cX5_init 54 = .ok (.aload_n 0, 1) := by decide +kernel
theorem dX5_init_55 : decode cX5_init 55 = .ok (.iconst 0, 1) := by decide +kernel
theorem dX5_init_56 : decode cX5_init 56 = .ok (.putfield 35, 3) := by decide +kernel
theorem dX5_init_59 : decode cX5_init 59 = .ok (.return_, 1) := by decide +kernel
theorem dX5_clear_0 : decode cX5_clear 0 = .ok (.aload_n 0, 1) := by decide +kernel
theorem dX5_clear_1 : decode cX5_clear 1 = .ok (.iconst 0, 1) := by decide +kernel
theorem dX5_clear_2 : decode cX5_clear 2 = .ok (.putfield 28, 3) := by decide +kernel
theorem dX5_clear_5 : decode cX5_clear 5 = .ok (.aload_n 0, 1) := by decide +kernel
theorem dX5_clear_6 : decode cX5_clear 6 = .ok (.iconst 0, 1) := by decide +kernel
theorem dX5_clear_7 : decode cX5_clear 7 = .ok (.putfield 32, 3) := by decide +kernel
theorem dX5_clear_10 : decode cX5_clear 10 = .ok (.aload_n 0, 1) := by decide +kernel
theorem dX5_clear_11 : decode cX5_clear 11 = .ok (.iconst 0, 1) := by decide +kernel
theorem dX5_clear_12 : decode cX5_clear 12 = .ok (.putfield 35, 3) := by decide +kernel
theorem dX5_clear_15 : decode cX5_clear 15 = .ok (.return_, 1) := by decide +kernel
theorem dX5_copyText_0 : decode cX5_copyText 0 = .ok (.aload_n 0, 1) := by decide +kernel
theorem dX5_copyText_1 : decode cX5_copyText 1 = .ok (.iload_n 2, 1) := by decide +kernel
theorem dX5_copyText_2 : decode cX5_copyText 2 = .ok (.bipush 60, 2) := by decide +kernel
theorem dX5_copyText_4 : decode cX5_copyText 4 = .ok (.invokestatic 38, 3) := by decide +kernel
theorem dX5_copyText_7 : decode cX5_copyText 7 = .ok (.putfield 28, 3) := by decide +kernel
theorem dX5_copyText_10 : decode cX5_copyText 10 = .ok (.aload_n 1, 1) := by decide +kernel
theorem dX5_copyText_11 : decode cX5_copyText 11 = .ok (.iconst 0, 1) := by decide +kernel
theorem dX5_copyText_12 : decode cX5_copyText 12 = .ok (.aload_n 0, 1) := by decide +kernel
theorem dX5_copyText_13 : decode cX5_copyText 13 = .ok (.getfield 9, 3) := by decide +kernel
theorem dX5_copyText_16 : decode cX5_copyText 16 = .ok (.iconst 0, 1) := by decide +kernel
theorem dX5_copyText_17 : decode cX5_copyText 17 = .ok (.aload_n 0, 1) := by decide +kernel
theorem dX5_copyText_18 : decode cX5_copyText 18 = .ok (.getfield 28, 3) := by decide +kernel
theorem dX5_copyText_21 : decode cX5_copyText 21 = .ok (.invokestatic 44, 3) := by decide +kernel
theorem dX5_copyText_24 : decode cX5_copyText 24 = .ok (.return_, 1) := by decide +kernel
theorem dX5_beginLine_0 : decode cX5_beginLine 0 = .ok (.aload_n 0, 1) := by decide +kernel
theorem dX5_beginLine_1 : decode cX5_beginLine 1 = .ok (.getfield 32, 3) := by decide +kernel
theorem dX5_beginLine_4 : decode cX5_beginLine 4 = .ok (.bipush 16, 2) := by decide +kernel
theorem dX5_beginLine_6 : decode cX5_beginLine 6 = .ok (.if_icmp .ge 36, 3) := by decide +kernel
theorem dX5_beginLine_9 : decode cX5_beginLine 9 = .ok (.aload_n 0, 1) := by decide +kernel
theorem dX5_beginLine_10 : decode cX5_beginLine 10 = .ok (.getfield 15, 3) := by decide +kernel
theorem dX5_beginLine_13 : decode cX5_beginLine 13 = .ok (.aload_n 0, 1) := by decide +kernel
theorem dX5_beginLine_14 : decode cX5_beginLine 14 = .ok (.getfield 32, 3) := by decide +kernel
theorem dX5_beginLine_17 : decode cX5_beginLine 17 = .ok (.iload_n 1, 1) := by decide +kernel
theorem dX5_beginLine_18 : decode cX5_beginLine 18 = .ok (.iastore, 1) := by decide +kernel
theorem dX5_beginLine_19 : decode cX5_beginLine 19 = .ok (.aload_n 0, 1) := by decide +kernel
theorem dX5_beginLine_20 : decode cX5_beginLine 20 = .ok (.getfield 19, 3) := by decide +kernel
theorem dX5_beginLine_23 : decode cX5_beginLine 23 = .ok (.aload_n 0, 1) := by decide +kernel
theorem dX5_beginLine_24 : decode cX5_beginLine 24 = .ok (.getfield 32, 3) := by decide +kernel
theorem dX5_beginLine_27 : decode cX5_beginLine 27 = .ok (.iload_n 2, 1) := by decide +kernel
theorem dX5_beginLine_28 : decode cX5_beginLine 28 = .ok (.iastore, 1) := by decide +kernel
theorem dX5_beginLine_29 : decode cX5_beginLine 29 = .ok (.aload_n 0, 1) := by decide +kernel
theorem dX5_beginLine_30 : decode cX5_beginLine 30 = .ok (.getfield 22, 3) := by decide +kernel
theorem dX5_beginLine_33 : decode cX5_beginLine 33 = .ok (.aload_n 0, 1) := by decide +kernel
theorem dX5_beginLine_34 : decode cX5_beginLine 34 = .ok (.getfield 32, 3) := by decide +kernel
theorem dX5_beginLine_37 : decode cX5_beginLine 37 = .ok (.aload_n 0, 1) := by decide +kernel
theorem dX5_beginLine_38 : decode cX5_beginLine 38 = .ok (.getfield 35, 3) := by decide +kernel
theorem dX5_beginLine_41 : decode cX5_beginLine 41 = .ok (.iastore, 1) := by decide +kernel
theorem dX5_beginLine_42 : decode cX5_beginLine 42 = .ok (.return_, 1) := by decide +kernel
theorem dX5_endLine_0 : decode cX5_endLine 0 = .ok (.aload_n 0, 1) := by decide +kernel
theorem dX5_endLine_1 : decode cX5_endLine 1 = .ok (.getfield 32, 3) := by decide +kernel
theorem dX5_endLine_4 : decode cX5_endLine 4 = .ok (.bipush 16, 2) := by decide +kernel
theorem dX5_endLine_6 : decode cX5_endLine 6 = .ok (.if_icmp .ge 26, 3) := by decide +kernel
theorem dX5_endLine_9 : decode cX5_endLine 9 = .ok (.aload_n 0, 1) := by decide +kernel
theorem dX5_endLine_10 : decode cX5_endLine 10 = .ok (.dup, 1) := by decide +kernel
theorem dX5_endLine_11 : decode cX5_endLine 11 = .ok (.getfield 32, 3) := by decide +kernel
theorem dX5_endLine_14 : decode cX5_endLine 14 = .ok (.iconst 1, 1) := by decide +kernel
theorem dX5_endLine_15 : decode cX5_endLine 15 = .ok (.iadd, 1) := by decide +kernel
theorem dX5_endLine_16 : decode cX5_endLine 16 = .ok (.putfield 32, 3) := by decide +kernel
theorem dX5_endLine_19 : decode cX5_endLine 19 = .ok (.aload_n 0, 1) := by decide +kernel
theorem dX5_endLine_20 : decode cX5_endLine 20 = .ok (.getfield 22, 3) := by decide +kernel
theorem dX5_endLine_23 : decode cX5_endLine 23 = .ok (.aload_n 0, 1) := by decide +kernel
theorem dX5_endLine_24 : decode cX5_endLine 24 = .ok (.getfield 32, 3) := by decide +kernel
theorem dX5_endLine_27 : decode cX5_endLine 27 = .ok (.aload_n 0, 1) := by decide +kernel
theorem dX5_endLine_28 : decode cX5_endLine 28 = .ok (.getfield 35, 3) := by decide +kernel
theorem dX5_endLine_31 : decode cX5_endLine 31 = .ok (.iastore, 1) := by decide +kernel
theorem dX5_endLine_32 : decode cX5_endLine 32 = .ok (.return_, 1) := by decide +kernel
theorem dX5_emit_0 : decode cX5_emit 0 = .ok (.aload_n 0, 1) := by decide +kernel
theorem dX5_emit_1 : decode cX5_emit 1 = .ok (.getfield 35, 3) := by decide +kernel
theorem dX5_emit_4 : decode cX5_emit 4 = .ok (.bipush 60, 2) := by decide +kernel
theorem dX5_emit_6 : decode cX5_emit 6 = .ok (.if_icmp .ge 23, 3) := by decide +kernel
theorem dX5_emit_9 : decode cX5_emit 9 = .ok (.aload_n 0, 1) := by decide +kernel
theorem dX5_emit_10 : decode cX5_emit 10 = .ok (.getfield 25, 3) := by decide +kernel
theorem dX5_emit_13 : decode cX5_emit 13 = .ok (.aload_n 0, 1) := by decide +kernel
theorem dX5_emit_14 : decode cX5_emit 14 = .ok (.getfield 35, 3) := by decide +kernel
theorem dX5_emit_17 : decode cX5_emit 17 = .ok (.iload_n 1, 1) := by decide +kernel
theorem dX5_emit_18 : decode cX5_emit 18 = .ok (.iastore, 1) := by decide +kernel
theorem dX5_emit_19 : decode cX5_emit 19 = .ok (.aload_n 0, 1) := by decide +kernel
theorem dX5_emit_20 : decode cX5_emit 20 = .ok (.dup, 1) := by decide +kernel
theorem dX5_emit_21 : decode cX5_emit 21 = .ok (.getfield 35, 3) := by decide +kernel
theorem dX5_emit_24 : decode cX5_emit 24 = .ok (.iconst 1, 1) := by decide +kernel
theorem dX5_emit_25 : decode cX5_emit 25 = .ok (.iadd, 1) := by decide +kernel
theorem dX5_emit_26 : decode cX5_emit 26 = .ok (.putfield 35, 3) := by decide +kernel
theorem dX5_emit_29 : decode cX5_emit 29 = .ok (.return_, 1) := by decide +kernel
theorem dX6_init_0 : decode cX6_init 0 = .ok (.aload_n 0, 1) := by decide +kernel
theorem dX6_init_1 : decode cX6_init 1 = .ok (.invokespecial 3, 3) := by decide +kernel
theorem dX6_init_4 : decode cX6_init 4 = .ok (.aload_n 0, 1) := by decide +kernel
theorem dX6_init_5 : decode cX6_init 5 = .ok (.bipush 100, 2) := by decide +kernel
theorem dX6_init_7 : decode cX6_init 7 = .ok (.newarray .char, 2) := by decide +kernel
theorem dX6_init_9 : decode cX6_init 9 = .ok (.putfield 9, 3) := by decide +kernel
theorem dX6_init_12 : decode cX6_init 12 = .ok (.aload_n 0, 1) := by decide +kernel
theorem dX6_init_13 : decode cX6_init 13 = .ok (.iconst 0, 1) := by decide +kernel
theorem dX6_init_14 : decode cX6_init 14 = .ok (.putfield 15, 3) := by decide +kernel
theorem dX6_init_17 : decode cX6_init 17 = .ok (.aload_n 0, 1) := by decide +kernel
theorem dX6_init_18 : decode cX6_init 18 = .ok (.iconst 0, 1) := by decide +kernel
theorem dX6_init_19 : decode cX6_init 19 = .ok (.putfield 19, 3) := by decide +kernel
theorem dX6_init_22 : decode cX6_init 22 = .ok (.aload_n 0, 1) := by decide +kernel
theorem dX6_init_23 : decode cX6_init 23 = .ok (.iconst 0, 1) := by decide +kernel
theorem dX6_init_24 : decode cX6_init 24 = .ok (.putfield 22, 3) := by decide +kernel
theorem dX6_init_27 : decode cX6_init 27 = .ok (.aload_n 0, 1) := by decide +kernel
theorem dX6_init_28 : decode cX6_init 28 = .ok (.bipush 60, 2) := by decide +kernel
theorem dX6_init_30 : decode cX6_init 30 = .ok (.newarray .int, 2) := by decide +kernel
theorem dX6_init_32 : decode cX6_init 32 = .ok (.putfield 25, 3) := by decide +kernel
theorem dX6_init_35 : decode cX6_init 35 = .ok (.aload_n 0, 1) := by decide +kernel
theorem dX6_init_36 : decode cX6_init 36 = .ok (.iconst 0, 1) := by decide +kernel
theorem dX6_init_37 : decode cX6_init 37 = .ok (.putfield 29, 3) := by decide +kernel
theorem dX6_init_40 : decode cX6_init 40 = .ok (.aload_n 0, 1) := by decide +kernel
theorem dX6_init_41 : decode cX6_init 41 = .ok (.new 32, 3) := by decide +kernel
theorem dX6_init_44 : decode cX6_init 44 = .ok (.dup, 1) := by decide +kernel
theorem dX6_init_45 : decode cX6_init 45 = .ok (.invokespecial 34, 3) := by decide +kernel
theorem dX6_init_48 : decode cX6_init 48 = .ok (.putfield 35, 3) := by decide +kernel
theorem dX6_init_51 : decode cX6_init 51 = .ok (.return_, 1) := by decide +kernel
theorem dX6_exchange_0 : decode cX6_exchange 0 = .ok (.aload_n 0, 1) := by decide +kernel
theorem dX6_exchange_1 : decode cX6_exchange 1 = .ok (.getfield 35, 3) := by decide +kernel
theorem dX6_exchange_4 : decode cX6_exchange 4 = .ok (.astore_n 2, 1) := by decide +kernel
theorem dX6_exchange_5 : decode cX6_exchange 5 = .ok (.aload_n 0, 1) := by decide +kernel
theorem dX6_exchange_6 : decode cX6_exchange 6 = .ok (.aload_n 1, 1) := by decide +kernel
theorem dX6_exchange_7 : decode cX6_exchange 7 = .ok (.putfield 35, 3) := by decide +kernel
theorem dX6_exchange_10 : decode cX6_exchange 10 = .ok (.aload_n 2, 1) := by decide +kernel
theorem dX6_exchange_11 : decode cX6_exchange 11 = .ok (.areturn, 1) := by decide +kernel
theorem dX6_readAsked_0 : decode cX6_readAsked 0 = .ok (.aload_n 0, 1) := by decide +kernel
theorem dX6_readAsked_1 : decode cX6_readAsked 1 = .ok (.iload_n 1, 1) := by decide +kernel
theorem dX6_readAsked_2 : decode cX6_readAsked 2 = .ok (.invokevirtual 39, 3) := by decide +kernel
theorem dX6_readAsked_5 : decode cX6_readAsked 5 = .ok (.aload_n 0, 1) := by decide +kernel
theorem dX6_readAsked_6 : decode cX6_readAsked 6 = .ok (.getfield 35, 3) := by decide +kernel
theorem dX6_readAsked_9 : decode cX6_readAsked 9 = .ok (.bipush 6, 2) := by decide +kernel
theorem dX6_readAsked_11 : decode cX6_readAsked 11 = .ok (.iconst 0, 1) := by decide +kernel
theorem dX6_readAsked_12 : decode cX6_readAsked 12 = .ok (.invokevirtual 43, 3) := by decide +kernel
theorem dX6_readAsked_15 : decode cX6_readAsked 15 = .ok (.aload_n 0, 1) := by decide +kernel
theorem dX6_readAsked_16 : decode cX6_readAsked 16 = .ok (.iconst 1, 1) := by decide +kernel
theorem dX6_readAsked_17 : decode cX6_readAsked 17 = .ok (.invokevirtual 47, 3) := by decide +kernel
theorem dX6_readAsked_20 : decode cX6_readAsked 20 = .ok (.ifCond .eq 14, 3) := by decide +kernel
theorem dX6_readAsked_23 : decode cX6_readAsked 23 = .ok (.aload_n 0, 1) := by decide +kernel
theorem dX6_readAsked_24 : decode cX6_readAsked 24 = .ok (.getfield 22, 3) := by decide +kernel
theorem dX6_readAsked_27 : decode cX6_readAsked 27 = .ok (.aload_n 0, 1) := by decide +kernel
theorem dX6_readAsked_28 : decode cX6_readAsked 28 = .ok (.getfield 19, 3) := by decide +kernel
theorem dX6_readAsked_31 : decode cX6_readAsked 31 = .ok (.if_icmp .ge 8, 3) := by decide +kernel
theorem dX6_readAsked_34 : decode cX6_readAsked 34 = .ok (.aload_n 0, 1) := by decide +kernel
theorem dX6_readAsked_35 : decode cX6_readAsked 35 = .ok (.getfield 22, 3) := by decide +kernel
theorem dX6_readAsked_38 : decode cX6_readAsked 38 = .ok (.ireturn, 1) := by decide +kernel
theorem dX6_readAsked_39 : decode cX6_readAsked 39 = .ok (.aload_n 0, 1) := by decide +kernel
theorem dX6_readAsked_40 : decode cX6_readAsked 40 = .ok (.getfield 35, 3) := by decide +kernel
theorem dX6_readAsked_43 : decode cX6_readAsked 43 = .ok (.invokevirtual 51, 3) := by decide +kernel
theorem dX6_readAsked_46 : decode cX6_readAsked 46 = .ok (.iload_n 1, 1) := by decide +kernel
theorem dX6_readAsked_47 : decode cX6_readAsked 47 = .ok (.bipush 60, 2) := by decide +kernel
theorem dX6_readAsked_49 : decode cX6_readAsked 49 = .ok (.if_icmp .le 8, 3) := by decide +kernel
theorem dX6_readAsked_52 : decode cX6_readAsked 52 = .ok (.bipush 60, 2) := by decide +kernel
theorem dX6_readAsked_54 : decode cX6_readAsked 54 = .ok (.goto 4, 3) := by decide +kernel
theorem dX6_readAsked_57 : decode cX6_readAsked 57 = .ok (.iconst (-1), 1) := by decide +kernel
theorem dX6_readAsked_58 : decode cX6_readAsked 58 = .ok (.ireturn, 1) := by decide +kernel
theorem dX6_readLines_0 : decode cX6_readLines 0 = .ok (.aload_n 0, 1) := by decide +kernel
theorem dX6_readLines_1 : decode cX6_readLines 1 = .ok (.iload_n 1, 1) := by decide +kernel
theorem dX6_readLines_2 : decode cX6_readLines 2 = .ok (.invokevirtual 39, 3) := by decide +kernel
theorem dX6_readLines_5 : decode cX6_readLines 5 = .ok (.iconst 1, 1) := by decide +kernel
theorem dX6_readLines_6 : decode cX6_readLines 6 = .ok (.istore_n 3, 1) := by decide +kernel
theorem dX6_readLines_7 : decode cX6_readLines 7 = .ok (.iload_n 3, 1) := by decide +kernel
theorem dX6_readLines_8 : decode cX6_readLines 8 = .ok (.iload_n 2, 1) := by decide +kernel
theorem dX6_readLines_9 : decode cX6_readLines 9 = .ok (.if_icmp .gt 71, 3) := by decide +kernel
theorem dX6_readLines_12 : decode cX6_readLines 12 = .ok (.aload_n 0, 1) := by decide +kernel
theorem dX6_readLines_13 : decode cX6_readLines 13 = .ok (.invokevirtual 54, 3) := by decide +kernel
theorem dX6_readLines_16 : decode cX6_readLines 16 = .ok (.ifCond .ne 8, 3) := by decide +kernel
theorem dX6_readLines_19 : decode cX6_readLines 19 = .ok (.aload_n 0, 1) := by decide +kernel
theorem dX6_readLines_20 : decode cX6_readLines 20 = .ok (.getfield 22, 3) := by decide +kernel
theorem dX6_readLines_23 : decode cX6_readLines 23 = .ok (.ireturn, 1) := by decide +kernel
theorem dX6_readLines_24 : decode cX6_readLines 24 = .ok (.aload_n 0, 1) := by decide +kernel
theorem dX6_readLines_25 : decode cX6_readLines 25 = .ok (.getfield 35, 3) := by decide +kernel
theorem dX6_readLines_28 : decode cX6_readLines 28 = .ok (.invokevirtual 51, 3) := by decide +kernel
theorem dX6_readLines_31 : decode cX6_readLines 31 = .ok (.aload_n 0, 1) := by decide +kernel
theorem dX6_readLines_32 : decode cX6_readLines 32 = .ok (.getfield 22, 3) := by decide +kernel
theorem dX6_readLines_35 : decode cX6_readLines 35 = .ok (.aload_n 0, 1) := by decide +kernel
theorem dX6_readLines_36 : decode cX6_readLines 36 = .ok (.getfield 19, 3) := by decide +kernel
theorem dX6_readLines_39 : decode cX6_readLines 39 = .ok (.if_icmp .lt 16, 3) := by decide +kernel
theorem dX6_readLines_42 : decode cX6_readLines 42 = .ok (.iload_n 1, 1) := by decide +kernel
theorem dX6_readLines_43 : decode cX6_readLines 43 = .ok (.bipush 60, 2) := by decide +kernel
theorem dX6_readLines_45 : decode cX6_readLines 45 = .ok (.if_icmp .le 8, 3) := by decide +kernel
theorem dX6_readLines_48 : decode cX6_readLines 48 = .ok (.bipush 60, 2) := by decide +kernel
theorem dX6_readLines_50 : decode cX6_readLines 50 = .ok (.goto 4, 3) := by decide +kernel
theorem dX6_readLines_53 : decode cX6_readLines 53 = .ok (.iconst (-1), 1) := by decide +kernel
theorem dX6_readLines_54 : decode cX6_readLines 54 = .ok (.ireturn, 1) := by decide +kernel
theorem dX6_readLines_55 : decode cX6_readLines 55 = .ok (.iload_n 3, 1) := by decide +kernel
theorem dX6_readLines_56 : decode cX6_readLines 56 = .ok (.iload_n 2, 1) := by decide +kernel
theorem dX6_readLines_57 : decode cX6_readLines 57 = .ok (.if_icmp .eq 12, 3) := by decide +kernel
theorem dX6_readLines_60 : decode cX6_readLines 60 = .ok (.aload_n 0, 1) := by decide +kernel
theorem dX6_readLines_61 : decode cX6_readLines 61 = .ok (.bipush 59, 2) := by decide +kernel
theorem dX6_readLines_63 : decode cX6_readLines 63 = .ok (.invokevirtual 58, 3) := by decide +kernel
theorem dX6_readLines_66 : decode cX6_readLines 66 = .ok (.ifCond .ne 8, 3) := by decide +kernel
theorem dX6_readLines_69 : decode cX6_readLines 69 = .ok (.aload_n 0, 1) := by decide +kernel
theorem dX6_readLines_70 : decode cX6_readLines 70 = .ok (.getfield 22, 3) := by decide +kernel
theorem dX6_readLines_73 : decode cX6_readLines 73 = .ok (.ireturn, 1) := by decide +kernel
theorem dX6_readLines_74 : decode cX6_readLines 74 = .ok (.iinc 3 1, 3) := by decide +kernel
theorem dX6_readLines_77 : decode cX6_readLines 77 = .ok (.goto (-70), 3) := by decide +kernel
theorem dX6_readLines_80 : decode cX6_readLines 80 = .ok (.aload_n 0, 1) := by decide +kernel
theorem dX6_readLines_81 : decode cX6_readLines 81 = .ok (.getfield 22, 3) := by decide +kernel
theorem dX6_readLines_84 : decode cX6_readLines 84 = .ok (.ireturn, 1) := by decide +kernel
theorem dX6_begin_0 : decode cX6_begin 0 = .ok (.aload_n 0, 1) := by decide +kernel
theorem dX6_begin_1 : decode cX6_begin 1 = .ok (.iload_n 1, 1) := by decide +kernel
theorem dX6_begin_2 : decode cX6_begin 2 = .ok (.bipush 60, 2) := by decide +kernel
theorem dX6_begin_4 : decode cX6_begin 4 = .ok (.invokestatic 62, 3) := by decide +kernel
theorem dX6_begin_7 : decode cX6_begin 7 = .ok (.putfield 19, 3) := by decide +kernel
theorem dX6_begin_10 : decode cX6_begin 10 = .ok (.aload_n 0, 1) := by decide +kernel
theorem dX6_begin_11 : decode cX6_begin 11 = .ok (.iconst 0, 1) := by decide +kernel
theorem dX6_begin_12 : decode cX6_begin 12 = .ok (.putfield 22, 3) := by decide +kernel
theorem dX6_begin_15 : decode cX6_begin 15 = .ok (.aload_n 0, 1) := by decide +kernel
theorem dX6_begin_16 : decode cX6_begin 16 = .ok (.getfield 35, 3) := by decide +kernel
theorem dX6_begin_19 : decode cX6_begin 19 = .ok (.invokevirtual 68, 3) := by decide +kernel
theorem dX6_begin_22 : decode cX6_begin 22 = .ok (.aload_n 0, 1) := by decide +kernel
theorem dX6_begin_23 : decode cX6_begin 23 = .ok (.getfield 35, 3) := by decide +kernel
theorem dX6_begin_26 : decode cX6_begin 26 = .ok (.aload_n 0, 1) := by decide +kernel
theorem dX6_begin_27 : decode cX6_begin 27 = .ok (.getfield 9, 3) := by decide +kernel
theorem dX6_begin_30 : decode cX6_begin 30 = .ok (.aload_n 0, 1) := by decide +kernel
theorem dX6_begin_31 : decode cX6_begin 31 = .ok (.getfield 19, 3) := by decide +kernel
theorem dX6_begin_34 : decode cX6_begin 34 = .ok (.invokevirtual 71, 3) := by decide +kernel
theorem dX6_begin_37 : decode cX6_begin 37 = .ok (.return_, 1) := by decide +kernel
theorem dX6_look_0 : decode cX6_look 0 = .ok (.aload_n 0, 1) := by decide +kernel
theorem dX6_look_1 : decode cX6_look 1 = .ok (.getfield 22, 3) := by decide +kernel
theorem dX6_look_4 : decode cX6_look 4 = .ok (.aload_n 0, 1) := by decide +kernel
theorem dX6_look_5 : decode cX6_look 5 = .ok (.getfield 19, 3) := by decide +kernel
theorem dX6_look_8 : decode cX6_look 8 = .ok (.if_icmp .ge 15, 3) := by decide +kernel
theorem dX6_look_11 : decode cX6_look 11 = .ok (.aload_n 0, 1) := by decide +kernel
theorem dX6_look_12 : decode cX6_look 12 = .ok (.getfield 9, 3) := by decide +kernel
theorem dX6_look_15 : decode cX6_look 15 = .ok (.aload_n 0, 1) := by decide +kernel
theorem dX6_look_16 : decode cX6_look 16 = .ok (.getfield 22, 3) := by decide +kernel
theorem dX6_look_19 : decode cX6_look 19 = .ok (.caload, 1) := by decide +kernel
theorem dX6_look_20 : decode cX6_look 20 = .ok (.goto 4, 3) := by decide +kernel
theorem dX6_look_23 : decode cX6_look 23 = .ok (.iconst (-1), 1) := by decide +kernel
theorem dX6_look_24 : decode cX6_look 24 = .ok (.ireturn, 1) := by decide +kernel
theorem dX6_passes_0 : decode cX6_passes 0 = .ok (.aload_n 0, 1) := by decide +kernel
theorem dX6_passes_1 : decode cX6_passes 1 = .ok (.invokevirtual 75, 3) := by decide +kernel
theorem dX6_passes_4 : decode cX6_passes 4 = .ok (.iload_n 1, 1) := by decide +kernel
theorem dX6_passes_5 : decode cX6_passes 5 = .ok (.if_icmp .eq 5, 3) := by decide +kernel
theorem dX6_passes_8 : decode cX6_passes 8 = .ok (.iconst 0, 1) := by decide +kernel
theorem dX6_passes_9 : decode cX6_passes 9 = .ok (.ireturn, 1) := by decide +kernel
theorem dX6_passes_10 : decode cX6_passes 10 = .ok (.aload_n 0, 1) := by decide +kernel
theorem dX6_passes_11 : decode cX6_passes 11 = .ok (.dup, 1) := by decide +kernel
theorem dX6_passes_12 : decode cX6_passes 12 = .ok (.getfield 22, 3) := by decide +kernel
theorem dX6_passes_15 : decode cX6_passes 15 = .ok (.iconst 1, 1) := by decide +kernel
theorem dX6_passes_16 : decode cX6_passes 16 = .ok (.iadd, 1) := by decide +kernel
theorem dX6_passes_17 : decode cX6_passes 17 = .ok (.putfield 22, 3) := by decide +kernel
theorem dX6_passes_20 : decode cX6_passes 20 = .ok (.iconst 1, 1) := by decide +kernel
theorem dX6_passes_21 : decode cX6_passes 21 = .ok (.ireturn, 1) := by decide +kernel
theorem dX6_isDigit_0 : decode cX6_isDigit 0 = .ok (.iload_n 0, 1) := by decide +kernel
theorem dX6_isDigit_1 : decode cX6_isDigit 1 = .ok (.bipush 48, 2) := by decide +kernel
theorem dX6_isDigit_3 : decode cX6_isDigit 3 = .ok (.if_icmp .lt 13, 3) := by decide +kernel
theorem dX6_isDigit_6 : decode cX6_isDigit 6 = .ok (.iload_n 0, 1) := by decide +kernel
theorem dX6_isDigit_7 : decode cX6_isDigit 7 = .ok (.bipush 57, 2) := by decide +kernel
theorem dX6_isDigit_9 : decode cX6_isDigit 9 = .ok (.if_icmp .gt 7, 3) := by decide +kernel
theorem dX6_isDigit_12 : decode cX6_isDigit 12 = .ok (.iconst 1, 1) := by decide +kernel
theorem dX6_isDigit_13 : decode cX6_isDigit 13 = .ok (.goto 4, 3) := by decide +kernel
theorem dX6_isDigit_16 : decode cX6_isDigit 16 = .ok (.iconst 0, 1) := by decide +kernel
theorem dX6_isDigit_17 : decode cX6_isDigit 17 = .ok (.ireturn, 1) := by decide +kernel
theorem dX6_readLine_0 : decode cX6_readLine 0 = .ok (.aload_n 0, 1) := by decide +kernel
theorem dX6_readLine_1 : decode cX6_readLine 1 = .ok (.invokevirtual 75, 3) := by decide +kernel
theorem dX6_readLine_4 : decode cX6_readLine 4 = .ok (.istore_n 1, 1) := by decide +kernel
theorem dX6_readLine_5 : decode cX6_readLine 5 = .ok (.aload_n 0, 1) := by decide +kernel
theorem dX6_readLine_6 : decode cX6_readLine 6 = .ok (.iload_n 1, 1) := by decide +kernel
theorem dX6_readLine_7 : decode cX6_readLine 7 = .ok (.invokevirtual 79, 3) := by decide +kernel
theorem dX6_readLine_10 : decode cX6_readLine 10 = .ok (.ifCond .ne 5, 3) := by decide +kernel
theorem dX6_readLine_13 : decode cX6_readLine 13 = .ok (.iconst 0, 1) := by decide +kernel
theorem dX6_readLine_14 : decode cX6_readLine 14 = .ok (.ireturn, 1) := by decide +kernel
theorem dX6_readLine_15 : decode cX6_readLine 15 = .ok (.iload_n 1, 1) := by decide +kernel
theorem dX6_readLine_16 : decode cX6_readLine 16 = .ok (.bipush 115, 2) := by decide +kernel
theorem dX6_readLine_18 : decode cX6_readLine 18 = .ok (.if_icmp .eq 17, 3) := by decide +kernel
theorem dX6_readLine_21 : decode cX6_readLine 21 = .ok (.iload_n 1, 1) := by decide +kernel
theorem dX6_readLine_22 : decode cX6_readLine 22 = .ok (.bipush 120, 2) := by decide +kernel
theorem dX6_readLine_24 : decode cX6_readLine 24 = .ok (.if_icmp .eq 11, 3) := by decide +kernel
theorem dX6_readLine_27 : decode cX6_readLine 27 = .ok (.aload_n 0, 1) := by decide +kernel
theorem dX6_readLine_28 : decode cX6_readLine 28 = .ok (.iconst 0, 1) := by decide +kernel
theorem dX6_readLine_29 : decode cX6_readLine 29 = .ok (.invokevirtual 47, 3) := by decide +kernel
theorem dX6_readLine_32 : decode cX6_readLine 32 = .ok (.ifCond .eq 7, 3) := by decide +kernel
theorem dX6_readLine_35 : decode cX6_readLine 35 = .ok (.iconst 1, 1) := by decide +kernel
theorem dX6_readLine_36 : decode cX6_readLine 36 = .ok (.goto 4, 3) := by decide +kernel
theorem dX6_readLine_39 : decode cX6_readLine 39 = .ok (.iconst 0, 1) := by decide +kernel
theorem dX6_readLine_40 : decode cX6_readLine 40 = .ok (.ireturn, 1) := by decide +kernel
theorem dX6_readHead_0 : decode cX6_readHead 0 = .ok (.aload_n 0, 1) := by decide +kernel
theorem dX6_readHead_1 : decode cX6_readHead 1 = .ok (.dup, 1) := by decide +kernel
theorem dX6_readHead_2 : decode cX6_readHead 2 = .ok (.getfield 22, 3) := by decide +kernel
theorem dX6_readHead_5 : decode cX6_readHead 5 = .ok (.iconst 1, 1) := by decide +kernel
theorem dX6_readHead_6 : decode cX6_readHead 6 = .ok (.iadd, 1) := by decide +kernel
theorem dX6_readHead_7 : decode cX6_readHead 7 = .ok (.putfield 22, 3) := by decide +kernel
theorem dX6_readHead_10 : decode cX6_readHead 10 = .ok (.iload_n 1, 1) := by decide +kernel
theorem dX6_readHead_11 : decode cX6_readHead 11 = .ok (.bipush 97, 2) := by decide +kernel
theorem dX6_readHead_13 : decode cX6_readHead 13 = .ok (.if_icmp .lt 28, 3) := by decide +kernel
theorem dX6_readHead_16 : decode cX6_readHead 16 = .ok (.iload_n 1, 1) := by decide +kernel
theorem dX6_readHead_17 : decode cX6_readHead 17 = .ok (.bipush 104, 2) := by decide +kernel
theorem dX6_readHead_19 : decode cX6_readHead 19 = .ok (.if_icmp .gt 22, 3) := by decide +kernel
theorem dX6_readHead_22 : decode cX6_readHead 22 = .ok (.aload_n 0, 1) := by decide +kernel
theorem dX6_readHead_23 : decode cX6_readHead 23 = .ok (.getfield 35, 3) := by decide +kernel
theorem dX6_readHead_26 : decode cX6_readHead 26 = .ok (.iconst 0, 1) := by decide +kernel
theorem dX6_readHead_27 : decode cX6_readHead 27 = .ok (.iload_n 1, 1) := by decide +kernel
theorem dX6_readHead_28 : decode cX6_readHead 28 = .ok (.bipush 97, 2) := by decide +kernel
theorem dX6_readHead_30 : decode cX6_readHead 30 = .ok (.isub, 1) := by decide +kernel
theorem dX6_readHead_31 : decode cX6_readHead 31 = .ok (.invokevirtual 43, 3) := by decide +kernel
theorem dX6_readHead_34 : decode cX6_readHead 34 = .ok (.aload_n 0, 1) := by decide +kernel
theorem dX6_readHead_35 : decode cX6_readHead 35 = .ok (.bipush 61, 2) := by decide +kernel
theorem dX6_readHead_37 : decode cX6_readHead 37 = .ok (.invokevirtual 58, 3) := by decide +kernel
theorem dX6_readHead_40 : decode cX6_readHead 40 = .ok (.ireturn, 1) := by decide +kernel
theorem dX6_readHead_41 : decode cX6_readHead 41 = .ok (.iload_n 1, 1) := by decide +kernel
theorem dX6_readHead_42 : decode cX6_readHead 42 = .ok (.lookupswitch 123 #[(63, 50), (106, 83), (109, 61), (115, 106), (120, 112)], 50) := by decide +kernel
theorem dX6_readHead_92 : decode cX6_readHead 92 = .ok (.aload_n 0, 1) := by decide +kernel
theorem dX6_readHead_93 : decode cX6_readHead 93 = .ok (.getfield 35, 3) := by decide +kernel
theorem dX6_readHead_96 : decode cX6_readHead 96 = .ok (.iconst 1, 1) := by decide +kernel
theorem dX6_readHead_97 : decode cX6_readHead 97 = .ok (.iconst 0, 1) := by decide +kernel
theorem dX6_readHead_98 : decode cX6_readHead 98 = .ok (.invokevirtual 43, 3) := by decide +kernel
theorem dX6_readHead_101 : decode cX6_readHead 101 = .ok (.iconst 1, 1) := by decide +kernel
theorem dX6_readHead_102 : decode cX6_readHead 102 = .ok (.ireturn, 1) := by decide +kernel
theorem dX6_readHead_103 : decode cX6_readHead 103 = .ok (.aload_n 0, 1) := by decide +kernel
theorem dX6_readHead_104 : decode cX6_readHead 104 = .ok (.invokevirtual 82, 3) := by decide +kernel
theorem dX6_readHead_107 : decode cX6_readHead 107 = .ok (.ifCond .eq 16, 3) := by decide +kernel
theorem dX6_readHead_110 : decode cX6_readHead 110 = .ok (.aload_n 0, 1) := by decide +kernel
theorem dX6_readHead_111 : decode cX6_readHead 111 = .ok (.bipush 58, 2) := by decide +kernel
theorem dX6_readHead_113 : decode cX6_readHead 113 = .ok (.invokevirtual 58, 3) := by decide +kernel
theorem dX6_readHead_116 : decode cX6_readHead 116 = .ok (.ifCond .eq 7, 3) := by decide +kernel
theorem dX6_readHead_119 : decode cX6_readHead 119 = .ok (.iconst 1, 1) := by decide +kernel
theorem dX6_readHead_120 : decode cX6_readHead 120 = .ok (.goto 4, 3) := by decide +kernel
theorem dX6_readHead_123 : decode cX6_readHead 123 = .ok (.iconst 0, 1) := by decide +kernel
theorem dX6_readHead_124 : decode cX6_readHead 124 = .ok (.ireturn, 1) := by decide +kernel
theorem dX6_readHead_125 : decode cX6_readHead 125 = .ok (.aload_n 0, 1) := by decide +kernel
theorem dX6_readHead_126 : decode cX6_readHead 126 = .ok (.iconst 3, 1) := by decide +kernel
theorem dX6_readHead_127 : decode cX6_readHead 127 = .ok (.invokevirtual 85, 3) := by decide +kernel
theorem dX6_readHead_130 : decode cX6_readHead 130 = .ok (.ifCond .eq 16, 3) := by decide +kernel
theorem dX6_readHead_133 : decode cX6_readHead 133 = .ok (.aload_n 0, 1) := by decide +kernel
theorem dX6_readHead_134 : decode cX6_readHead 134 = .ok (.bipush 58, 2) := by decide +kernel
theorem dX6_readHead_136 : decode cX6_readHead 136 = .ok (.invokevirtual 58, 3) := by decide +kernel
theorem dX6_readHead_139 : decode cX6_readHead 139 = .ok (.ifCond .eq 7, 3) := by decide +kernel
theorem dX6_readHead_142 : decode cX6_readHead 142 = .ok (.iconst 1, 1) := by decide +kernel
theorem dX6_readHead_143 : decode cX6_readHead 143 = .ok (.goto 4, 3) := by decide +kernel
theorem dX6_readHead_146 : decode cX6_readHead 146 = .ok (.iconst 0, 1) := by decide +kernel
theorem dX6_readHead_147 : decode cX6_readHead 147 = .ok (.ireturn, 1) := by decide +kernel
theorem dX6_readHead_148 : decode cX6_readHead 148 = .ok (.aload_n 0, 1) := by decide +kernel
theorem dX6_readHead_149 : decode cX6_readHead 149 = .ok (.iconst 4, 1) := by decide +kernel
theorem dX6_readHead_150 : decode cX6_readHead 150 = .ok (.invokevirtual 85, 3) := by decide +kernel
theorem dX6_readHead_153 : decode cX6_readHead 153 = .ok (.ireturn, 1) := by decide +kernel
theorem dX6_readHead_154 : decode cX6_readHead 154 = .ok (.aload_n 0, 1) := by decide +kernel
theorem dX6_readHead_155 : decode cX6_readHead 155 = .ok (.getfield 35, 3) := by decide +kernel
theorem dX6_readHead_158 : decode cX6_readHead 158 = .ok (.iconst 5, 1) := by decide +kernel
theorem dX6_readHead_159 : decode cX6_readHead 159 = .ok (.iconst 0, 1) := by decide +kernel
theorem dX6_readHead_160 : decode cX6_readHead 160 = .ok (.invokevirtual 43, 3) := by decide +kernel
theorem dX6_readHead_163 : decode cX6_readHead 163 = .ok (.iconst 1, 1) := by decide +kernel
theorem dX6_readHead_164 : decode cX6_readHead 164 = .ok (.ireturn, 1) := by decide +kernel
theorem dX6_readHead_165 : decode cX6_readHead 165 = .ok (.aload_n 0, 1) := by decide +kernel
theorem dX6_readHead_166 : decode cX6_readHead 166 = .ok (.dup, 1) := by decide +kernel
theorem dX6_readHead_167 : decode cX6_readHead 167 = .ok (.getfield 22, 3) := by decide +kernel
theorem dX6_readHead_170 : decode cX6_readHead 170 = .ok (.iconst 1, 1) := by decide +kernel
theorem dX6_readHead_171 : decode cX6_readHead 171 = .ok (.isub, 1) := by decide +kernel
theorem dX6_readHead_172 : decode cX6_readHead 172 = .ok (.putfield 22, 3) := by decide +kernel
theorem dX6_readHead_175 : decode cX6_readHead 175 = .ok (.iconst 0, 1) := by decide +kernel
theorem dX6_readHead_176 : decode cX6_readHead 176 = .ok (.ireturn, 1) := by decide +kernel
theorem dX6_readPart_0 : decode cX6_readPart 0 = .ok (.aload_n 0, 1) := by decide +kernel
theorem dX6_readPart_1 : decode cX6_readPart 1 = .ok (.invokevirtual 75, 3) := by decide +kernel
theorem dX6_readPart_4 : decode cX6_readPart 4 = .ok (.bipush 48, 2) := by decide +kernel
theorem dX6_readPart_6 : decode cX6_readPart 6 = .ok (.isub, 1) := by decide +kernel
theorem dX6_readPart_7 : decode cX6_readPart 7 = .ok (.istore_n 1, 1) := by decide +kernel
theorem dX6_readPart_8 : decode cX6_readPart 8 = .ok (.iload_n 1, 1) := by decide +kernel
theorem dX6_readPart_9 : decode cX6_readPart 9 = .ok (.ifCond .lt 8, 3) := by decide +kernel
theorem dX6_readPart_12 : decode cX6_readPart 12 = .ok (.iload_n 1, 1) := by decide +kernel
theorem dX6_readPart_13 : decode cX6_readPart 13 = .ok (.iconst 4, 1) := by decide +kernel
theorem dX6_readPart_14 : decode cX6_readPart 14 = .ok (.if_icmp .lt 5, 3) := by decide +kernel
theorem dX6_readPart_17 : decode cX6_readPart 17 = .ok (.iconst 0, 1) := by decide +kernel
theorem dX6_readPart_18 : decode cX6_readPart 18 = .ok (.ireturn, 1) := by decide +kernel
theorem dX6_readPart_19 : decode cX6_readPart 19 = .ok (.aload_n 0, 1) := by decide +kernel
theorem dX6_readPart_20 : decode cX6_readPart 20 = .ok (.dup, 1) := by decide +kernel
theorem dX6_readPart_21 : decode cX6_readPart 21 = .ok (.getfield 22, 3) := by decide +kernel
theorem dX6_readPart_24 : decode cX6_readPart 24 = .ok (.iconst 1, 1) := by decide +kernel
theorem dX6_readPart_25 : decode cX6_readPart 25 = .ok (.iadd, 1) := by decide +kernel
theorem dX6_readPart_26 : decode cX6_readPart 26 = .ok (.putfield 22, 3) := by decide +kernel
theorem dX6_readPart_29 : decode cX6_readPart 29 = .ok (.aload_n 0, 1) := by decide +kernel
theorem dX6_readPart_30 : decode cX6_readPart 30 = .ok (.getfield 35, 3) := by decide +kernel
theorem dX6_readPart_33 : decode cX6_readPart 33 = .ok (.iconst 2, 1) := by decide +kernel
theorem dX6_readPart_34 : decode cX6_readPart 34 = .ok (.iload_n 1, 1) := by decide +kernel
theorem dX6_readPart_35 : decode cX6_readPart 35 = .ok (.invokevirtual 43, 3) := by decide +kernel
theorem dX6_readPart_38 : decode cX6_readPart 38 = .ok (.iconst 1, 1) := by decide +kernel
theorem dX6_readPart_39 : decode cX6_readPart 39 = .ok (.ireturn, 1) := by decide +kernel
theorem dX6_readNumbered_0 : decode cX6_readNumbered 0 = .ok (.aload_n 0, 1) := by decide +kernel
theorem dX6_readNumbered_1 : decode cX6_readNumbered 1 = .ok (.invokevirtual 75, 3) := by decide +kernel
theorem dX6_readNumbered_4 : decode cX6_readNumbered 4 = .ok (.invokestatic 88, 3) := by decide +kernel
theorem dX6_readNumbered_7 : decode cX6_readNumbered 7 = .ok (.ifCond .ne 5, 3) := by decide +kernel
theorem dX6_readNumbered_10 : decode cX6_readNumbered 10 = .ok (.iconst 0, 1) := by decide +kernel
theorem dX6_readNumbered_11 : decode cX6_readNumbered 11 = .ok (.ireturn, 1) := by decide +kernel
theorem dX6_readNumbered_12 : decode cX6_readNumbered 12 = .ok (.aload_n 0, 1) := by decide +kernel
theorem dX6_readNumbered_13 : decode cX6_readNumbered 13 = .ok (.getfield 35, 3) := by decide +kernel
theorem dX6_readNumbered_16 : decode cX6_readNumbered 16 = .ok (.iload_n 1, 1) := by decide +kernel
theorem dX6_readNumbered_17 : decode cX6_readNumbered 17 = .ok (.aload_n 0, 1) := by decide +kernel
theorem dX6_readNumbered_18 : decode cX6_readNumbered 18 = .ok (.iconst 2, 1) := by decide +kernel
theorem dX6_readNumbered_19 : decode cX6_readNumbered 19 = .ok (.invokevirtual 91, 3) := by decide +kernel
theorem dX6_readNumbered_22 : decode cX6_readNumbered 22 = .ok (.invokevirtual 43, 3) := by decide +kernel
theorem dX6_readNumbered_25 : decode cX6_readNumbered 25 = .ok (.iconst 1, 1) := by decide +kernel
theorem dX6_readNumbered_26 : decode cX6_readNumbered 26 = .ok (.ireturn, 1) := by decide +kernel
theorem dX6_readNumber_0 : decode cX6_readNumber 0 = .ok (.iconst 0, 1) := by decide +kernel
theorem dX6_readNumber_1 : decode cX6_readNumber 1 = .ok (.istore_n 2, 1) := by decide +kernel
theorem dX6_readNumber_2 : decode cX6_readNumber 2 = .ok (.iconst 0, 1) := by decide +kernel
theorem dX6_readNumber_3 : decode cX6_readNumber 3 = .ok (.istore_n 3, 1) := by decide +kernel
theorem dX6_readNumber_4 : decode cX6_readNumber 4 = .ok (.iload_n 3, 1) := by decide +kernel
theorem dX6_readNumber_5 : decode cX6_readNumber 5 = .ok (.iload_n 1, 1) := by decide +kernel
theorem dX6_readNumber_6 : decode cX6_readNumber 6 = .ok (.if_icmp .ge 42, 3) := by decide +kernel
theorem dX6_readNumber_9 : decode cX6_readNumber 9 = .ok (.aload_n 0, 1) := by decide +kernel
theorem dX6_readNumber_10 : decode cX6_readNumber 10 = .ok (.invokevirtual 75, 3) := by decide +kernel
theorem dX6_readNumber_13 : decode cX6_readNumber 13 = .ok (.invokestatic 88, 3) := by decide +kernel
theorem dX6_readNumber_16 : decode cX6_readNumber 16 = .ok (.ifCond .eq 32, 3) := by decide +kernel
theorem dX6_readNumber_19 : decode cX6_readNumber 19 = .ok (.iload_n 2, 1) := by decide +kernel
theorem dX6_readNumber_20 : decode cX6_readNumber 20 = .ok (.bipush 10, 2) := by decide +kernel
theorem dX6_readNumber_22 : decode cX6_readNumber 22 = .ok (.imul, 1) := by decide +kernel
theorem dX6_readNumber_23 : decode cX6_readNumber 23 = .ok (.aload_n 0, 1) := by decide +kernel
theorem dX6_readNumber_24 : decode cX6_readNumber 24 = .ok (.invokevirtual 75, 3) := by decide +kernel
theorem dX6_readNumber_27 : decode cX6_readNumber 27 = .ok (.iadd, 1) := by decide +kernel
theorem dX6_readNumber_28 : decode cX6_readNumber 28 = .ok (.bipush 48, 2) := by decide +kernel
theorem dX6_readNumber_30 : decode cX6_readNumber 30 = .ok (.isub, 1) := by decide +kernel
theorem dX6_readNumber_31 : decode cX6_readNumber 31 = .ok (.istore_n 2, 1) := by decide +kernel
theorem dX6_readNumber_32 : decode cX6_readNumber 32 = .ok (.aload_n 0, 1) := by decide +kernel
theorem dX6_readNumber_33 : decode cX6_readNumber 33 = .ok (.dup, 1) := by decide +kernel
theorem dX6_readNumber_34 : decode cX6_readNumber 34 = .ok (.getfield 22, 3) := by decide +kernel
theorem dX6_readNumber_37 : decode cX6_readNumber 37 = .ok (.iconst 1, 1) := by decide +kernel
theorem dX6_readNumber_38 : decode cX6_readNumber 38 = .ok (.iadd, 1) := by decide +kernel
theorem dX6_readNumber_39 : decode cX6_readNumber 39 = .ok (.putfield 22, 3) := by decide +kernel
theorem dX6_readNumber_42 : decode cX6_readNumber 42 = .ok (.iinc 3 1, 3) := by decide +kernel
theorem dX6_readNumber_45 : decode cX6_readNumber 45 = .ok (.goto (-41), 3) := by decide +kernel
theorem dX6_readNumber_48 : decode cX6_readNumber 48 = .ok (.iload_n 2, 1) := by decide +kernel
theorem dX6_readNumber_49 : decode cX6_readNumber 49 = .ok (.ireturn, 1) := by decide +kernel
theorem dX6_readExpression_0 : decode cX6_readExpression 0 = .ok (.aload_n 0, 1) := by decide +kernel
theorem dX6_readExpression_1 : decode cX6_readExpression 1 = .ok (.iconst 0, 1) := by decide +kernel
theorem dX6_readExpression_2 : decode cX6_readExpression 2 = .ok (.putfield 29, 3) := by decide +kernel
theorem dX6_readExpression_5 : decode cX6_readExpression 5 = .ok (.iconst 0, 1) := by decide +kernel
theorem dX6_readExpression_6 : decode cX6_readExpression 6 = .ok (.istore_n 2, 1) := by decide +kernel
theorem dX6_readExpression_7 : decode cX6_readExpression 7 = .ok (.iconst 1, 1) := by decide +kernel
theorem dX6_readExpression_8 : decode cX6_readExpression 8 = .ok (.istore_n 3, 1) := by decide +kernel
theorem dX6_readExpression_9 : decode cX6_readExpression 9 = .ok (.iconst 0, 1) := by decide +kernel
theorem dX6_readExpression_10 : decode cX6_readExpression 10 = .ok (.istore 4, 2) := by decide +kernel
theorem dX6_readExpression_12 : decode cX6_readExpression 12 = .ok (.iload 4, 2) := by decide +kernel
theorem dX6_readExpression_14 : decode cX6_readExpression 14 = .ok (.bipush 60, 2) := by decide +kernel
theorem dX6_readExpression_16 : decode cX6_readExpression 16 = .ok (.if_icmp .gt 143, 3) := by decide +kernel
theorem dX6_readExpression_19 : decode cX6_readExpression 19 = .ok (.iload_n 3, 1) := by decide +kernel
theorem dX6_readExpression_20 : decode cX6_readExpression 20 = .ok (.ifCond .eq 58, 3) := by decide +kernel
theorem dX6_readExpression_23 : decode cX6_readExpression 23 = .ok (.aload_n 0, 1) := by decide +kernel
theorem dX6_readExpression_24 : decode cX6_readExpression 24 = .ok (.invokevirtual 75, 3) := by decide +kernel
theorem dX6_readExpression_27 : decode cX6_readExpression 27 = .ok (.bipush 40, 2) := by decide +kernel
theorem dX6_readExpression_29 : decode cX6_readExpression 29 = .ok (.if_icmp .ne 10, 3) := by decide +kernel
theorem dX6_readExpression_32 : decode cX6_readExpression 32 = .ok (.iload_n 2, 1) := by decide +kernel
theorem dX6_readExpression_33 : decode cX6_readExpression 33 = .ok (.iconst 5, 1) := by decide +kernel
theorem dX6_readExpression_34 : decode cX6_readExpression 34 = .ok (.if_icmp .ne 5, 3) := by decide +kernel
theorem dX6_readExpression_37 : decode cX6_readExpression 37 = .ok (.iconst 0, 1) := by decide +kernel
theorem dX6_readExpression_38 : decode cX6_readExpression 38 = .ok (.ireturn, 1) := by decide +kernel
theorem dX6_readExpression_39 : decode cX6_readExpression 39 = .ok (.iload_n 2, 1) := by decide +kernel
theorem dX6_readExpression_40 : decode cX6_readExpression 40 = .ok (.aload_n 0, 1) := by decide +kernel
theorem dX6_readExpression_41 : decode cX6_readExpression 41 = .ok (.invokevirtual 75, 3) := by decide +kernel
theorem dX6_readExpression_44 : decode cX6_readExpression 44 = .ok (.bipush 40, 2) := by decide +kernel
theorem dX6_readExpression_46 : decode cX6_readExpression 46 = .ok (.if_icmp .ne 7, 3) := by decide +kernel
theorem dX6_readExpression_49 : decode cX6_readExpression 49 = .ok (.iconst 1, 1) := by decide +kernel
theorem dX6_readExpression_50 : decode cX6_readExpression 50 = .ok (.goto 4, 3) := by decide +kernel
theorem dX6_readExpression_53 : decode cX6_readExpression 53 = .ok (.iconst 0, 1) := by decide +kernel
theorem dX6_readExpression_54 : decode cX6_readExpression 54 = .ok (.iadd, 1) := by decide +kernel
theorem dX6_readExpression_55 : decode cX6_readExpression 55 = .ok (.istore_n 2, 1) := by decide +kernel
theorem dX6_readExpression_56 : decode cX6_readExpression 56 = .ok (.aload_n 0, 1) := by decide +kernel
theorem dX6_readExpression_57 : decode cX6_readExpression 57 = .ok (.invokevirtual 95, 3) := by decide +kernel
theorem dX6_readExpression_60 : decode cX6_readExpression 60 = .ok (.ifCond .ne 93, 3) := by decide +kernel
theorem dX6_readExpression_63 : decode cX6_readExpression 63 = .ok (.aload_n 0, 1) := by decide +kernel
theorem dX6_readExpression_64 : decode cX6_readExpression 64 = .ok (.iload_n 1, 1) := by decide +kernel
theorem dX6_readExpression_65 : decode cX6_readExpression 65 = .ok (.invokevirtual 98, 3) := by decide +kernel
theorem dX6_readExpression_68 : decode cX6_readExpression 68 = .ok (.ifCond .ne 5, 3) := by decide +kernel
theorem dX6_readExpression_71 : decode cX6_readExpression 71 = .ok (.iconst 0, 1) := by decide +kernel
theorem dX6_readExpression_72 : decode cX6_readExpression 72 = .ok (.ireturn, 1) := by decide +kernel
theorem dX6_readExpression_73 : decode cX6_readExpression 73 = .ok (.iconst 0, 1) := by decide +kernel
theorem dX6_readExpression_74 : decode cX6_readExpression 74 = .ok (.istore_n 3, 1) := by decide +kernel
theorem dX6_readExpression_75 : decode cX6_readExpression 75 = .ok (.goto 78, 3) := by decide +kernel
theorem dX6_readExpression_78 : decode cX6_readExpression 78 = .ok (.aload_n 0, 1) := by decide +kernel
theorem dX6_readExpression_79 : decode cX6_readExpression 79 = .ok (.invokevirtual 75, 3) := by decide +kernel
theorem dX6_readExpression_82 : decode cX6_readExpression 82 = .ok (.bipush 41, 2) := by decide +kernel
theorem dX6_readExpression_84 : decode cX6_readExpression 84 = .ok (.if_icmp .ne 38, 3) := by decide +kernel
theorem dX6_readExpression_87 : decode cX6_readExpression 87 = .ok (.iload_n 2, 1) := by decide +kernel
theorem dX6_readExpression_88 : decode cX6_readExpression 88 = .ok (.ifCond .le 34, 3) := by decide +kernel
theorem dX6_readExpression_91 : decode cX6_readExpression 91 = .ok (.aload_n 0, 1) := by decide +kernel
theorem dX6_readExpression_92 : decode cX6_readExpression 92 = .ok (.dup, 1) := by decide +kernel
theorem dX6_readExpression_93 : decode cX6_readExpression 93 = .ok (.getfield 22, 3) := by decide +kernel
theorem dX6_readExpression_96 : decode cX6_readExpression 96 = .ok (.iconst 1, 1) := by decide +kernel
theorem dX6_readExpression_97 : decode cX6_readExpression 97 = .ok (.iadd, 1) := by decide +kernel
theorem dX6_readExpression_98 : decode cX6_readExpression 98 = .ok (.putfield 22, 3) := by decide +kernel
theorem dX6_readExpression_101 : decode cX6_readExpression 101 = .ok (.iinc 2 (-1), 3) := by decide +kernel
theorem dX6_readExpression_104 : decode cX6_readExpression 104 = .ok (.aload_n 0, 1) := by decide +kernel
theorem dX6_readExpression_105 : decode cX6_readExpression 105 = .ok (.iconst 1, 1) := by decide +kernel
theorem dX6_readExpression_106 : decode cX6_readExpression 106 = .ok (.invokevirtual 101, 3) := by decide +kernel
theorem dX6_readExpression_109 : decode cX6_readExpression 109 = .ok (.aload_n 0, 1) := by decide +kernel
theorem dX6_readExpression_110 : decode cX6_readExpression 110 = .ok (.dup, 1) := by decide +kernel
theorem dX6_readExpression_111 : decode cX6_readExpression 111 = .ok (.getfield 29, 3) := by decide +kernel
theorem dX6_readExpression_114 : decode cX6_readExpression 114 = .ok (.iconst 1, 1) := by decide +kernel
theorem dX6_readExpression_115 : decode cX6_readExpression 115 = .ok (.isub, 1) := by decide +kernel
theorem dX6_readExpression_116 : decode cX6_readExpression 116 = .ok (.putfield 29, 3) := by decide +kernel
theorem dX6_readExpression_119 : decode cX6_readExpression 119 = .ok (.goto 34, 3) := by decide +kernel
theorem dX6_readExpression_122 : decode cX6_readExpression 122 = .ok (.aload_n 0, 1) := by decide +kernel
theorem dX6_readExpression_123 : decode cX6_readExpression 123 = .ok (.invokevirtual 75, 3) := by decide +kernel
theorem dX6_readExpression_126 : decode cX6_readExpression 126 = .ok (.invokestatic 104, 3) := by decide +kernel
theorem dX6_readExpression_129 : decode cX6_readExpression 129 = .ok (.istore 5, 2) := by decide +kernel
theorem dX6_readExpression_131 : decode cX6_readExpression 131 = .ok (.iload 5, 2) := by decide +kernel
theorem dX6_readExpression_133 : decode cX6_readExpression 133 = .ok (.iconst (-1), 1) := by decide +kernel
theorem dX6_readExpression_134 : decode cX6_readExpression 134 = .ok (.if_icmp .ne 6, 3) := by decide +kernel
theorem dX6_readExpression_137 : decode cX6_readExpression 137 = .ok (.goto 22, 3) := by decide +kernel
theorem dX6_readExpression_140 : decode cX6_readExpression 140 = .ok (.aload_n 0, 1) := by decide +kernel
theorem dX6_readExpression_141 : decode cX6_readExpression 141 = .ok (.iload 5, 2) := by decide +kernel
theorem dX6_readExpression_143 : decode cX6_readExpression 143 = .ok (.invokevirtual 109, 3) := by decide +kernel
theorem dX6_readExpression_146 : decode cX6_readExpression 146 = .ok (.ifCond .ne 5, 3) := by decide +kernel
theorem dX6_readExpression_149 : decode cX6_readExpression 149 = .ok (.iconst 0, 1) := by decide +kernel
theorem dX6_readExpression_150 : decode cX6_readExpression 150 = .ok (.ireturn, 1) := by decide +kernel
theorem dX6_readExpression_151 : decode cX6_readExpression 151 = .ok (.iconst 1, 1) := by decide +kernel
theorem dX6_readExpression_152 : decode cX6_readExpression 152 = .ok (.istore_n 3, 1) := by decide +kernel
theorem dX6_readExpression_153 : decode cX6_readExpression 153 = .ok (.iinc 4 1, 3) := by decide +kernel
theorem dX6_readExpression_156 : decode cX6_readExpression 156 = .ok (.goto (-144), 3) := by decide +kernel
theorem dX6_readExpression_159 : decode cX6_readExpression 159 = .ok (.aload_n 0, 1) := by decide +kernel
theorem dX6_readExpression_160 : decode cX6_readExpression 160 = .ok (.iconst 1, 1) := by decide +kernel
theorem dX6_readExpression_161 : decode cX6_readExpression 161 = .ok (.invokevirtual 101, 3) := by decide +kernel
theorem dX6_readExpression_164 : decode cX6_readExpression 164 = .ok (.iload_n 2, 1) := by decide +kernel
theorem dX6_readExpression_165 : decode cX6_readExpression 165 = .ok (.ifCond .ne 11, 3) := by decide +kernel
theorem dX6_readExpression_168 : decode cX6_readExpression 168 = .ok (.iload_n 3, 1) := by decide +kernel
theorem dX6_readExpression_169 : decode cX6_readExpression 169 = .ok (.ifCond .ne 7, 3) := by decide +kernel
theorem dX6_readExpression_172 : decode cX6_readExpression 172 = .ok (.iconst 1, 1) := by decide +kernel
theorem dX6_readExpression_173 : decode cX6_readExpression 173 = .ok (.goto 4, 3) := by decide +kernel
theorem dX6_readExpression_176 : decode cX6_readExpression 176 = .ok (.iconst 0, 1) := by decide +kernel
theorem dX6_readExpression_177 : decode cX6_readExpression 177 = .ok (.ireturn, 1) := by decide +kernel
theorem dX6_readAhead_0 : decode cX6_readAhead 0 = .ok (.aload_n 0, 1) := by decide +kernel
theorem dX6_readAhead_1 : decode cX6_readAhead 1 = .ok (.invokevirtual 75, 3) := by decide +kernel
theorem dX6_readAhead_4 : decode cX6_readAhead 4 = .ok (.lookupswitch 66 #[(33, 36), (40, 56), (45, 46)], 36) := by decide +kernel
theorem dX6_readAhead_40 : decode cX6_readAhead 40 = .ok (.aload_n 0, 1) := by decide +kernel
theorem dX6_readAhead_41 : decode cX6_readAhead 41 = .ok (.sipush 1037, 3) := by decide +kernel
theorem dX6_readAhead_44 : decode cX6_readAhead 44 = .ok (.invokevirtual 112, 3) := by decide +kernel
theorem dX6_readAhead_47 : decode cX6_readAhead 47 = .ok (.goto 25, 3) := by decide +kernel
theorem dX6_readAhead_50 : decode cX6_readAhead 50 = .ok (.aload_n 0, 1) := by decide +kernel
theorem dX6_readAhead_51 : decode cX6_readAhead 51 = .ok (.sipush 1038, 3) := by decide +kernel
theorem dX6_readAhead_54 : decode cX6_readAhead 54 = .ok (.invokevirtual 112, 3) := by decide +kernel
theorem dX6_readAhead_57 : decode cX6_readAhead 57 = .ok (.goto 15, 3) := by decide +kernel
theorem dX6_readAhead_60 : decode cX6_readAhead 60 = .ok (.aload_n 0, 1) := by decide +kernel
theorem dX6_readAhead_61 : decode cX6_readAhead 61 = .ok (.sipush 1039, 3) := by decide +kernel
theorem dX6_readAhead_64 : decode cX6_readAhead 64 = .ok (.invokevirtual 112, 3) := by decide +kernel
theorem dX6_readAhead_67 : decode cX6_readAhead 67 = .ok (.goto 5, 3) := by decide +kernel
theorem dX6_readAhead_70 : decode cX6_readAhead 70 = .ok (.iconst 0, 1) := by decide +kernel
theorem dX6_readAhead_71 : decode cX6_readAhead 71 = .ok (.ireturn, 1) := by decide +kernel
theorem dX6_readAhead_72 : decode cX6_readAhead 72 = .ok (.aload_n 0, 1) := by decide +kernel
theorem dX6_readAhead_73 : decode cX6_readAhead 73 = .ok (.dup, 1) := by decide +kernel
theorem dX6_readAhead_74 : decode cX6_readAhead 74 = .ok (.getfield 22, 3) := by decide +kernel
theorem dX6_readAhead_77 : decode cX6_readAhead 77 = .ok (.iconst 1, 1) := by decide +kernel
theorem dX6_readAhead_78 : decode cX6_readAhead 78 = .ok (.iadd, 1) := by decide +kernel
theorem dX6_readAhead_79 : decode cX6_readAhead 79 = .ok (.putfield 22, 3) := by decide +kernel
theorem dX6_readAhead_82 : decode cX6_readAhead 82 = .ok (.iconst 1, 1) := by decide +kernel
theorem dX6_readAhead_83 : decode cX6_readAhead 83 = .ok (.ireturn, 1) := by decide +kernel
theorem dX6_readThing_0 : decode cX6_readThing 0 = .ok (.aload_n 0, 1) := by decide +kernel
theorem dX6_readThing_1 : decode cX6_readThing 1 = .ok (.invokevirtual 75, 3) := by decide +kernel
theorem dX6_readThing_4 : decode cX6_readThing 4 = .ok (.invokestatic 88, 3) := by decide +kernel
theorem dX6_readThing_7 : decode cX6_readThing 7 = .ok (.ifCond .eq 17, 3) := by decide +kernel
theorem dX6_readThing_10 : decode cX6_readThing 10 = .ok (.aload_n 0, 1) := by decide +kernel
theorem dX6_readThing_11 : decode cX6_readThing 11 = .ok (.getfield 35, 3) := by decide +kernel
theorem dX6_readThing_14 : decode cX6_readThing 14 = .ok (.aload_n 0, 1) := by decide +kernel
theorem dX6_readThing_15 : decode cX6_readThing 15 = .ok (.iconst 3, 1) := by decide +kernel
theorem dX6_readThing_16 : decode cX6_readThing 16 = .ok (.invokevirtual 91, 3) := by decide +kernel
theorem dX6_readThing_19 : decode cX6_readThing 19 = .ok (.invokevirtual 115, 3) := by decide +kernel
theorem dX6_readThing_22 : decode cX6_readThing 22 = .ok (.iconst 1, 1) := by decide +kernel
theorem dX6_readThing_23 : decode cX6_readThing 23 = .ok (.ireturn, 1) := by decide +kernel
theorem dX6_readThing_24 : decode cX6_readThing 24 = .ok (.aload_n 0, 1) := by decide +kernel
theorem dX6_readThing_25 : decode cX6_readThing 25 = .ok (.invokevirtual 75, 3) := by decide +kernel
theorem dX6_readThing_28 : decode cX6_readThing 28 = .ok (.iload_n 1, 1) := by decide +kernel
theorem dX6_readThing_29 : decode cX6_readThing 29 = .ok (.invokestatic 118, 3) := by decide +kernel
theorem dX6_readThing_32 : decode cX6_readThing 32 = .ok (.istore_n 2, 1) := by decide +kernel
theorem dX6_readThing_33 : decode cX6_readThing 33 = .ok (.iload_n 2, 1) := by decide +kernel
theorem dX6_readThing_34 : decode cX6_readThing 34 = .ok (.iconst (-1), 1) := by decide +kernel
theorem dX6_readThing_35 : decode cX6_readThing 35 = .ok (.if_icmp .ne 5, 3) := by decide +kernel
theorem dX6_readThing_38 : decode cX6_readThing 38 = .ok (.iconst 0, 1) := by decide +kernel
theorem dX6_readThing_39 : decode cX6_readThing 39 = .ok (.ireturn, 1) := by decide +kernel
theorem dX6_readThing_40 : decode cX6_readThing 40 = .ok (.aload_n 0, 1) := by decide +kernel
theorem dX6_readThing_41 : decode cX6_readThing 41 = .ok (.getfield 35, 3) := by decide +kernel
theorem dX6_readThing_44 : decode cX6_readThing 44 = .ok (.iload_n 2, 1) := by decide +kernel
theorem dX6_readThing_45 : decode cX6_readThing 45 = .ok (.invokevirtual 115, 3) := by decide +kernel
theorem dX6_readThing_48 : decode cX6_readThing 48 = .ok (.aload_n 0, 1) := by decide +kernel
theorem dX6_readThing_49 : decode cX6_readThing 49 = .ok (.dup, 1) := by decide +kernel
theorem dX6_readThing_50 : decode cX6_readThing 50 = .ok (.getfield 22, 3) := by decide +kernel
theorem dX6_readThing_53 : decode cX6_readThing 53 = .ok (.iconst 1, 1) := by decide +kernel
theorem dX6_readThing_54 : decode cX6_readThing 54 = .ok (.iadd, 1) := by decide +kernel
theorem dX6_readThing_55 : decode cX6_readThing 55 = .ok (.putfield 22, 3) := by decide +kernel
theorem dX6_readThing_58 : decode cX6_readThing 58 = .ok (.iconst 1, 1) := by decide +kernel
theorem dX6_readThing_59 : decode cX6_readThing 59 = .ok (.ireturn, 1) := by decide +kernel
theorem dX6_holdJoint_0 : decode cX6_holdJoint 0 = .ok (.iload_n 1, 1) := by decide +kernel
theorem dX6_holdJoint_1 : decode cX6_holdJoint 1 = .ok (.invokestatic 122, 3) := by decide +kernel
theorem dX6_holdJoint_4 : decode cX6_holdJoint 4 = .ok (.istore_n 2, 1) := by decide +kernel
theorem dX6_holdJoint_5 : decode cX6_holdJoint 5 = .ok (.iload_n 2, 1) := by decide +kernel
theorem dX6_holdJoint_6 : decode cX6_holdJoint 6 = .ok (.iconst 3, 1) := by decide +kernel
theorem dX6_holdJoint_7 : decode cX6_holdJoint 7 = .ok (.if_icmp .ne 20, 3) := by decide +kernel
theorem dX6_holdJoint_10 : decode cX6_holdJoint 10 = .ok (.aload_n 0, 1) := by decide +kernel
theorem dX6_holdJoint_11 : decode cX6_holdJoint 11 = .ok (.iload_n 2, 1) := by decide +kernel
theorem dX6_holdJoint_12 : decode cX6_holdJoint 12 = .ok (.iconst 1, 1) := by decide +kernel
theorem dX6_holdJoint_13 : decode cX6_holdJoint 13 = .ok (.iadd, 1) := by decide +kernel
theorem dX6_holdJoint_14 : decode cX6_holdJoint 14 = .ok (.invokevirtual 101, 3) := by decide +kernel
theorem dX6_holdJoint_17 : decode cX6_holdJoint 17 = .ok (.aload_n 0, 1) := by decide +kernel
theorem dX6_holdJoint_18 : decode cX6_holdJoint 18 = .ok (.invokevirtual 125, 3) := by decide +kernel
theorem dX6_holdJoint_21 : decode cX6_holdJoint 21 = .ok (.iconst 3, 1) := by decide +kernel
theorem dX6_holdJoint_22 : decode cX6_holdJoint 22 = .ok (.if_icmp .ne 10, 3) := by decide +kernel
theorem dX6_holdJoint_25 : decode cX6_holdJoint 25 = .ok (.iconst 0, 1) := by decide +kernel
theorem dX6_holdJoint_26 : decode cX6_holdJoint 26 = .ok (.ireturn, 1) := by decide +kernel
theorem dX6_holdJoint_27 : decode cX6_holdJoint 27 = .ok (.aload_n 0, 1) := by decide +kernel
theorem dX6_holdJoint_28 : decode cX6_holdJoint 28 = .ok (.iload_n 2, 1) := by decide +kernel
theorem dX6_holdJoint_29 : decode cX6_holdJoint 29 = .ok (.invokevirtual 101, 3) := by decide +kernel
theorem dX6_holdJoint_32 : decode cX6_holdJoint 32 = .ok (.aload_n 0, 1) := by decide +kernel
theorem dX6_holdJoint_33 : decode cX6_holdJoint 33 = .ok (.iload_n 1, 1) := by decide +kernel
theorem dX6_holdJoint_34 : decode cX6_holdJoint 34 = .ok (.invokevirtual 112, 3) := by decide +kernel
theorem dX6_holdJoint_37 : decode cX6_holdJoint 37 = .ok (.aload_n 0, 1) := by decide +kernel
theorem dX6_holdJoint_38 : decode cX6_holdJoint 38 = .ok (.dup, 1) := by decide +kernel
theorem dX6_holdJoint_39 : decode cX6_holdJoint 39 = .ok (.getfield 22, 3) := by decide +kernel
theorem dX6_holdJoint_42 : decode cX6_holdJoint 42 = .ok (.iconst 1, 1) := by decide +kernel
theorem dX6_holdJoint_43 : decode cX6_holdJoint 43 = .ok (.iadd, 1) := by decide +kernel
theorem dX6_holdJoint_44 : decode cX6_holdJoint 44 = .ok (.putfield 22, 3) := by decide +kernel
theorem dX6_holdJoint_47 : decode cX6_holdJoint 47 = .ok (.iconst 1, 1) := by decide +kernel
theorem dX6_holdJoint_48 : decode cX6_holdJoint 48 = .ok (.ireturn, 1) := by decide +kernel
theorem dX6_hold_0 : decode cX6_hold 0 = .ok (.aload_n 0, 1) := by decide +kernel
theorem dX6_hold_1 : decode cX6_hold 1 = .ok (.getfield 29, 3) := by decide +kernel
theorem dX6_hold_4 : decode cX6_hold 4 = .ok (.bipush 60, 2) := by decide +kernel
theorem dX6_hold_6 : decode cX6_hold 6 = .ok (.if_icmp .ge 23, 3) := by decide +kernel
theorem dX6_hold_9 : decode cX6_hold 9 = .ok (.aload_n 0, 1) := by decide +kernel
theorem dX6_hold_10 : decode cX6_hold 10 = .ok (.getfield 25, 3) := by decide +kernel
theorem dX6_hold_13 : decode cX6_hold 13 = .ok (.aload_n 0, 1) := by decide +kernel
theorem dX6_hold_14 : decode cX6_hold 14 = .ok (.getfield 29, 3) := by decide +kernel
theorem dX6_hold_17 : decode cX6_hold 17 = .ok (.iload_n 1, 1) := by decide +kernel
theorem dX6_hold_18 : decode cX6_hold 18 = .ok (.iastore, 1) := by decide +kernel
theorem dX6_hold_19 : decode cX6_hold 19 = .ok (.aload_n 0, 1) := by decide +kernel
theorem dX6_hold_20 : decode cX6_hold 20 = .ok (.dup, 1) := by decide +kernel
theorem dX6_hold_21 : decode cX6_hold 21 = .ok (.getfield 29, 3) := by decide +kernel
theorem dX6_hold_24 : decode cX6_hold 24 = .ok (.iconst 1, 1) := by decide +kernel
theorem dX6_hold_25 : decode cX6_hold 25 = .ok (.iadd, 1) := by decide +kernel
theorem dX6_hold_26 : decode cX6_hold 26 = .ok (.putfield 29, 3) := by decide +kernel
theorem dX6_hold_29 : decode cX6_hold 29 = .ok (.return_, 1) := by decide +kernel
theorem dX6_heldRank_0 : decode cX6_heldRank 0 = .ok (.aload_n 0, 1) := by decide +kernel
theorem dX6_heldRank_1 : decode cX6_heldRank 1 = .ok (.getfield 29, 3) := by decide +kernel
theorem dX6_heldRank_4 : decode cX6_heldRank 4 = .ok (.ifCond .le 20, 3) := by decide +kernel
theorem dX6_heldRank_7 : decode cX6_heldRank 7 = .ok (.aload_n 0, 1) := by decide +kernel
theorem dX6_heldRank_8 : decode cX6_heldRank 8 = .ok (.getfield 25, 3) := by decide +kernel
theorem dX6_heldRank_11 : decode cX6_heldRank 11 = .ok (.aload_n 0, 1) := by decide +kernel
theorem dX6_heldRank_12 : decode cX6_heldRank 12 = .ok (.getfield 29, 3) := by decide +kernel
theorem dX6_heldRank_15 : decode cX6_heldRank 15 = .ok (.iconst 1, 1) := by decide +kernel
theorem dX6_heldRank_16 : decode cX6_heldRank 16 = .ok (.isub, 1) := by decide +kernel
theorem dX6_heldRank_17 : decode cX6_heldRank 17 = .ok (.iaload, 1) := by decide +kernel
theorem dX6_heldRank_18 : decode cX6_heldRank 18 = .ok (.invokestatic 122, 3) := by decide +kernel
theorem dX6_heldRank_21 : decode cX6_heldRank 21 = .ok (.goto 4, 3) := by decide +kernel
theorem dX6_heldRank_24 : decode cX6_heldRank 24 = .ok (.iconst 0, 1) := by decide +kernel
theorem dX6_heldRank_25 : decode cX6_heldRank 25 = .ok (.ireturn, 1) := by decide +kernel
theorem dX6_release_0 : decode cX6_release 0 = .ok (.aload_n 0, 1) := by decide +kernel
theorem dX6_release_1 : decode cX6_release 1 = .ok (.getfield 29, 3) := by decide +kernel
theorem dX6_release_4 : decode cX6_release 4 = .ok (.ifCond .le 40, 3) := by decide +kernel
theorem dX6_release_7 : decode cX6_release 7 = .ok (.aload_n 0, 1) := by decide +kernel
theorem dX6_release_8 : decode cX6_release 8 = .ok (.invokevirtual 125, 3) := by decide +kernel
theorem dX6_release_11 : decode cX6_release 11 = .ok (.iload_n 1, 1) := by decide +kernel
theorem dX6_release_12 : decode cX6_release 12 = .ok (.if_icmp .lt 32, 3) := by decide +kernel
theorem dX6_release_15 : decode cX6_release 15 = .ok (.aload_n 0, 1) := by decide +kernel
theorem dX6_release_16 : decode cX6_release 16 = .ok (.dup, 1) := by decide +kernel
theorem dX6_release_17 : decode cX6_release 17 = .ok (.getfield 29, 3) := by decide +kernel
theorem dX6_release_20 : decode cX6_release 20 = .ok (.iconst 1, 1) := by decide +kernel
theorem dX6_release_21 : decode cX6_release 21 = .ok (.isub, 1) := by decide +kernel
theorem dX6_release_22 : decode cX6_release 22 = .ok (.putfield 29, 3) := by decide +kernel
theorem dX6_release_25 : decode cX6_release 25 = .ok (.aload_n 0, 1) := by decide +kernel
theorem dX6_release_26 : decode cX6_release 26 = .ok (.getfield 35, 3) := by decide +kernel
theorem dX6_release_29 : decode cX6_release 29 = .ok (.aload_n 0, 1) := by decide +kernel
theorem dX6_release_30 : decode cX6_release 30 = .ok (.getfield 25, 3) := by decide +kernel
theorem dX6_release_33 : decode cX6_release 33 = .ok (.aload_n 0, 1) := by decide +kernel
theorem dX6_release_34 : decode cX6_release 34 = .ok (.getfield 29, 3) := by decide +kernel
theorem dX6_release_37 : decode cX6_release 37 = .ok (.iaload, 1) := by decide +kernel
theorem dX6_release_38 : decode cX6_release 38 = .ok (.invokevirtual 115, 3) := by decide +kernel
theorem dX6_release_41 : decode cX6_release 41 = .ok (.goto (-41), 3) := by decide +kernel
theorem dX6_release_44 : decode cX6_release 44 = .ok (.return_, 1) := by decide +kernel
theorem dX7_init_0 : decode cX7_init 0 = .ok (.aload_n 0, 1) := by decide +kernel
theorem dX7_init_1 : decode cX7_init 1 = .ok (.invokespecial 3, 3) := by decide +kernel
theorem dX7_init_4 : decode cX7_init 4 = .ok (.aload_n 0, 1) := by decide +kernel
theorem dX7_init_5 : decode cX7_init 5 = .ok (.bipush 20, 2) := by decide +kernel
theorem dX7_init_7 : decode cX7_init 7 = .ok (.newarray .long, 2) := by decide +kernel
theorem dX7_init_9 : decode cX7_init 9 = .ok (.putfield 9, 3) := by decide +kernel
theorem dX7_init_12 : decode cX7_init 12 = .ok (.aload_n 0, 1) := by decide +kernel
theorem dX7_init_13 : decode cX7_init 13 = .ok (.iconst 0, 1) := by decide +kernel
theorem dX7_init_14 : decode cX7_init 14 = .ok (.putfield 15, 3) := by decide +kernel
theorem dX7_init_17 : decode cX7_init 17 = .ok (.return_, 1) := by decide +kernel
theorem dX7_clear_0 : decode cX7_clear 0 = .ok (.aload_n 0, 1) := by decide +kernel
theorem dX7_clear_1 : decode cX7_clear 1 = .ok (.iconst 0, 1) := by decide +kernel
theorem dX7_clear_2 : decode cX7_clear 2 = .ok (.putfield 15, 3) := by decide +kernel
theorem dX7_clear_5 : decode cX7_clear 5 = .ok (.return_, 1) := by decide +kernel
theorem dX7_tellNext_0 : decode cX7_tellNext 0 = .ok (.aload_n 0, 1) := by decide +kernel
theorem dX7_tellNext_1 : decode cX7_tellNext 1 = .ok (.getfield 15, 3) := by decide +kernel
theorem dX7_tellNext_4 : decode cX7_tellNext 4 = .ok (.bipush 20, 2) := by decide +kernel
theorem dX7_tellNext_6 : decode cX7_tellNext 6 = .ok (.if_icmp .ge 23, 3) := by decide +kernel
theorem dX7_tellNext_9 : decode cX7_tellNext 9 = .ok (.aload_n 0, 1) := by decide +kernel
theorem dX7_tellNext_10 : decode cX7_tellNext 10 = .ok (.getfield 9, 3) := by decide +kernel
theorem dX7_tellNext_13 : decode cX7_tellNext 13 = .ok (.aload_n 0, 1) := by decide +kernel
theorem dX7_tellNext_14 : decode cX7_tellNext 14 = .ok (.getfield 15, 3) := by decide +kernel
theorem dX7_tellNext_17 : decode cX7_tellNext 17 = .ok (.lload_n 1, 1) := by decide +kernel
theorem dX7_tellNext_18 : decode cX7_tellNext 18 = .ok (.lastore, 1) := by decide +kernel
theorem dX7_tellNext_19 : decode cX7_tellNext 19 = .ok (.aload_n 0, 1) := by decide +kernel
theorem dX7_tellNext_20 : decode cX7_tellNext 20 = .ok (.dup, 1) := by decide +kernel
theorem dX7_tellNext_21 : decode cX7_tellNext 21 = .ok (.getfield 15, 3) := by decide +kernel
theorem dX7_tellNext_24 : decode cX7_tellNext 24 = .ok (.iconst 1, 1) := by decide +kernel
theorem dX7_tellNext_25 : decode cX7_tellNext 25 = .ok (.iadd, 1) := by decide +kernel
theorem dX7_tellNext_26 : decode cX7_tellNext 26 = .ok (.putfield 15, 3) := by decide +kernel
theorem dX7_tellNext_29 : decode cX7_tellNext 29 = .ok (.return_, 1) := by decide +kernel
theorem dX7_tellOne_0 : decode cX7_tellOne 0 = .ok (.aload_n 0, 1) := by decide +kernel
theorem dX7_tellOne_1 : decode cX7_tellOne 1 = .ok (.iconst 0, 1) := by decide +kernel
theorem dX7_tellOne_2 : decode cX7_tellOne 2 = .ok (.putfield 15, 3) := by decide +kernel
theorem dX7_tellOne_5 : decode cX7_tellOne 5 = .ok (.aload_n 0, 1) := by decide +kernel
theorem dX7_tellOne_6 : decode cX7_tellOne 6 = .ok (.lload_n 1, 1) := by decide +kernel
theorem dX7_tellOne_7 : decode cX7_tellOne 7 = .ok (.invokevirtual 19, 3) := by decide +kernel
theorem dX7_tellOne_10 : decode cX7_tellOne 10 = .ok (.return_, 1) := by decide +kernel
theorem dX7_tellTwo_0 : decode cX7_tellTwo 0 = .ok (.aload_n 0, 1) := by decide +kernel
theorem dX7_tellTwo_1 : decode cX7_tellTwo 1 = .ok (.iconst 0, 1) := by decide +kernel
theorem dX7_tellTwo_2 : decode cX7_tellTwo 2 = .ok (.putfield 15, 3) := by decide +kernel
theorem dX7_tellTwo_5 : decode cX7_tellTwo 5 = .ok (.aload_n 0, 1) := by decide +kernel
theorem dX7_tellTwo_6 : decode cX7_tellTwo 6 = .ok (.lload_n 1, 1) := by decide +kernel
theorem dX7_tellTwo_7 : decode cX7_tellTwo 7 = .ok (.invokevirtual 19, 3) := by decide +kernel
theorem dX7_tellTwo_10 : decode cX7_tellTwo 10 = .ok (.aload_n 0, 1) := by decide +kernel
theorem dX7_tellTwo_11 : decode cX7_tellTwo 11 = .ok (.lload_n 3, 1) := by decide +kernel
theorem dX7_tellTwo_12 : decode cX7_tellTwo 12 = .ok (.invokevirtual 19, 3) := by decide +kernel
theorem dX7_tellTwo_15 : decode cX7_tellTwo 15 = .ok (.return_, 1) := by decide +kernel
theorem dX8_init_0 : decode cX8_init 0 = .ok (.aload_n 0, 1) := by decide +kernel
theorem dX8_init_1 : decode cX8_init 1 = .ok (.invokespecial 3, 3) := by decide +kernel
theorem dX8_init_4 : decode cX8_init 4 = .ok (.aload_n 0, 1) := by decide +kernel
theorem dX8_init_5 : decode cX8_init 5 = .ok (.bipush 8, 2) := by decide +kernel
theorem dX8_init_7 : decode cX8_init 7 = .ok (.newarray .int, 2) := by decide +kernel
theorem dX8_init_9 : decode cX8_init 9 = .ok (.putfield 9, 3) := by decide +kernel
theorem dX8_init_12 : decode cX8_init 12 = .ok (.aload_n 0, 1) := by decide +kernel
theorem dX8_init_13 : decode cX8_init 13 = .ok (.bipush 8, 2) := by decide +kernel
theorem dX8_init_15 : decode cX8_init 15 = .ok (.newarray .int, 2) := by decide +kernel
theorem dX8_init_17 : decode cX8_init 17 = .ok (.putfield 15, 3) := by decide +kernel
theorem dX8_init_20 : decode cX8_init 20 = .ok (.aload_n 0, 1) := by decide +kernel
theorem dX8_init_21 : decode cX8_init 21 = .ok (.iconst 0, 1) := by decide +kernel
theorem dX8_init_22 : decode cX8_init 22 = .ok (.putfield 18, 3) := by decide +kernel
theorem dX8_init_25 : decode cX8_init 25 = .ok (.return_, 1) := by decide +kernel
theorem dX8_prepare_0 : decode cX8_prepare 0 = .ok (.iconst 0, 1) := by decide +kernel
theorem dX8_prepare_1 : decode cX8_prepare 1 = .ok (.istore_n 3, 1) := by decide +kernel
theorem dX8_prepare_2 : decode cX8_prepare 2 = .ok (.iload_n 3, 1) := by decide +kernel
theorem dX8_prepare_3 : decode cX8_prepare 3 = .ok (.aload_n 0, 1) := by decide +kernel
theorem dX8_prepare_4 : decode cX8_prepare 4 = .ok (.getfield 18, 3) := by decide +kernel
theorem dX8_prepare_7 : decode cX8_prepare 7 = .ok (.if_icmp .ge 55, 3) := by decide +kernel
theorem dX8_prepare_10 : decode cX8_prepare 10 = .ok (.aload_n 0, 1) := by decide +kernel
theorem dX8_prepare_11 : decode cX8_prepare 11 = .ok (.getfield 9, 3) := by decide +kernel
theorem dX8_prepare_14 : decode cX8_prepare 14 = .ok (.iload_n 3, 1) := by decide +kernel
theorem dX8_prepare_15 : decode cX8_prepare 15 = .ok (.iaload, 1) := by decide +kernel
theorem dX8_prepare_16 : decode cX8_prepare 16 = .ok (.iload_n 2, 1) := by decide +kernel
theorem dX8_prepare_17 : decode cX8_prepare 17 = .ok (.if_icmp .gt 15, 3) := by decide +kernel
theorem dX8_prepare_20 : decode cX8_prepare 20 = .ok (.iload_n 1, 1) := by decide +kernel
theorem dX8_prepare_21 : decode cX8_prepare 21 = .ok (.iconst 1, 1) := by decide +kernel
theorem dX8_prepare_22 : decode cX8_prepare 22 = .ok (.iload_n 3, 1) := by decide +kernel
theorem dX8_prepare_23 : decode cX8_prepare 23 = .ok (.ishl, 1) := by decide +kernel
theorem dX8_prepare_24 : decode cX8_prepare 24 = .ok (.iand, 1) := by decide +kernel
theorem dX8_prepare_25 : decode cX8_prepare 25 = .ok (.ifCond .ne 7, 3) := by decide +kernel
theorem dX8_prepare_28 : decode cX8_prepare 28 = .ok (.iconst 1, 1) := by decide +kernel
theorem dX8_prepare_29 : decode cX8_prepare 29 = .ok (.goto 4, 3) := by decide +kernel
theorem dX8_prepare_32 : decode cX8_prepare 32 = .ok (.iconst 0, 1) := by decide +kernel
theorem dX8_prepare_33 : decode cX8_prepare 33 = .ok (.istore 4, 2) := by decide +kernel
theorem dX8_prepare_35 : decode cX8_prepare 35 = .ok (.aload_n 0, 1) := by decide +kernel
theorem dX8_prepare_36 : decode cX8_prepare 36 = .ok (.getfield 15, 3) := by decide +kernel
theorem dX8_prepare_39 : decode cX8_prepare 39 = .ok (.iload_n 3, 1) := by decide +kernel
theorem dX8_prepare_40 : decode cX8_prepare 40 = .ok (.iload 4, 2) := by decide +kernel
theorem dX8_prepare_42 : decode cX8_prepare 42 = .ok (.ifCond .eq 12, 3) := by decide +kernel
theorem dX8_prepare_45 : decode cX8_prepare 45 = .ok (.aload_n 0, 1) := by decide +kernel
theorem dX8_prepare_46 : decode cX8_prepare 46 = .ok (.getfield 9, 3) := by decide +kernel
theorem dX8_prepare_49 : decode cX8_prepare 49 = .ok (.iload_n 3, 1) := by decide +kernel
theorem dX8_prepare_50 : decode cX8_prepare 50 = .ok (.iaload, 1) := by decide +kernel
theorem dX8_prepare_51 : decode cX8_prepare 51 = .ok (.goto 4, 3) := by decide +kernel
theorem dX8_prepare_54 : decode cX8_prepare 54 = .ok (.iconst 0, 1) := by decide +kernel
theorem dX8_prepare_55 : decode cX8_prepare 55 = .ok (.iastore, 1) := by decide +kernel
theorem dX8_prepare_56 : decode cX8_prepare 56 = .ok (.iinc 3 1, 3) := by decide +kernel
theorem dX8_prepare_59 : decode cX8_prepare 59 = .ok (.goto (-57), 3) := by decide +kernel
theorem dX8_prepare_62 : decode cX8_prepare 62 = .ok (.return_, 1) := by decide +kernel
theorem dX8_typedBits_0 : decode cX8_typedBits 0 = .ok (.iconst 0, 1) := by decide +kernel
theorem dX8_typedBits_1 : decode cX8_typedBits 1 = .ok (.istore_n 1, 1) := by decide +kernel
theorem dX8_typedBits_2 : decode cX8_typedBits 2 = .ok (.iconst 0, 1) := by decide +kernel
theorem dX8_typedBits_3 : decode cX8_typedBits 3 = .ok (.istore_n 2, 1) := by decide +kernel
theorem dX8_typedBits_4 : decode cX8_typedBits 4 = .ok (.iload_n 2, 1) := by decide +kernel
theorem dX8_typedBits_5 : decode cX8_typedBits 5 = .ok (.aload_n 0, 1) := by decide +kernel
theorem dX8_typedBits_6 : decode cX8_typedBits 6 = .ok (.getfield 18, 3) := by decide +kernel
theorem dX8_typedBits_9 : decode cX8_typedBits 9 = .ok (.if_icmp .ge 28, 3) := by decide +kernel
theorem dX8_typedBits_12 : decode cX8_typedBits 12 = .ok (.iload_n 1, 1) := by decide +kernel
theorem dX8_typedBits_13 : decode cX8_typedBits 13 = .ok (.aload_n 0, 1) := by decide +kernel
theorem dX8_typedBits_14 : decode cX8_typedBits 14 = .ok (.getfield 9, 3) := by decide +kernel
theorem dX8_typedBits_17 : decode cX8_typedBits 17 = .ok (.iload_n 2, 1) := by decide +kernel
theorem dX8_typedBits_18 : decode cX8_typedBits 18 = .ok (.iaload, 1) := by decide +kernel
theorem dX8_typedBits_19 : decode cX8_typedBits 19 = .ok (.ifCond .ne 7, 3) := by decide +kernel
theorem dX8_typedBits_22 : decode cX8_typedBits 22 = .ok (.iconst 0, 1) := by decide +kernel
theorem dX8_typedBits_23 : decode cX8_typedBits 23 = .ok (.goto 6, 3) := by decide +kernel
theorem dX8_typedBits_26 : decode cX8_typedBits 26 = .ok (.iconst 1, 1) := by decide +kernel
theorem dX8_typedBits_27 : decode cX8_typedBits 27 = .ok (.iload_n 2, 1) := by decide +kernel
theorem dX8_typedBits_28 : decode cX8_typedBits 28 = .ok (.ishl, 1) := by decide +kernel
theorem dX8_typedBits_29 : decode cX8_typedBits 29 = .ok (.ior, 1) := by decide +kernel
theorem dX8_typedBits_30 : decode cX8_typedBits 30 = .ok (.istore_n 1, 1) := by decide +kernel
theorem dX8_typedBits_31 : decode cX8_typedBits 31 = .ok (.iinc 2 1, 3) := by decide +kernel
theorem dX8_typedBits_34 : decode cX8_typedBits 34 = .ok (.goto (-30), 3) := by decide +kernel
theorem dX8_typedBits_37 : decode cX8_typedBits 37 = .ok (.iload_n 1, 1) := by decide +kernel
theorem dX8_typedBits_38 : decode cX8_typedBits 38 = .ok (.ireturn, 1) := by decide +kernel
theorem dX9_init_0 : decode cX9_init 0 = .ok (.aload_n 0, 1) := by decide +kernel
theorem dX9_init_1 : decode cX9_init 1 = .ok (.invokespecial 3, 3) := by decide +kernel
theorem dX9_init_4 : decode cX9_init 4 = .ok (.aload_n 0, 1) := by decide +kernel
theorem dX9_init_5 : decode cX9_init 5 = .ok (.new 9, 3) := by decide +kernel
theorem dX9_init_8 : decode cX9_init 8 = .ok (.dup, 1) := by decide +kernel
theorem dX9_init_9 : decode cX9_init 9 = .ok (.invokespecial 11, 3) := by decide +kernel
theorem dX9_init_12 : decode cX9_init 12 = .ok (.putfield 12, 3) := by decide +kernel
theorem dX9_init_15 : decode cX9_init 15 = .ok (.aload_n 0, 1) := by decide +kernel
theorem dX9_init_16 : decode cX9_init 16 = .ok (.new 18, 3) := by decide +kernel
theorem dX9_init_19 : decode cX9_init 19 = .ok (.dup, 1) := by decide +kernel
theorem dX9_init_20 : decode cX9_init 20 = .ok (.invokespecial 20, 3) := by decide +kernel
theorem dX9_init_23 : decode cX9_init 23 = .ok (.putfield 21, 3) := by decide +kernel
theorem dX9_init_26 : decode cX9_init 26 = .ok (.aload_n 0, 1) := by decide +kernel
theorem dX9_init_27 : decode cX9_init 27 = .ok (.sipush 4000, 3) := by decide +kernel
theorem dX9_init_30 : decode cX9_init 30 = .ok (.newarray .long, 2) := by decide +kernel
theorem dX9_init_32 : decode cX9_init 32 = .ok (.putfield 25, 3) := by decide +kernel
theorem dX9_init_35 : decode cX9_init 35 = .ok (.aload_n 0, 1) := by decide +kernel
theorem dX9_init_36 : decode cX9_init 36 = .ok (.sipush 4000, 3) := by decide +kernel
theorem dX9_init_39 : decode cX9_init 39 = .ok (.newarray .long, 2) := by decide +kernel
theorem dX9_init_41 : decode cX9_init 41 = .ok (.putfield 29, 3) := by decide +kernel
theorem dX9_init_44 : decode cX9_init 44 = .ok (.aload_n 0, 1) := by decide +kernel
theorem dX9_init_45 : decode cX9_init 45 = .ok (.sipush 4000, 3) := by decide +kernel
theorem dX9_init_48 : decode cX9_init 48 = .ok (.newarray .int, 2) := by decide +kernel
theorem dX9_init_50 : decode cX9_init 50 = .ok (.putfield 32, 3) := by decide +kernel
theorem dX9_init_53 : decode cX9_init 53 = .ok (.aload_n 0, 1) := by decide +kernel
theorem dX9_init_54 : decode cX9_init 54 = .ok (.sipush 4000, 3) := by decide +kernel
theorem dX9_init_57 : decode cX9_init 57 = .ok (.newarray .int, 2) := by decide +kernel
theorem dX9_init_59 : decode cX9_init 59 = .ok (.putfield 36, 3) := by decide +kernel
theorem dX9_init_62 : decode cX9_init 62 = .ok (.aload_n 0, 1) := by decide +kernel
theorem dX9_init_63 : decode cX9_init 63 = .ok (.sipush 8192, 3) := by decide +kernel
theorem dX9_init_66 : decode cX9_init 66 = .ok (.newarray .int, 2) := by decide +kernel
theorem dX9_init_68 : decode cX9_init 68 = .ok (.putfield 39, 3) := by decide +kernel
theorem dX9_init_71 : decode cX9_init 71 = .ok (.aload_n 0, 1) := by decide +kernel
theorem dX9_init_72 : decode cX9_init 72 = .ok (.ldc 42, 2) := by decide +kernel
theorem dX9_init_74 : decode cX9_init 74 = .ok (.newarray .int, 2) := by decide +kernel
theorem dX9_init_76 : decode cX9_init 76 = .ok (.putfield 43, 3) := by decide +kernel
theorem dX9_init_79 : decode cX9_init 79 = .ok (.aload_n 0, 1) := by decide +kernel
theorem dX9_init_80 : decode cX9_init 80 = .ok (.sipush 4000, 3) := by decide +kernel
theorem dX9_init_83 : decode cX9_init 83 = .ok (.newarray .long, 2) := by decide +kernel
theorem dX9_init_85 : decode cX9_init 85 = .ok (.putfield 46, 3) := by decide +kernel
theorem dX9_init_88 : decode cX9_init 88 = .ok (.aload_n 0, 1) := by decide +kernel
theorem dX9_init_89 : decode cX9_init 89 = .ok (.sipush 4000, 3) := by decide +kernel
theorem dX9_init_92 : decode cX9_init 92 = .ok (.newarray .long, 2) := by decide +kernel
theorem dX9_init_94 : decode cX9_init 94 = .ok (.putfield 49, 3) := by decide +kernel
theorem dX9_init_97 : decode cX9_init 97 = .ok (.aload_n 0, 1) := by decide +kernel
theorem dX9_init_98 : decode cX9_init 98 = .ok (.iconst 0, 1) := by decide +kernel
theorem dX9_init_99 : decode cX9_init 99 = .ok (.putfield 52, 3) := by decide +kernel
theorem dX9_init_102 : decode cX9_init 102 = .ok (.aload_n 0, 1) := by decide +kernel
theorem dX9_init_103 : decode cX9_init 103 = .ok (.iconst 0, 1) := by decide +kernel
theorem dX9_init_104 : decode cX9_init 104 = .ok (.putfield 56, 3) := by decide +kernel
theorem dX9_init_107 : decode cX9_init 107 = .ok (.aload_n 0, 1) := by decide +kernel
theorem dX9_init_108 : decode cX9_init 108 = .ok (.iconst 0, 1) := by decide +kernel
theorem dX9_init_109 : decode cX9_init 109 = .ok (.putfield 59, 3) := by decide +kernel
theorem dX9_init_112 : decode cX9_init 112 = .ok (.aload_n 0, 1) := by decide +kernel
theorem dX9_init_113 : decode cX9_init 113 = .ok (.iconst 0, 1) := by decide +kernel
theorem dX9_init_114 : decode cX9_init 114 = .ok (.putfield 62, 3) := by decide +kernel
theorem dX9_init_117 : decode cX9_init 117 = .ok (.aload_n 0, 1) := by decide +kernel
theorem dX9_init_118 : decode cX9_init 118 = .ok (.iconst (-1), 1) := by decide +kernel
theorem dX9_init_119 : decode cX9_init 119 = .ok (.putfield 65, 3) := by decide +kernel
theorem dX9_init_122 : decode cX9_init 122 = .ok (.aload_n 0, 1) := by decide +kernel
theorem dX9_init_123 : decode cX9_init 123 = .ok (.iconst (-1), 1) := by decide +kernel
theorem dX9_init_124 : decode cX9_init 124 = .ok (.putfield 68, 3) := by decide +kernel
theorem dX9_init_127 : decode cX9_init 127 = .ok (.aload_n 0, 1) := by decide +kernel
theorem dX9_init_128 : decode cX9_init 128 = .ok (.iconst (-1), 1) := by decide +kernel
theorem dX9_init_129 : decode cX9_init 129 = .ok (.putfield 71, 3) := by decide +kernel
theorem dX9_init_132 : decode cX9_init 132 = .ok (.aload_n 0, 1) := by decide +kernel
theorem dX9_init_133 : decode cX9_init 133 = .ok (.iconst (-1), 1) := by decide +kernel
theorem dX9_init_134 : decode cX9_init 134 = .ok (.putfield 74, 3) := by decide +kernel
theorem dX9_init_137 : decode cX9_init 137 = .ok (.aload_n 0, 1) := by decide +kernel
theorem dX9_init_138 : decode cX9_init 138 = .ok (.lconst 0, 1) := by decide +kernel
theorem dX9_init_139 : decode cX9_init 139 = .ok (.putfield 77, 3) := by decide +kernel
theorem dX9_init_142 : decode cX9_init 142 = .ok (.return_, 1) := by decide +kernel
theorem dX9_explore_0 : decode cX9_explore 0 = .ok (.aload_n 0, 1) := by decide +kernel
theorem dX9_explore_1 : decode cX9_explore 1 = .ok (.iload 4, 2) := by decide +kernel
theorem dX9_explore_3 : decode cX9_explore 3 = .ok (.putfield 59, 3) := by decide +kernel
theorem dX9_explore_6 : decode cX9_explore 6 = .ok (.aload_n 0, 1) := by decide +kernel
theorem dX9_explore_7 : decode cX9_explore 7 = .ok (.iload 5, 2) := by decide +kernel
theorem dX9_explore_9 : decode cX9_explore 9 = .ok (.putfield 62, 3) := by decide +kernel
theorem dX9_explore_12 : decode cX9_explore 12 = .ok (.aload_n 0, 1) := by decide +kernel
theorem dX9_explore_13 : decode cX9_explore 13 = .ok (.aload_n 1, 1) := by decide +kernel
theorem dX9_explore_14 : decode cX9_explore 14 = .ok (.iload_n 3, 1) := by decide +kernel
theorem dX9_explore_15 : decode cX9_explore 15 = .ok (.invokevirtual 81, 3) := by decide +kernel
theorem dX9_explore_18 : decode cX9_explore 18 = .ok (.iconst 0, 1) := by decide +kernel
theorem dX9_explore_19 : decode cX9_explore 19 = .ok (.istore 6, 2) := by decide +kernel
theorem dX9_explore_21 : decode cX9_explore 21 = .ok (.iconst 0, 1) := by decide +kernel
theorem dX9_explore_22 : decode cX9_explore 22 = .ok (.istore 7, 2) := by decide +kernel
theorem dX9_explore_24 : decode cX9_explore 24 = .ok (.iload 7, 2) := by decide +kernel
theorem dX9_explore_26 : decode cX9_explore 26 = .ok (.iload_n 2, 1) := by decide +kernel
theorem dX9_explore_27 : decode cX9_explore 27 = .ok (.if_icmp .ge 47, 3) := by decide +kernel
theorem dX9_explore_30 : decode cX9_explore 30 = .ok (.aload_n 0, 1) := by decide +kernel
theorem dX9_explore_31 : decode cX9_explore 31 = .ok (.getfield 52, 3) := by decide +kernel
theorem dX9_explore_34 : decode cX9_explore 34 = .ok (.istore 8, 2) := by decide +kernel
theorem dX9_explore_36 : decode cX9_explore 36 = .ok (.iload 6, 2) := by decide +kernel
theorem dX9_explore_38 : decode cX9_explore 38 = .ok (.istore 9, 2) := by decide +kernel
theorem dX9_explore_40 : decode cX9_explore 40 = .ok (.iload 9, 2) := by decide +kernel
theorem dX9_explore_42 : decode cX9_explore 42 = .ok (.iload 8, 2) := by decide +kernel
theorem dX9_explore_44 : decode cX9_explore 44 = .ok (.if_icmp .ge 20, 3) := by decide +kernel
theorem dX9_explore_47 : decode cX9_explore 47 = .ok (.aload_n 0, 1) := by decide +kernel
theorem dX9_explore_48 : decode cX9_explore 48 = .ok (.iload 9, 2) := by decide +kernel
theorem dX9_explore_50 : decode cX9_explore 50 = .ok (.invokevirtual 85, 3) := by decide +kernel
theorem dX9_explore_53 : decode cX9_explore 53 = .ok (.ifCond .ne 5, 3) := by decide +kernel
theorem dX9_explore_56 : decode cX9_explore 56 = .ok (.iconst 0, 1) := by decide +kernel
theorem dX9_explore_57 : decode cX9_explore 57 = .ok (.ireturn, 1) := by decide +kernel
theorem dX9_explore_58 : decode cX9_explore 58 = .ok (.iinc 9 1, 3) := by decide +kernel
theorem dX9_explore_61 : decode cX9_explore 61 = .ok (.goto (-21), 3) := by decide +kernel
theorem dX9_explore_64 : decode cX9_explore 64 = .ok (.iload 8, 2) := by decide +kernel
theorem dX9_explore_66 : decode cX9_explore 66 = .ok (.istore 6, 2) := by decide +kernel
theorem dX9_explore_68 : decode cX9_explore 68 = .ok (.iinc 7 1, 3) := by decide +kernel
theorem dX9_explore_71 : decode cX9_explore 71 = .ok (.goto (-47), 3) := by decide +kernel
theorem dX9_explore_74 : decode cX9_explore 74 = .ok (.iconst 1, 1) := by decide +kernel
theorem dX9_explore_75 : decode cX9_explore 75 = .ok (.ireturn, 1) := by decide +kernel
theorem dX9_begin_0 : decode cX9_begin 0 = .ok (.iconst 0, 1) := by decide +kernel
theorem dX9_begin_1 : decode cX9_begin 1 = .ok (.istore_n 3, 1) := by decide +kernel
theorem dX9_begin_2 : decode cX9_begin 2 = .ok (.iload_n 3, 1) := by decide +kernel
theorem dX9_begin_3 : decode cX9_begin 3 = .ok (.aload_n 0, 1) := by decide +kernel
theorem dX9_begin_4 : decode cX9_begin 4 = .ok (.getfield 52, 3) := by decide +kernel
theorem dX9_begin_7 : decode cX9_begin 7 = .ok (.if_icmp .ge 21, 3) := by decide +kernel
theorem dX9_begin_10 : decode cX9_begin 10 = .ok (.aload_n 0, 1) := by decide +kernel
theorem dX9_begin_11 : decode cX9_begin 11 = .ok (.getfield 39, 3) := by decide +kernel
theorem dX9_begin_14 : decode cX9_begin 14 = .ok (.aload_n 0, 1) := by decide +kernel
theorem dX9_begin_15 : decode cX9_begin 15 = .ok (.getfield 36, 3) := by decide +kernel
theorem dX9_begin_18 : decode cX9_begin 18 = .ok (.iload_n 3, 1) := by decide +kernel
theorem dX9_begin_19 : decode cX9_begin 19 = .ok (.iaload, 1) := by decide +kernel
theorem dX9_begin_20 : decode cX9_begin 20 = .ok (.iconst 0, 1) := by decide +kernel
theorem dX9_begin_21 : decode cX9_begin 21 = .ok (.iastore, 1) := by decide +kernel
theorem dX9_begin_22 : decode cX9_begin 22 = .ok (.iinc 3 1, 3) := by decide +kernel
theorem dX9_begin_25 : decode cX9_begin 25 = .ok (.goto (-23), 3) := by decide +kernel
theorem dX9_begin_28 : decode cX9_begin 28 = .ok (.aload_n 0, 1) := by decide +kernel
theorem dX9_begin_29 : decode cX9_begin 29 = .ok (.iconst 0, 1) := by decide +kernel
theorem dX9_begin_30 : decode cX9_begin 30 = .ok (.putfield 52, 3) := by decide +kernel
theorem dX9_begin_33 : decode cX9_begin 33 = .ok (.aload_n 0, 1) := by decide +kernel
theorem dX9_begin_34 : decode cX9_begin 34 = .ok (.iload_n 2, 1) := by decide +kernel
theorem dX9_begin_35 : decode cX9_begin 35 = .ok (.sipush 4000, 3) := by decide +kernel
theorem dX9_begin_38 : decode cX9_begin 38 = .ok (.invokestatic 89, 3) := by decide +kernel
theorem dX9_begin_41 : decode cX9_begin 41 = .ok (.putfield 56, 3) := by decide +kernel
theorem dX9_begin_44 : decode cX9_begin 44 = .ok (.aload_n 0, 1) := by decide +kernel
theorem dX9_begin_45 : decode cX9_begin 45 = .ok (.iconst (-1), 1) := by decide +kernel
theorem dX9_begin_46 : decode cX9_begin 46 = .ok (.putfield 65, 3) := by decide +kernel
theorem dX9_begin_49 : decode cX9_begin 49 = .ok (.aload_n 0, 1) := by decide +kernel
theorem dX9_begin_50 : decode cX9_begin 50 = .ok (.iconst (-1), 1) := by decide +kernel
theorem dX9_begin_51 : decode cX9_begin 51 = .ok (.putfield 68, 3) := by decide +kernel
theorem dX9_begin_54 : decode cX9_begin 54 = .ok (.aload_n 0, 1) := by decide +kernel
theorem dX9_begin_55 : decode cX9_begin 55 = .ok (.iconst (-1), 1) := by decide +kernel
theorem dX9_begin_56 : decode cX9_begin 56 = .ok (.putfield 71, 3) := by decide +kernel
theorem dX9_begin_59 : decode cX9_begin 59 = .ok (.aload_n 0, 1) := by decide +kernel
theorem dX9_begin_60 : decode cX9_begin 60 = .ok (.iconst (-1), 1) := by decide +kernel
theorem dX9_begin_61 : decode cX9_begin 61 = .ok (.putfield 74, 3) := by decide +kernel
theorem dX9_begin_64 : decode cX9_begin 64 = .ok (.aload_n 0, 1) := by decide +kernel
theorem dX9_begin_65 : decode cX9_begin 65 = .ok (.lconst 0, 1) := by decide +kernel
theorem dX9_begin_66 : decode cX9_begin 66 = .ok (.putfield 77, 3) := by decide +kernel
theorem dX9_begin_69 : decode cX9_begin 69 = .ok (.aload_n 0, 1) := by decide +kernel
theorem dX9_begin_70 : decode cX9_begin 70 = .ok (.getfield 21, 3) := by decide +kernel
theorem dX9_begin_73 : decode cX9_begin 73 = .ok (.aload_n 1, 1) := by decide +kernel
theorem dX9_begin_74 : decode cX9_begin 74 = .ok (.invokevirtual 95, 3) := by decide +kernel
theorem dX9_begin_77 : decode cX9_begin 77 = .ok (.aload_n 0, 1) := by decide +kernel
theorem dX9_begin_78 : decode cX9_begin 78 = .ok (.iconst 0, 1) := by decide +kernel
theorem dX9_begin_79 : decode cX9_begin 79 = .ok (.iconst (-1), 1) := by decide +kernel
theorem dX9_begin_80 : decode cX9_begin 80 = .ok (.invokevirtual 99, 3) := by decide +kernel
theorem dX9_begin_83 : decode cX9_begin 83 = .ok (.pop, 1) := by decide +kernel
theorem dX9_begin_84 : decode cX9_begin 84 = .ok (.return_, 1) := by decide +kernel
theorem dX9_expand_0 : decode cX9_expand 0 = .ok (.iconst 0, 1) := by decide +kernel
theorem dX9_expand_1 : decode cX9_expand 1 = .ok (.istore_n 2, 1) := by decide +kernel
theorem dX9_expand_2 : decode cX9_expand 2 = .ok (.iload_n 1, 1) := by decide +kernel
theorem dX9_expand_3 : decode cX9_expand 3 = .ok (.aload_n 0, 1) := by decide +kernel
theorem dX9_expand_4 : decode cX9_expand 4 = .ok (.getfield 12, 3) := by decide +kernel
theorem dX9_expand_7 : decode cX9_expand 7 = .ok (.getfield 102, 3) := by decide +kernel
theorem dX9_expand_10 : decode cX9_expand 10 = .ok (.imul, 1) := by decide +kernel
theorem dX9_expand_11 : decode cX9_expand 11 = .ok (.aload_n 0, 1) := by decide +kernel
theorem dX9_expand_12 : decode cX9_expand 12 = .ok (.getfield 12, 3) := by decide +kernel
theorem dX9_expand_15 : decode cX9_expand 15 = .ok (.getfield 105, 3) := by decide +kernel
theorem dX9_expand_18 : decode cX9_expand 18 = .ok (.iconst 1, 1) := by decide +kernel
theorem dX9_expand_19 : decode cX9_expand 19 = .ok (.iadd, 1) := by decide +kernel
theorem dX9_expand_20 : decode cX9_expand 20 = .ok (.imul, 1) := by decide +kernel
theorem dX9_expand_21 : decode cX9_expand 21 = .ok (.istore_n 3, 1) := by decide +kernel
theorem dX9_expand_22 : decode cX9_expand 22 = .ok (.iconst 1, 1) := by decide +kernel
theorem dX9_expand_23 : decode cX9_expand 23 = .ok (.istore 4, 2) := by decide +kernel
theorem dX9_expand_25 : decode cX9_expand 25 = .ok (.iconst 0, 1) := by decide +kernel
theorem dX9_expand_26 : decode cX9_expand 26 = .ok (.istore 5, 2) := by decide +kernel
theorem dX9_expand_28 : decode cX9_expand 28 = .ok (.iload 5, 2) := by decide +kernel
theorem dX9_expand_30 : decode cX9_expand 30 = .ok (.aload_n 0, 1) := by decide +kernel
theorem dX9_expand_31 : decode cX9_expand 31 = .ok (.getfield 12, 3) := by decide +kernel
theorem dX9_expand_34 : decode cX9_expand 34 = .ok (.getfield 102, 3) := by decide +kernel
theorem dX9_expand_37 : decode cX9_expand 37 = .ok (.if_icmp .ge 177, 3) := by decide +kernel
theorem dX9_expand_40 : decode cX9_expand 40 = .ok (.iconst 0, 1) := by decide +kernel
theorem dX9_expand_41 : decode cX9_expand 41 = .ok (.istore 6, 2) := by decide +kernel
theorem dX9_expand_43 : decode cX9_expand 43 = .ok (.iload 6, 2) := by decide +kernel
theorem dX9_expand_45 : decode cX9_expand 45 = .ok (.aload_n 0, 1) := by decide +kernel
theorem dX9_expand_46 : decode cX9_expand 46 = .ok (.getfield 12, 3) := by decide +kernel
theorem dX9_expand_49 : decode cX9_expand 49 = .ok (.getfield 105, 3) := by decide +kernel
theorem dX9_expand_52 : decode cX9_expand 52 = .ok (.if_icmp .gt 156, 3) := by decide +kernel
theorem dX9_expand_55 : decode cX9_expand 55 = .ok (.aload_n 0, 1) := by decide +kernel
theorem dX9_expand_56 : decode cX9_expand 56 = .ok (.getfield 21, 3) := by decide +kernel
theorem dX9_expand_59 : decode cX9_expand 59 = .ok (.aload_n 0, 1) := by decide +kernel
theorem dX9_expand_60 : decode cX9_expand 60 = .ok (.getfield 25, 3) := by decide +kernel
theorem dX9_expand_63 : decode cX9_expand 63 = .ok (.iload_n 1, 1) := by decide +kernel
theorem dX9_expand_64 : decode cX9_expand 64 = .ok (.laload, 1) := by decide +kernel
theorem dX9_expand_65 : decode cX9_expand 65 = .ok (.putfield 108, 3) := by decide +kernel
theorem dX9_expand_68 : decode cX9_expand 68 = .ok (.aload_n 0, 1) := by decide +kernel
theorem dX9_expand_69 : decode cX9_expand 69 = .ok (.getfield 21, 3) := by decide +kernel
theorem dX9_expand_72 : decode cX9_expand 72 = .ok (.aload_n 0, 1) := by decide +kernel
theorem dX9_expand_73 : decode cX9_expand 73 = .ok (.getfield 29, 3) := by decide +kernel
theorem dX9_expand_76 : decode cX9_expand 76 = .ok (.iload_n 1, 1) := by decide +kernel
theorem dX9_expand_77 : decode cX9_expand 77 = .ok (.laload, 1) := by decide +kernel
theorem dX9_expand_78 : decode cX9_expand 78 = .ok (.putfield 110, 3) := by decide +kernel
theorem dX9_expand_81 : decode cX9_expand 81 = .ok (.aload_n 0, 1) := by decide +kernel
theorem dX9_expand_82 : decode cX9_expand 82 = .ok (.getfield 12, 3) := by decide +kernel
theorem dX9_expand_85 : decode cX9_expand 85 = .ok (.aload_n 0, 1) := by decide +kernel
theorem dX9_expand_86 : decode cX9_expand 86 = .ok (.getfield 21, 3) := by decide +kernel
theorem dX9_expand_89 : decode cX9_expand 89 = .ok (.iload 5, 2) := by decide +kernel
theorem dX9_expand_91 : decode cX9_expand 91 = .ok (.iload 6, 2) := by decide +kernel
theorem dX9_expand_93 : decode cX9_expand 93 = .ok (.invokevirtual 113, 3) := by decide +kernel
theorem dX9_expand_96 : decode cX9_expand 96 = .ok (.iload_n 1, 1) := by decide +kernel
theorem dX9_expand_97 : decode cX9_expand 97 = .ok (.iconst 5, 1) := by decide +kernel
theorem dX9_expand_98 : decode cX9_expand 98 = .ok (.ishl, 1) := by decide +kernel
theorem dX9_expand_99 : decode cX9_expand 99 = .ok (.iload_n 2, 1) := by decide +kernel
theorem dX9_expand_100 : decode cX9_expand 100 = .ok (.ior, 1) := by decide +kernel
theorem dX9_expand_101 : decode cX9_expand 101 = .ok (.istore 7, 2) := by decide +kernel
theorem dX9_expand_103 : decode cX9_expand 103 = .ok (.aload_n 0, 1) := by decide +kernel
theorem dX9_expand_104 : decode cX9_expand 104 = .ok (.iconst 0, 1) := by decide +kernel
theorem dX9_expand_105 : decode cX9_expand 105 = .ok (.iload 7, 2) := by decide +kernel
theorem dX9_expand_107 : decode cX9_expand 107 = .ok (.invokevirtual 99, 3) := by decide +kernel
theorem dX9_expand_110 : decode cX9_expand 110 = .ok (.istore 8, 2) := by decide +kernel
theorem dX9_expand_112 : decode cX9_expand 112 = .ok (.iload 8, 2) := by decide +kernel
theorem dX9_expand_114 : decode cX9_expand 114 = .ok (.ifCond .ge 5, 3) := by decide +kernel
theorem dX9_expand_117 : decode cX9_expand 117 = .ok (.iconst 0, 1) := by decide +kernel
theorem dX9_expand_118 : decode cX9_expand 118 = .ok (.ireturn, 1) := by decide +kernel
theorem dX9_expand_119 : decode cX9_expand 119 = .ok (.aload_n 0, 1) := by decide +kernel
theorem dX9_expand_120 : decode cX9_expand 120 = .ok (.getfield 12, 3) := by decide +kernel
theorem dX9_expand_123 : decode cX9_expand 123 = .ok (.aload_n 0, 1) := by decide +kernel
theorem dX9_expand_124 : decode cX9_expand 124 = .ok (.getfield 21, 3) := by decide +kernel
theorem dX9_expand_127 : decode cX9_expand 127 = .ok (.invokevirtual 117, 3) := by decide +kernel
theorem dX9_expand_130 : decode cX9_expand 130 = .ok (.ifCond .eq 7, 3) := by decide +kernel
theorem dX9_expand_133 : decode cX9_expand 133 = .ok (.iconst 1, 1) := by decide +kernel
theorem dX9_expand_134 : decode cX9_expand 134 = .ok (.goto 4, 3) := by decide +kernel
theorem dX9_expand_137 : decode cX9_expand 137 = .ok (.iconst 0, 1) := by decide +kernel
theorem dX9_expand_138 : decode cX9_expand 138 = .ok (.istore 9, 2) := by decide +kernel
theorem dX9_expand_140 : decode cX9_expand 140 = .ok (.iload 9, 2) := by decide +kernel
theorem dX9_expand_142 : decode cX9_expand 142 = .ok (.aload_n 0, 1) := by decide +kernel
theorem dX9_expand_143 : decode cX9_expand 143 = .ok (.invokevirtual 121, 3) := by decide +kernel
theorem dX9_expand_146 : decode cX9_expand 146 = .ok (.ifCond .eq 7, 3) := by decide +kernel
theorem dX9_expand_149 : decode cX9_expand 149 = .ok (.iconst 2, 1) := by decide +kernel
theorem dX9_expand_150 : decode cX9_expand 150 = .ok (.goto 4, 3) := by decide +kernel
theorem dX9_expand_153 : decode cX9_expand 153 = .ok (.iconst 0, 1) := by decide +kernel
theorem dX9_expand_154 : decode cX9_expand 154 = .ok (.ior, 1) := by decide +kernel
theorem dX9_expand_155 : decode cX9_expand 155 = .ok (.istore 9, 2) := by decide +kernel
theorem dX9_expand_157 : decode cX9_expand 157 = .ok (.aload_n 0, 1) := by decide +kernel
theorem dX9_expand_158 : decode cX9_expand 158 = .ok (.iload 7, 2) := by decide +kernel
theorem dX9_expand_160 : decode cX9_expand 160 = .ok (.iload 9, 2) := by decide +kernel
theorem dX9_expand_162 : decode cX9_expand 162 = .ok (.invokevirtual 125, 3) := by decide +kernel
theorem dX9_expand_165 : decode cX9_expand 165 = .ok (.aload_n 0, 1) := by decide +kernel
theorem dX9_expand_166 : decode cX9_expand 166 = .ok (.getfield 43, 3) := by decide +kernel
theorem dX9_expand_169 : decode cX9_expand 169 = .ok (.iload_n 3, 1) := by decide +kernel
theorem dX9_expand_170 : decode cX9_expand 170 = .ok (.iload 8, 2) := by decide +kernel
theorem dX9_expand_172 : decode cX9_expand 172 = .ok (.iconst 2, 1) := by decide +kernel
theorem dX9_expand_173 : decode cX9_expand 173 = .ok (.ishl, 1) := by decide +kernel
theorem dX9_expand_174 : decode cX9_expand 174 = .ok (.iload 9, 2) := by decide +kernel
theorem dX9_expand_176 : decode cX9_expand 176 = .ok (.ior, 1) := by decide +kernel
theorem dX9_expand_177 : decode cX9_expand 177 = .ok (.iastore, 1) := by decide +kernel
theorem dX9_expand_178 : decode cX9_expand 178 = .ok (.iload 4, 2) := by decide +kernel
theorem dX9_expand_180 : decode cX9_expand 180 = .ok (.ifCond .eq 13, 3) := by decide +kernel
theorem dX9_expand_183 : decode cX9_expand 183 = .ok (.iload 8, 2) := by decide +kernel
theorem dX9_expand_185 : decode cX9_expand 185 = .ok (.iload_n 1, 1) := by decide +kernel
theorem dX9_expand_186 : decode cX9_expand 186 = .ok (.if_icmp .ne 7, 3) := by decide +kernel
theorem dX9_expand_189 : decode cX9_expand 189 = .ok (.iconst 1, 1) := by decide +kernel
theorem dX9_expand_190 : decode cX9_expand 190 = .ok (.goto 4, 3) := by decide +kernel
theorem dX9_expand_193 : decode cX9_expand 193 = .ok (.iconst 0, 1) := by decide +kernel
theorem dX9_expand_194 : decode cX9_expand 194 = .ok (.istore 4, 2) := by decide +kernel
theorem dX9_expand_196 : decode cX9_expand 196 = .ok (.iinc 3 1, 3) := by decide +kernel
theorem dX9_expand_199 : decode cX9_expand 199 = .ok (.iinc 2 1, 3) := by decide +kernel
theorem dX9_expand_202 : decode cX9_expand 202 = .ok (.iinc 6 1, 3) := by decide +kernel
theorem dX9_expand_205 : decode cX9_expand 205 = .ok (.goto (-162), 3) := by decide +kernel
theorem dX9_expand_208 : decode cX9_expand 208 = .ok (.iinc 5 1, 3) := by decide +kernel
theorem dX9_expand_211 : decode cX9_expand 211 = .ok (.goto (-183), 3) := by decide +kernel
theorem dX9_expand_214 : decode cX9_expand 214 = .ok (.iload 4, 2) := by decide +kernel
theorem dX9_expand_216 : decode cX9_expand 216 = .ok (.ifCond .eq 15, 3) := by decide +kernel
theorem dX9_expand_219 : decode cX9_expand 219 = .ok (.aload_n 0, 1) := by decide +kernel
theorem dX9_expand_220 : decode cX9_expand 220 = .ok (.getfield 71, 3) := by decide +kernel
theorem dX9_expand_223 : decode cX9_expand 223 = .ok (.ifCond .ge 8, 3) := by decide +kernel
theorem dX9_expand_226 : decode cX9_expand 226 = .ok (.aload_n 0, 1) := by decide +kernel
theorem dX9_expand_227 : decode cX9_expand 227 = .ok (.iload_n 1, 1) := by decide +kernel
theorem dX9_expand_228 : decode cX9_expand 228 = .ok (.putfield 71, 3) := by decide +kernel
theorem dX9_expand_231 : decode cX9_expand 231 = .ok (.iconst 1, 1) := by decide +kernel
theorem dX9_expand_232 : decode cX9_expand 232 = .ok (.ireturn, 1) := by decide +kernel
theorem dX9_isSought_0 : decode cX9_isSought 0 = .ok (.aload_n 0, 1) := by decide +kernel
theorem dX9_isSought_1 : decode cX9_isSought 1 = .ok (.getfield 59, 3) := by decide +kernel
theorem dX9_isSought_4 : decode cX9_isSought 4 = .ok (.tableswitch 80 0 2 #[28, 30, 58], 28) := by decide +kernel
theorem dX9_isSought_32 : decode cX9_isSought 32 = .ok (.iconst 0, 1) := by decide +kernel
theorem dX9_isSought_33 : decode cX9_isSought 33 = .ok (.ireturn, 1) := by decide +kernel
theorem dX9_isSought_34 : decode cX9_isSought 34 = .ok (.aload_n 0, 1) := by decide +kernel
theorem dX9_isSought_35 : decode cX9_isSought 35 = .ok (.getfield 12, 3) := by decide +kernel
theorem dX9_isSought_38 : decode cX9_isSought 38 = .ok (.aload_n 0, 1) := by decide +kernel
theorem dX9_isSought_39 : decode cX9_isSought 39 = .ok (.getfield 12, 3) := by decide +kernel
theorem dX9_isSought_42 : decode cX9_isSought 42 = .ok (.getfield 129, 3) := by decide +kernel
theorem dX9_isSought_45 : decode cX9_isSought 45 = .ok (.iconst 0, 1) := by decide +kernel
theorem dX9_isSought_46 : decode cX9_isSought 46 = .ok (.aload_n 0, 1) := by decide +kernel
theorem dX9_isSought_47 : decode cX9_isSought 47 = .ok (.getfield 21, 3) := by decide +kernel
theorem dX9_isSought_50 : decode cX9_isSought 50 = .ok (.invokevirtual 133, 3) := by decide +kernel
theorem dX9_isSought_53 : decode cX9_isSought 53 = .ok (.ifCond .eq 7, 3) := by decide +kernel
theorem dX9_isSought_56 : decode cX9_isSought 56 = .ok (.iconst 1, 1) := by decide +kernel
theorem dX9_isSought_57 : decode cX9_isSought 57 = .ok (.goto 4, 3) := by decide +kernel
theorem dX9_isSought_60 : decode cX9_isSought 60 = .ok (.iconst 0, 1) := by decide +kernel
theorem dX9_isSought_61 : decode cX9_isSought 61 = .ok (.ireturn, 1) := by decide +kernel
theorem dX9_isSought_62 : decode cX9_isSought 62 = .ok (.aload_n 0, 1) := by decide +kernel
theorem dX9_isSought_63 : decode cX9_isSought 63 = .ok (.getfield 21, 3) := by decide +kernel
theorem dX9_isSought_66 : decode cX9_isSought 66 = .ok (.getfield 137, 3) := by decide +kernel
theorem dX9_isSought_69 : decode cX9_isSought 69 = .ok (.aload_n 0, 1) := by decide +kernel
theorem dX9_isSought_70 : decode cX9_isSought 70 = .ok (.getfield 62, 3) := by decide +kernel
theorem dX9_isSought_73 : decode cX9_isSought 73 = .ok (.iconst 1, 1) := by decide +kernel
theorem dX9_isSought_74 : decode cX9_isSought 74 = .ok (.iadd, 1) := by decide +kernel
theorem dX9_isSought_75 : decode cX9_isSought 75 = .ok (.if_icmp .ne 7, 3) := by decide +kernel
theorem dX9_isSought_78 : decode cX9_isSought 78 = .ok (.iconst 1, 1) := by decide +kernel
theorem dX9_isSought_79 : decode cX9_isSought 79 = .ok (.goto 4, 3) := by decide +kernel
theorem dX9_isSought_82 : decode cX9_isSought 82 = .ok (.iconst 0, 1) := by decide +kernel
theorem dX9_isSought_83 : decode cX9_isSought 83 = .ok (.ireturn, 1) := by decide +kernel
theorem dX9_isSought_84 : decode cX9_isSought 84 = .ok (.aload_n 0, 1) := by decide +kernel
theorem dX9_isSought_85 : decode cX9_isSought 85 = .ok (.getfield 21, 3) := by decide +kernel
theorem dX9_isSought_88 : decode cX9_isSought 88 = .ok (.iconst 1, 1) := by decide +kernel
theorem dX9_isSought_89 : decode cX9_isSought 89 = .ok (.putfield 140, 3) := by decide +kernel
theorem dX9_isSought_92 : decode cX9_isSought 92 = .ok (.aload_n 0, 1) := by decide +kernel
theorem dX9_isSought_93 : decode cX9_isSought 93 = .ok (.getfield 21, 3) := by decide +kernel
theorem dX9_isSought_96 : decode cX9_isSought 96 = .ok (.iconst 0, 1) := by decide +kernel
theorem dX9_isSought_97 : decode cX9_isSought 97 = .ok (.putfield 143, 3) := by decide +kernel
theorem dX9_isSought_100 : decode cX9_isSought 100 = .ok (.aload_n 0, 1) := by decide +kernel
theorem dX9_isSought_101 : decode cX9_isSought 101 = .ok (.getfield 21, 3) := by decide +kernel
theorem dX9_isSought_104 : decode cX9_isSought 104 = .ok (.getfield 146, 3) := by decide +kernel
theorem dX9_isSought_107 : decode cX9_isSought 107 = .ok (.iconst 1, 1) := by decide +kernel
theorem dX9_isSought_108 : decode cX9_isSought 108 = .ok (.aload_n 0, 1) := by decide +kernel
theorem dX9_isSought_109 : decode cX9_isSought 109 = .ok (.getfield 62, 3) := by decide +kernel
theorem dX9_isSought_112 : decode cX9_isSought 112 = .ok (.ishl, 1) := by decide +kernel
theorem dX9_isSought_113 : decode cX9_isSought 113 = .ok (.if_icmp .ne 21, 3) := by decide +kernel
theorem dX9_isSought_116 : decode cX9_isSought 116 = .ok (.aload_n 0, 1) := by decide +kernel
theorem dX9_isSought_117 : decode cX9_isSought 117 = .ok (.getfield 12, 3) := by decide +kernel
theorem dX9_isSought_120 : decode cX9_isSought 120 = .ok (.aload_n 0, 1) := by decide +kernel
theorem dX9_isSought_121 : decode cX9_isSought 121 = .ok (.getfield 21, 3) := by decide +kernel
theorem dX9_isSought_124 : decode cX9_isSought 124 = .ok (.invokevirtual 117, 3) := by decide +kernel
theorem dX9_isSought_127 : decode cX9_isSought 127 = .ok (.ifCond .eq 7, 3) := by decide +kernel
theorem dX9_isSought_130 : decode cX9_isSought 130 = .ok (.iconst 1, 1) := by decide +kernel
theorem dX9_isSought_131 : decode cX9_isSought 131 = .ok (.goto 4, 3) := by decide +kernel
theorem dX9_isSought_134 : decode cX9_isSought 134 = .ok (.iconst 0, 1) := by decide +kernel
theorem dX9_isSought_135 : decode cX9_isSought 135 = .ok (.ireturn, 1) := by decide +kernel
theorem dX9_noteFirst_0 : decode cX9_noteFirst 0 = .ok (.aload_n 0, 1) := by decide +kernel
theorem dX9_noteFirst_1 : decode cX9_noteFirst 1 = .ok (.getfield 65, 3) := by decide +kernel
theorem dX9_noteFirst_4 : decode cX9_noteFirst 4 = .ok (.ifCond .ge 14, 3) := by decide +kernel
theorem dX9_noteFirst_7 : decode cX9_noteFirst 7 = .ok (.iload_n 2, 1) := by decide +kernel
theorem dX9_noteFirst_8 : decode cX9_noteFirst 8 = .ok (.iconst 1, 1) := by decide +kernel
theorem dX9_noteFirst_9 : decode cX9_noteFirst 9 = .ok (.iand, 1) := by decide +kernel
theorem dX9_noteFirst_10 : decode cX9_noteFirst 10 = .ok (.ifCond .eq 8, 3) := by decide +kernel
theorem dX9_noteFirst_13 : decode cX9_noteFirst 13 = .ok (.aload_n 0, 1) := by decide +kernel
theorem dX9_noteFirst_14 : decode cX9_noteFirst 14 = .ok (.iload_n 1, 1) := by decide +kernel
theorem dX9_noteFirst_15 : decode cX9_noteFirst 15 = .ok (.putfield 65, 3) := by decide +kernel
theorem dX9_noteFirst_18 : decode cX9_noteFirst 18 = .ok (.aload_n 0, 1) := by decide +kernel
theorem dX9_noteFirst_19 : decode cX9_noteFirst 19 = .ok (.getfield 68, 3) := by decide +kernel
theorem dX9_noteFirst_22 : decode cX9_noteFirst 22 = .ok (.ifCond .ge 14, 3) := by decide +kernel
theorem dX9_noteFirst_25 : decode cX9_noteFirst 25 = .ok (.iload_n 2, 1) := by decide +kernel
theorem dX9_noteFirst_26 : decode cX9_noteFirst 26 = .ok (.iconst 2, 1) := by decide +kernel
theorem dX9_noteFirst_27 : decode cX9_noteFirst 27 = .ok (.iand, 1) := by decide +kernel
theorem dX9_noteFirst_28 : decode cX9_noteFirst 28 = .ok (.ifCond .eq 8, 3) := by decide +kernel
theorem dX9_noteFirst_31 : decode cX9_noteFirst 31 = .ok (.aload_n 0, 1) := by decide +kernel
theorem dX9_noteFirst_32 : decode cX9_noteFirst 32 = .ok (.iload_n 1, 1) := by decide +kernel
theorem dX9_noteFirst_33 : decode cX9_noteFirst 33 = .ok (.putfield 68, 3) := by decide +kernel
theorem dX9_noteFirst_36 : decode cX9_noteFirst 36 = .ok (.return_, 1) := by decide +kernel
theorem dX9_find_0 : decode cX9_find 0 = .ok (.aload_n 0, 1) := by decide +kernel
theorem dX9_find_1 : decode cX9_find 1 = .ok (.getfield 21, 3) := by decide +kernel
theorem dX9_find_4 : decode cX9_find 4 = .ok (.getfield 108, 3) := by decide +kernel
theorem dX9_find_7 : decode cX9_find 7 = .ok (.ldc2_w 149, 3) := by decide +kernel
theorem dX9_find_10 : decode cX9_find 10 = .ok (.lmul, 1) := by decide +kernel
theorem dX9_find_11 : decode cX9_find 11 = .ok (.aload_n 0, 1) := by decide +kernel
theorem dX9_find_12 : decode cX9_find 12 = .ok (.getfield 21, 3) := by decide +kernel
theorem dX9_find_15 : decode cX9_find 15 = .ok (.getfield 110, 3) := by decide +kernel
theorem dX9_find_18 : decode cX9_find 18 = .ok (.ldc2_w 151, 3) := by decide +kernel
theorem dX9_find_21 : decode cX9_find 21 = .ok (.lmul, 1) := by decide +kernel
theorem dX9_find_22 : decode cX9_find 22 = .ok (.lxor, 1) := by decide +kernel
theorem dX9_find_23 : decode cX9_find 23 = .ok (.lstore_n 3, 1) := by decide +kernel
theorem dX9_find_24 : decode cX9_find 24 = .ok (.lload_n 3, 1) := by decide +kernel
theorem dX9_find_25 : decode cX9_find 25 = .ok (.lload_n 3, 1) := by decide +kernel
theorem dX9_find_26 : decode cX9_find 26 = .ok (.bipush 29, 2) := by decide +kernel
theorem dX9_find_28 : decode cX9_find 28 = .ok (.lushr, 1) := by decide +kernel
theorem dX9_find_29 : decode cX9_find 29 = .ok (.lxor, 1) := by decide +kernel
theorem dX9_find_30 : decode cX9_find 30 = .ok (.bipush 17, 2) := by decide +kernel
theorem dX9_find_32 : decode cX9_find 32 = .ok (.lushr, 1) := by decide +kernel
theorem dX9_find_33 : decode cX9_find 33 = .ok (.l2i, 1) := by decide +kernel
theorem dX9_find_34 : decode cX9_find 34 = .ok (.sipush 8191, 3) := by decide +kernel
theorem dX9_find_37 : decode cX9_find 37 = .ok (.iand, 1) := by decide +kernel
theorem dX9_find_38 : decode cX9_find 38 = .ok (.istore 5, 2) := by decide +kernel
theorem dX9_find_40 : decode cX9_find 40 = .ok (.iconst 0, 1) := by decide +kernel
theorem dX9_find_41 : decode cX9_find 41 = .ok (.istore 6, 2) := by decide +kernel
theorem dX9_find_43 : decode cX9_find 43 = .ok (.iload 6, 2) := by decide +kernel
theorem dX9_find_45 : decode cX9_find 45 = .ok (.sipush 8192, 3) := by decide +kernel
theorem dX9_find_48 : decode cX9_find 48 = .ok (.if_icmp .ge 88, 3) := by decide +kernel
theorem dX9_find_51 : decode cX9_find 51 = .ok (.aload_n 0, 1) := by decide +kernel
theorem dX9_find_52 : decode cX9_find 52 = .ok (.getfield 39, 3) := by decide +kernel
theorem dX9_find_55 : decode cX9_find 55 = .ok (.iload 5, 2) := by decide +kernel
theorem dX9_find_57 : decode cX9_find 57 = .ok (.iaload, 1) := by decide +kernel
theorem dX9_find_58 : decode cX9_find 58 = .ok (.iconst 1, 1) := by decide +kernel
theorem dX9_find_59 : decode cX9_find 59 = .ok (.isub, 1) := by decide +kernel
theorem dX9_find_60 : decode cX9_find 60 = .ok (.istore 7, 2) := by decide +kernel
theorem dX9_find_62 : decode cX9_find 62 = .ok (.iload 7, 2) := by decide +kernel
theorem dX9_find_64 : decode cX9_find 64 = .ok (.ifCond .ge 11, 3) := by decide +kernel
theorem dX9_find_67 : decode cX9_find 67 = .ok (.aload_n 0, 1) := by decide +kernel
theorem dX9_find_68 : decode cX9_find 68 = .ok (.iload 5, 2) := by decide +kernel
theorem dX9_find_70 : decode cX9_find 70 = .ok (.iload_n 2, 1) := by decide +kernel
theorem dX9_find_71 : decode cX9_find 71 = .ok (.invokevirtual 153, 3) := by decide +kernel
theorem dX9_find_74 : decode cX9_find 74 = .ok (.ireturn, 1) := by decide +kernel
theorem dX9_find_75 : decode cX9_find 75 = .ok (.iload 7, 2) := by decide +kernel
theorem dX9_find_77 : decode cX9_find 77 = .ok (.iload_n 1, 1) := by decide +kernel
theorem dX9_find_78 : decode cX9_find 78 = .ok (.if_icmp .lt 42, 3) := by decide +kernel
theorem dX9_find_81 : decode cX9_find 81 = .ok (.aload_n 0, 1) := by decide +kernel
theorem dX9_find_82 : decode cX9_find 82 = .ok (.getfield 25, 3) := by decide +kernel
theorem dX9_find_85 : decode cX9_find 85 = .ok (.iload 7, 2) := by decide +kernel
theorem dX9_find_87 : decode cX9_find 87 = .ok (.laload, 1) := by decide +kernel
theorem dX9_find_88 : decode cX9_find 88 = .ok (.aload_n 0, 1) := by decide +kernel
theorem dX9_find_89 : decode cX9_find 89 = .ok (.getfield 21, 3) := by decide +kernel
theorem dX9_find_92 : decode cX9_find 92 = .ok (.getfield 108, 3) := by decide +kernel
theorem dX9_find_95 : decode cX9_find 95 = .ok (.lcmp, 1) := by decide +kernel
theorem dX9_find_96 : decode cX9_find 96 = .ok (.ifCond .ne 24, 3) := by decide +kernel
theorem dX9_find_99 : decode cX9_find 99 = .ok (.aload_n 0, 1) := by decide +kernel
theorem dX9_find_100 : decode cX9_find 100 = .ok (.getfield 29, 3) := by decide +kernel
theorem dX9_find_103 : decode cX9_find 103 = .ok (.iload 7, 2) := by decide +kernel
theorem dX9_find_105 : decode cX9_find 105 = .ok (.laload, 1) := by decide +kernel
theorem dX9_find_106 : decode cX9_find 106 = .ok (.aload_n 0, 1) := by decide +kernel
theorem dX9_find_107 : decode cX9_find 107 = .ok (.getfield 21, 3) := by decide +kernel
theorem dX9_find_110 : decode cX9_find 110 = .ok (.getfield 110, 3) := by decide +kernel
theorem dX9_find_113 : decode cX9_find 113 = .ok (.lcmp, 1) := by decide +kernel
theorem dX9_find_114 : decode cX9_find 114 = .ok (.ifCond .ne 6, 3) := by decide +kernel
theorem dX9_find_117 : decode cX9_find 117 = .ok (.iload 7, 2) := by decide +kernel
theorem dX9_find_119 : decode cX9_find 119 = .ok (.ireturn, 1) := by decide +kernel
theorem dX9_find_120 : decode cX9_find 120 = .ok (.iload 5, 2) := by decide +kernel
theorem dX9_find_122 : decode cX9_find 122 = .ok (.iconst 1, 1) := by decide +kernel
theorem dX9_find_123 : decode cX9_find 123 = .ok (.iadd, 1) := by decide +kernel
theorem dX9_find_124 : decode cX9_find 124 = .ok (.sipush 8191, 3) := by decide +kernel
theorem dX9_find_127 : decode cX9_find 127 = .ok (.iand, 1) := by decide +kernel
theorem dX9_find_128 : decode cX9_find 128 = .ok (.istore 5, 2) := by decide +kernel
theorem dX9_find_130 : decode cX9_find 130 = .ok (.iinc 6 1, 3) := by decide +kernel
theorem dX9_find_133 : decode cX9_find 133 = .ok (.goto (-90), 3) := by decide +kernel
theorem dX9_find_136 : decode cX9_find 136 = .ok (.iconst (-1), 1) := by decide +kernel
theorem dX9_find_137 : decode cX9_find 137 = .ok (.ireturn, 1) := by decide +kernel
theorem dX9_add_0 : decode cX9_add 0 = .ok (.aload_n 0, 1) := by decide +kernel
theorem dX9_add_1 : decode cX9_add 1 = .ok (.getfield 52, 3) := by decide +kernel
theorem dX9_add_4 : decode cX9_add 4 = .ok (.aload_n 0, 1) := by decide +kernel
theorem dX9_add_5 : decode cX9_add 5 = .ok (.getfield 56, 3) := by decide +kernel
theorem dX9_add_8 : decode cX9_add 8 = .ok (.if_icmp .lt 5, 3) := by decide +kernel
theorem dX9_add_11 : decode cX9_add 11 = .ok (.iconst (-1), 1) := by decide +kernel
theorem dX9_add_12 : decode cX9_add 12 = .ok (.ireturn, 1) := by decide +kernel
theorem dX9_add_13 : decode cX9_add 13 = .ok (.aload_n 0, 1) := by decide +kernel
theorem dX9_add_14 : decode cX9_add 14 = .ok (.getfield 25, 3) := by decide +kernel
theorem dX9_add_17 : decode cX9_add 17 = .ok (.aload_n 0, 1) := by decide +kernel
theorem dX9_add_18 : decode cX9_add 18 = .ok (.getfield 52, 3) := by decide +kernel
theorem dX9_add_21 : decode cX9_add 21 = .ok (.aload_n 0, 1) := by decide +kernel
theorem dX9_add_22 : decode cX9_add 22 = .ok (.getfield 21, 3) := by decide +kernel
theorem dX9_add_25 : decode cX9_add 25 = .ok (.getfield 108, 3) := by decide +kernel
theorem dX9_add_28 : decode cX9_add 28 = .ok (.lastore, 1) := by decide +kernel
theorem dX9_add_29 : decode cX9_add 29 = .ok (.aload_n 0, 1) := by decide +kernel
theorem dX9_add_30 : decode cX9_add 30 = .ok (.getfield 29, 3) := by decide +kernel
theorem dX9_add_33 : decode cX9_add 33 = .ok (.aload_n 0, 1) := by decide +kernel
theorem dX9_add_34 : decode cX9_add 34 = .ok (.getfield 52, 3) := by decide +kernel
theorem dX9_add_37 : decode cX9_add 37 = .ok (.aload_n 0, 1) := by decide +kernel
theorem dX9_add_38 : decode cX9_add 38 = .ok (.getfield 21, 3) := by decide +kernel
theorem dX9_add_41 : decode cX9_add 41 = .ok (.getfield 110, 3) := by decide +kernel
theorem dX9_add_44 : decode cX9_add 44 = .ok (.lastore, 1) := by decide +kernel
theorem dX9_add_45 : decode cX9_add 45 = .ok (.aload_n 0, 1) := by decide +kernel
theorem dX9_add_46 : decode cX9_add 46 = .ok (.getfield 32, 3) := by decide +kernel
theorem dX9_add_49 : decode cX9_add 49 = .ok (.aload_n 0, 1) := by decide +kernel
theorem dX9_add_50 : decode cX9_add 50 = .ok (.getfield 52, 3) := by decide +kernel
theorem dX9_add_53 : decode cX9_add 53 = .ok (.iload_n 2, 1) := by decide +kernel
theorem dX9_add_54 : decode cX9_add 54 = .ok (.iastore, 1) := by decide +kernel
theorem dX9_add_55 : decode cX9_add 55 = .ok (.aload_n 0, 1) := by decide +kernel
theorem dX9_add_56 : decode cX9_add 56 = .ok (.getfield 36, 3) := by decide +kernel
theorem dX9_add_59 : decode cX9_add 59 = .ok (.aload_n 0, 1) := by decide +kernel
theorem dX9_add_60 : decode cX9_add 60 = .ok (.getfield 52, 3) := by decide +kernel
theorem dX9_add_63 : decode cX9_add 63 = .ok (.iload_n 1, 1) := by decide +kernel
theorem dX9_add_64 : decode cX9_add 64 = .ok (.iastore, 1) := by decide +kernel
theorem dX9_add_65 : decode cX9_add 65 = .ok (.aload_n 0, 1) := by decide +kernel
theorem dX9_add_66 : decode cX9_add 66 = .ok (.getfield 46, 3) := by decide +kernel
theorem dX9_add_69 : decode cX9_add 69 = .ok (.aload_n 0, 1) := by decide +kernel
theorem dX9_add_70 : decode cX9_add 70 = .ok (.getfield 52, 3) := by decide +kernel
theorem dX9_add_73 : decode cX9_add 73 = .ok (.lconst 0, 1) := by decide +kernel
theorem dX9_add_74 : decode cX9_add 74 = .ok (.lastore, 1) := by decide +kernel
theorem dX9_add_75 : decode cX9_add 75 = .ok (.aload_n 0, 1) := by decide +kernel
theorem dX9_add_76 : decode cX9_add 76 = .ok (.dup, 1) := by decide +kernel
theorem dX9_add_77 : decode cX9_add 77 = .ok (.getfield 52, 3) := by decide +kernel
theorem dX9_add_80 : decode cX9_add 80 = .ok (.iconst 1, 1) := by decide +kernel
theorem dX9_add_81 : decode cX9_add 81 = .ok (.iadd, 1) := by decide +kernel
theorem dX9_add_82 : decode cX9_add 82 = .ok (.putfield 52, 3) := by decide +kernel
theorem dX9_add_85 : decode cX9_add 85 = .ok (.aload_n 0, 1) := by decide +kernel
theorem dX9_add_86 : decode cX9_add 86 = .ok (.getfield 39, 3) := by decide +kernel
theorem dX9_add_89 : decode cX9_add 89 = .ok (.iload_n 1, 1) := by decide +kernel
theorem dX9_add_90 : decode cX9_add 90 = .ok (.aload_n 0, 1) := by decide +kernel
theorem dX9_add_91 : decode cX9_add 91 = .ok (.getfield 52, 3) := by decide +kernel
theorem dX9_add_94 : decode cX9_add 94 = .ok (.iastore, 1) := by decide +kernel
theorem dX9_add_95 : decode cX9_add 95 = .ok (.aload_n 0, 1) := by decide +kernel
theorem dX9_add_96 : decode cX9_add 96 = .ok (.getfield 52, 3) := by decide +kernel
theorem dX9_add_99 : decode cX9_add 99 = .ok (.iconst 1, 1) := by decide +kernel
theorem dX9_add_100 : decode cX9_add 100 = .ok (.isub, 1) := by decide +kernel
theorem dX9_add_101 : decode cX9_add 101 = .ok (.ireturn, 1) := by decide +kernel
theorem dX9_weightWithout_0 : decode cX9_weightWithout 0 = .ok (.iconst 0, 1) := by decide +kernel
theorem dX9_weightWithout_1 : decode cX9_weightWithout 1 = .ok (.istore 4, 2) := by decide +kernel
theorem dX9_weightWithout_3 : decode cX9_weightWithout 3 = .ok (.iload 4, 2) := by decide +kernel
theorem dX9_weightWithout_5 : decode cX9_weightWithout 5 = .ok (.aload_n 0, 1) := by decide +kernel
theorem dX9_weightWithout_6 : decode cX9_weightWithout 6 = .ok (.getfield 52, 3) := by decide +kernel
theorem dX9_weightWithout_9 : decode cX9_weightWithout 9 = .ok (.if_icmp .ge 17, 3) := by decide +kernel
theorem dX9_weightWithout_12 : decode cX9_weightWithout 12 = .ok (.aload_n 0, 1) := by decide +kernel
theorem dX9_weightWithout_13 : decode cX9_weightWithout 13 = .ok (.getfield 46, 3) := by decide +kernel
theorem dX9_weightWithout_16 : decode cX9_weightWithout 16 = .ok (.iload 4, 2) := by decide +kernel
theorem dX9_weightWithout_18 : decode cX9_weightWithout 18 = .ok (.lconst 0, 1) := by decide +kernel
theorem dX9_weightWithout_19 : decode cX9_weightWithout 19 = .ok (.lastore, 1) := by decide +kernel
theorem dX9_weightWithout_20 : decode cX9_weightWithout 20 = .ok (.iinc 4 1, 3) := by decide +kernel
theorem dX9_weightWithout_23 : decode cX9_weightWithout 23 = .ok (.goto (-20), 3) := by decide +kernel
theorem dX9_weightWithout_26 : decode cX9_weightWithout 26 = .ok (.aload_n 0, 1) := by decide +kernel
theorem dX9_weightWithout_27 : decode cX9_weightWithout 27 = .ok (.getfield 46, 3) := by decide +kernel
theorem dX9_weightWithout_30 : decode cX9_weightWithout 30 = .ok (.iconst 0, 1) := by decide +kernel
theorem dX9_weightWithout_31 : decode cX9_weightWithout 31 = .ok (.lconst 1, 1) := by decide +kernel
theorem dX9_weightWithout_32 : decode cX9_weightWithout 32 = .ok (.lastore, 1) := by decide +kernel
theorem dX9_weightWithout_33 : decode cX9_weightWithout 33 = .ok (.iconst 0, 1) := by decide +kernel
theorem dX9_weightWithout_34 : decode cX9_weightWithout 34 = .ok (.istore 4, 2) := by decide +kernel
theorem dX9_weightWithout_36 : decode cX9_weightWithout 36 = .ok (.iload 4, 2) := by decide +kernel
theorem dX9_weightWithout_38 : decode cX9_weightWithout 38 = .ok (.iload_n 2, 1) := by decide +kernel
theorem dX9_weightWithout_39 : decode cX9_weightWithout 39 = .ok (.if_icmp .ge 93, 3) := by decide +kernel
theorem dX9_weightWithout_42 : decode cX9_weightWithout 42 = .ok (.iconst 0, 1) := by decide +kernel
theorem dX9_weightWithout_43 : decode cX9_weightWithout 43 = .ok (.istore 5, 2) := by decide +kernel
theorem dX9_weightWithout_45 : decode cX9_weightWithout 45 = .ok (.iload 5, 2) := by decide +kernel
theorem dX9_weightWithout_47 : decode cX9_weightWithout 47 = .ok (.aload_n 0, 1) := by decide +kernel
theorem dX9_weightWithout_48 : decode cX9_weightWithout 48 = .ok (.getfield 52, 3) := by decide +kernel
theorem dX9_weightWithout_51 : decode cX9_weightWithout 51 = .ok (.if_icmp .ge 17, 3) := by decide +kernel
theorem dX9_weightWithout_54 : decode cX9_weightWithout 54 = .ok (.aload_n 0, 1) := by decide +kernel
theorem dX9_weightWithout_55 : decode cX9_weightWithout 55 = .ok (.getfield 49, 3) := by decide +kernel
theorem dX9_weightWithout_58 : decode cX9_weightWithout 58 = .ok (.iload 5, 2) := by decide +kernel
theorem dX9_weightWithout_60 : decode cX9_weightWithout 60 = .ok (.lconst 0, 1) := by decide +kernel
theorem dX9_weightWithout_61 : decode cX9_weightWithout 61 = .ok (.lastore, 1) := by decide +kernel
theorem dX9_weightWithout_62 : decode cX9_weightWithout 62 = .ok (.iinc 5 1, 3) := by decide +kernel
theorem dX9_weightWithout_65 : decode cX9_weightWithout 65 = .ok (.goto (-20), 3) := by decide +kernel
theorem dX9_weightWithout_68 : decode cX9_weightWithout 68 = .ok (.iconst 0, 1) := by decide +kernel
theorem dX9_weightWithout_69 : decode cX9_weightWithout 69 = .ok (.istore 5, 2) := by decide +kernel
theorem dX9_weightWithout_71 : decode cX9_weightWithout 71 = .ok (.iload 5, 2) := by decide +kernel
theorem dX9_weightWithout_73 : decode cX9_weightWithout 73 = .ok (.aload_n 0, 1) := by decide +kernel
theorem dX9_weightWithout_74 : decode cX9_weightWithout 74 = .ok (.getfield 52, 3) := by decide +kernel
theorem dX9_weightWithout_77 : decode cX9_weightWithout 77 = .ok (.if_icmp .ge 29, 3) := by decide +kernel
theorem dX9_weightWithout_80 : decode cX9_weightWithout 80 = .ok (.aload_n 0, 1) := by decide +kernel
theorem dX9_weightWithout_81 : decode cX9_weightWithout 81 = .ok (.getfield 46, 3) := by decide +kernel
theorem dX9_weightWithout_84 : decode cX9_weightWithout 84 = .ok (.iload 5, 2) := by decide +kernel
theorem dX9_weightWithout_86 : decode cX9_weightWithout 86 = .ok (.laload, 1) := by decide +kernel
theorem dX9_weightWithout_87 : decode cX9_weightWithout 87 = .ok (.lconst 0, 1) := by decide +kernel
theorem dX9_weightWithout_88 : decode cX9_weightWithout 88 = .ok (.lcmp, 1) := by decide +kernel
theorem dX9_weightWithout_89 : decode cX9_weightWithout 89 = .ok (.ifCond .eq 11, 3) := by decide +kernel
theorem dX9_weightWithout_92 : decode cX9_weightWithout 92 = .ok (.aload_n 0, 1) := by decide +kernel
theorem dX9_weightWithout_93 : decode cX9_weightWithout 93 = .ok (.iload 5, 2) := by decide +kernel
theorem dX9_weightWithout_95 : decode cX9_weightWithout 95 = .ok (.iload_n 1, 1) := by decide +kernel
theorem dX9_weightWithout_96 : decode cX9_weightWithout 96 = .ok (.aload_n 3, 1) := by decide +kernel
theorem dX9_weightWithout_97 : decode cX9_weightWithout 97 = .ok (.invokevirtual 156, 3) := by decide +kernel
theorem dX9_weightWithout_100 : decode cX9_weightWithout 100 = .ok (.iinc 5 1, 3) := by decide +kernel
theorem dX9_weightWithout_103 : decode cX9_weightWithout 103 = .ok (.goto (-32), 3) := by decide +kernel
theorem dX9_weightWithout_106 : decode cX9_weightWithout 106 = .ok (.aload_n 0, 1) := by decide +kernel
theorem dX9_weightWithout_107 : decode cX9_weightWithout 107 = .ok (.getfield 46, 3) := by decide +kernel
theorem dX9_weightWithout_110 : decode cX9_weightWithout 110 = .ok (.astore 5, 2) := by decide +kernel
theorem dX9_weightWithout_112 : decode cX9_weightWithout 112 = .ok (.aload_n 0, 1) := by decide +kernel
theorem dX9_weightWithout_113 : decode cX9_weightWithout 113 = .ok (.aload_n 0, 1) := by decide +kernel
theorem dX9_weightWithout_114 : decode cX9_weightWithout 114 = .ok (.getfield 49, 3) := by decide +kernel
theorem dX9_weightWithout_117 : decode cX9_weightWithout 117 = .ok (.putfield 46, 3) := by decide +kernel
theorem dX9_weightWithout_120 : decode cX9_weightWithout 120 = .ok (.aload_n 0, 1) := by decide +kernel
theorem dX9_weightWithout_121 : decode cX9_weightWithout 121 = .ok (.aload 5, 2) := by decide +kernel
theorem dX9_weightWithout_123 : decode cX9_weightWithout 123 = .ok (.putfield 49, 3) := by decide +kernel
theorem dX9_weightWithout_126 : decode cX9_weightWithout 126 = .ok (.iinc 4 1, 3) := by decide +kernel
theorem dX9_weightWithout_129 : decode cX9_weightWithout 129 = .ok (.goto (-93), 3) := by decide +kernel
theorem dX9_weightWithout_132 : decode cX9_weightWithout 132 = .ok (.lconst 0, 1) := by decide +kernel
theorem dX9_weightWithout_133 : decode cX9_weightWithout 133 = .ok (.lstore 4, 2) := by decide +kernel
theorem dX9_weightWithout_135 : decode cX9_weightWithout 135 = .ok (.iconst 0, 1) := by decide +kernel
theorem dX9_weightWithout_136 : decode cX9_weightWithout 136 = .ok (.istore 6, 2) := by decide +kernel
theorem dX9_weightWithout_138 : decode cX9_weightWithout 138 = .ok (.iload 6, 2) := by decide +kernel
theorem dX9_weightWithout_140 : decode cX9_weightWithout 140 = .ok (.aload_n 0, 1) := by decide +kernel
theorem dX9_weightWithout_141 : decode cX9_weightWithout 141 = .ok (.getfield 52, 3) := by decide +kernel
theorem dX9_weightWithout_144 : decode cX9_weightWithout 144 = .ok (.if_icmp .ge 21, 3) := by decide +kernel
theorem dX9_weightWithout_147 : decode cX9_weightWithout 147 = .ok (.lload 4, 2) := by decide +kernel
theorem dX9_weightWithout_149 : decode cX9_weightWithout 149 = .ok (.aload_n 0, 1) := by decide +kernel
theorem dX9_weightWithout_150 : decode cX9_weightWithout 150 = .ok (.getfield 46, 3) := by decide +kernel
theorem dX9_weightWithout_153 : decode cX9_weightWithout 153 = .ok (.iload 6, 2) := by decide +kernel
theorem dX9_weightWithout_155 : decode cX9_weightWithout 155 = .ok (.laload, 1) := by decide +kernel
theorem dX9_weightWithout_156 : decode cX9_weightWithout 156 = .ok (.ladd, 1) := by decide +kernel
theorem dX9_weightWithout_157 : decode cX9_weightWithout 157 = .ok (.lstore 4, 2) := by decide +kernel
theorem dX9_weightWithout_159 : decode cX9_weightWithout 159 = .ok (.iinc 6 1, 3) := by decide +kernel
theorem dX9_weightWithout_162 : decode cX9_weightWithout 162 = .ok (.goto (-24), 3) := by decide +kernel
theorem dX9_weightWithout_165 : decode cX9_weightWithout 165 = .ok (.lload 4, 2) := by decide +kernel
theorem dX9_weightWithout_167 : decode cX9_weightWithout 167 = .ok (.lreturn, 1) := by decide +kernel
theorem dX9_spread_0 : decode cX9_spread 0 = .ok (.iload_n 1, 1) := by decide +kernel
theorem dX9_spread_1 : decode cX9_spread 1 = .ok (.aload_n 0, 1) := by decide +kernel
theorem dX9_spread_2 : decode cX9_spread 2 = .ok (.getfield 12, 3) := by decide +kernel
theorem dX9_spread_5 : decode cX9_spread 5 = .ok (.getfield 102, 3) := by decide +kernel
theorem dX9_spread_8 : decode cX9_spread 8 = .ok (.imul, 1) := by decide +kernel
theorem dX9_spread_9 : decode cX9_spread 9 = .ok (.aload_n 0, 1) := by decide +kernel
theorem dX9_spread_10 : decode cX9_spread 10 = .ok (.getfield 12, 3) := by decide +kernel
theorem dX9_spread_13 : decode cX9_spread 13 = .ok (.getfield 105, 3) := by decide +kernel
theorem dX9_spread_16 : decode cX9_spread 16 = .ok (.iconst 1, 1) := by decide +kernel
theorem dX9_spread_17 : decode cX9_spread 17 = .ok (.iadd, 1) := by decide +kernel
theorem dX9_spread_18 : decode cX9_spread 18 = .ok (.imul, 1) := by decide +kernel
theorem dX9_spread_19 : decode cX9_spread 19 = .ok (.istore 4, 2) := by decide +kernel
theorem dX9_spread_21 : decode cX9_spread 21 = .ok (.iconst 0, 1) := by decide +kernel
theorem dX9_spread_22 : decode cX9_spread 22 = .ok (.istore 5, 2) := by decide +kernel
theorem dX9_spread_24 : decode cX9_spread 24 = .ok (.iload 5, 2) := by decide +kernel
theorem dX9_spread_26 : decode cX9_spread 26 = .ok (.aload_n 0, 1) := by decide +kernel
theorem dX9_spread_27 : decode cX9_spread 27 = .ok (.getfield 12, 3) := by decide +kernel
theorem dX9_spread_30 : decode cX9_spread 30 = .ok (.getfield 102, 3) := by decide +kernel
theorem dX9_spread_33 : decode cX9_spread 33 = .ok (.if_icmp .ge 73, 3) := by decide +kernel
theorem dX9_spread_36 : decode cX9_spread 36 = .ok (.iconst 0, 1) := by decide +kernel
theorem dX9_spread_37 : decode cX9_spread 37 = .ok (.istore 6, 2) := by decide +kernel
theorem dX9_spread_39 : decode cX9_spread 39 = .ok (.iload 6, 2) := by decide +kernel
theorem dX9_spread_41 : decode cX9_spread 41 = .ok (.aload_n 0, 1) := by decide +kernel
theorem dX9_spread_42 : decode cX9_spread 42 = .ok (.getfield 12, 3) := by decide +kernel
theorem dX9_spread_45 : decode cX9_spread 45 = .ok (.getfield 105, 3) := by decide +kernel
theorem dX9_spread_48 : decode cX9_spread 48 = .ok (.if_icmp .gt 52, 3) := by decide +kernel
theorem dX9_spread_51 : decode cX9_spread 51 = .ok (.aload_n 0, 1) := by decide +kernel
theorem dX9_spread_52 : decode cX9_spread 52 = .ok (.getfield 43, 3) := by decide +kernel
theorem dX9_spread_55 : decode cX9_spread 55 = .ok (.iload 4, 2) := by decide +kernel
theorem dX9_spread_57 : decode cX9_spread 57 = .ok (.iaload, 1) := by decide +kernel
theorem dX9_spread_58 : decode cX9_spread 58 = .ok (.istore 7, 2) := by decide +kernel
theorem dX9_spread_60 : decode cX9_spread 60 = .ok (.iload 7, 2) := by decide +kernel
theorem dX9_spread_62 : decode cX9_spread 62 = .ok (.iload_n 2, 1) := by decide +kernel
theorem dX9_spread_63 : decode cX9_spread 63 = .ok (.iand, 1) := by decide +kernel
theorem dX9_spread_64 : decode cX9_spread 64 = .ok (.ifCond .ne 27, 3) := by decide +kernel
theorem dX9_spread_67 : decode cX9_spread 67 = .ok (.aload_n 0, 1) := by decide +kernel
theorem dX9_spread_68 : decode cX9_spread 68 = .ok (.getfield 49, 3) := by decide +kernel
theorem dX9_spread_71 : decode cX9_spread 71 = .ok (.iload 7, 2) := by decide +kernel
theorem dX9_spread_73 : decode cX9_spread 73 = .ok (.iconst 2, 1) := by decide +kernel
theorem dX9_spread_74 : decode cX9_spread 74 = .ok (.ishr, 1) := by decide +kernel
theorem dX9_spread_75 : decode cX9_spread 75 = .ok (.dup2, 1) := by decide +kernel
theorem dX9_spread_76 : decode cX9_spread 76 = .ok (.laload, 1) := by decide +kernel
theorem dX9_spread_77 : decode cX9_spread 77 = .ok (.aload_n 0, 1) := by decide +kernel
theorem dX9_spread_78 : decode cX9_spread 78 = .ok (.getfield 46, 3) := by decide +kernel
theorem dX9_spread_81 : decode cX9_spread 81 = .ok (.iload_n 1, 1) := by decide +kernel
theorem dX9_spread_82 : decode cX9_spread 82 = .ok (.laload, 1) := by decide +kernel
theorem dX9_spread_83 : decode cX9_spread 83 = .ok (.aload_n 3, 1) := by decide +kernel
theorem dX9_spread_84 : decode cX9_spread 84 = .ok (.iload 6, 2) := by decide +kernel
theorem dX9_spread_86 : decode cX9_spread 86 = .ok (.iaload, 1) := by decide +kernel
theorem dX9_spread_87 : decode cX9_spread 87 = .ok (.i2l, 1) := by decide +kernel
theorem dX9_spread_88 : decode cX9_spread 88 = .ok (.lmul, 1) := by decide +kernel
theorem dX9_spread_89 : decode cX9_spread 89 = .ok (.ladd, 1) := by decide +kernel
theorem dX9_spread_90 : decode cX9_spread 90 = .ok (.lastore, 1) := by decide +kernel
theorem dX9_spread_91 : decode cX9_spread 91 = .ok (.iinc 4 1, 3) := by decide +kernel
theorem dX9_spread_94 : decode cX9_spread 94 = .ok (.iinc 6 1, 3) := by decide +kernel
theorem dX9_spread_97 : decode cX9_spread 97 = .ok (.goto (-58), 3) := by decide +kernel
theorem dX9_spread_100 : decode cX9_spread 100 = .ok (.iinc 5 1, 3) := by decide +kernel
theorem dX9_spread_103 : decode cX9_spread 103 = .ok (.goto (-79), 3) := by decide +kernel
theorem dX9_spread_106 : decode cX9_spread 106 = .ok (.return_, 1) := by decide +kernel
theorem dX9_follow_0 : decode cX9_follow 0 = .ok (.aload_n 0, 1) := by decide +kernel
theorem dX9_follow_1 : decode cX9_follow 1 = .ok (.aload_n 1, 1) := by decide +kernel
theorem dX9_follow_2 : decode cX9_follow 2 = .ok (.sipush 4000, 3) := by decide +kernel
theorem dX9_follow_5 : decode cX9_follow 5 = .ok (.invokevirtual 81, 3) := by decide +kernel
theorem dX9_follow_8 : decode cX9_follow 8 = .ok (.aload_n 0, 1) := by decide +kernel
theorem dX9_follow_9 : decode cX9_follow 9 = .ok (.getfield 46, 3) := by decide +kernel
theorem dX9_follow_12 : decode cX9_follow 12 = .ok (.iconst 0, 1) := by decide +kernel
theorem dX9_follow_13 : decode cX9_follow 13 = .ok (.lconst 1, 1) := by decide +kernel
theorem dX9_follow_14 : decode cX9_follow 14 = .ok (.lastore, 1) := by decide +kernel
theorem dX9_follow_15 : decode cX9_follow 15 = .ok (.iconst 0, 1) := by decide +kernel
theorem dX9_follow_16 : decode cX9_follow 16 = .ok (.istore 4, 2) := by decide +kernel
theorem dX9_follow_18 : decode cX9_follow 18 = .ok (.iconst 0, 1) := by decide +kernel
theorem dX9_follow_19 : decode cX9_follow 19 = .ok (.istore 5, 2) := by decide +kernel
theorem dX9_follow_21 : decode cX9_follow 21 = .ok (.iload 5, 2) := by decide +kernel
theorem dX9_follow_23 : decode cX9_follow 23 = .ok (.iload_n 3, 1) := by decide +kernel
theorem dX9_follow_24 : decode cX9_follow 24 = .ok (.if_icmp .ge 73, 3) := by decide +kernel
theorem dX9_follow_27 : decode cX9_follow 27 = .ok (.iload 5, 2) := by decide +kernel
theorem dX9_follow_29 : decode cX9_follow 29 = .ok (.bipush 8, 2) := by decide +kernel
theorem dX9_follow_31 : decode cX9_follow 31 = .ok (.if_icmp .ge 66, 3) := by decide +kernel
theorem dX9_follow_34 : decode cX9_follow 34 = .ok (.aload_n 0, 1) := by decide +kernel
theorem dX9_follow_35 : decode cX9_follow 35 = .ok (.getfield 52, 3) := by decide +kernel
theorem dX9_follow_38 : decode cX9_follow 38 = .ok (.istore 6, 2) := by decide +kernel
theorem dX9_follow_40 : decode cX9_follow 40 = .ok (.iload 4, 2) := by decide +kernel
theorem dX9_follow_42 : decode cX9_follow 42 = .ok (.istore 7, 2) := by decide +kernel
theorem dX9_follow_44 : decode cX9_follow 44 = .ok (.iload 7, 2) := by decide +kernel
theorem dX9_follow_46 : decode cX9_follow 46 = .ok (.iload 6, 2) := by decide +kernel
theorem dX9_follow_48 : decode cX9_follow 48 = .ok (.if_icmp .ge 39, 3) := by decide +kernel
theorem dX9_follow_51 : decode cX9_follow 51 = .ok (.aload_n 0, 1) := by decide +kernel
theorem dX9_follow_52 : decode cX9_follow 52 = .ok (.iload 7, 2) := by decide +kernel
theorem dX9_follow_54 : decode cX9_follow 54 = .ok (.iload 6, 2) := by decide +kernel
theorem dX9_follow_56 : decode cX9_follow 56 = .ok (.aload_n 2, 1) := by decide +kernel
theorem dX9_follow_57 : decode cX9_follow 57 = .ok (.iload 5, 2) := by decide +kernel
theorem dX9_follow_59 : decode cX9_follow 59 = .ok (.iaload, 1) := by decide +kernel
theorem dX9_follow_60 : decode cX9_follow 60 = .ok (.iload 5, 2) := by decide +kernel
theorem dX9_follow_62 : decode cX9_follow 62 = .ok (.iload_n 3, 1) := by decide +kernel
theorem dX9_follow_63 : decode cX9_follow 63 = .ok (.iconst 1, 1) := by decide +kernel
theorem dX9_follow_64 : decode cX9_follow 64 = .ok (.isub, 1) := by decide +kernel
theorem dX9_follow_65 : decode cX9_follow 65 = .ok (.if_icmp .ne 7, 3) := by decide +kernel
theorem dX9_follow_68 : decode cX9_follow 68 = .ok (.iconst 1, 1) := by decide +kernel
theorem dX9_follow_69 : decode cX9_follow 69 = .ok (.goto 4, 3) := by decide +kernel
theorem dX9_follow_72 : decode cX9_follow 72 = .ok (.iconst 0, 1) := by decide +kernel
theorem dX9_follow_73 : decode cX9_follow 73 = .ok (.invokevirtual 160, 3) := by decide +kernel
theorem dX9_follow_76 : decode cX9_follow 76 = .ok (.ifCond .ne 5, 3) := by decide +kernel
theorem dX9_follow_79 : decode cX9_follow 79 = .ok (.iconst 0, 1) := by decide +kernel
theorem dX9_follow_80 : decode cX9_follow 80 = .ok (.ireturn, 1) := by decide +kernel
theorem dX9_follow_81 : decode cX9_follow 81 = .ok (.iinc 7 1, 3) := by decide +kernel
theorem dX9_follow_84 : decode cX9_follow 84 = .ok (.goto (-40), 3) := by decide +kernel
theorem dX9_follow_87 : decode cX9_follow 87 = .ok (.iload 6, 2) := by decide +kernel
theorem dX9_follow_89 : decode cX9_follow 89 = .ok (.istore 4, 2) := by decide +kernel
theorem dX9_follow_91 : decode cX9_follow 91 = .ok (.iinc 5 1, 3) := by decide +kernel
theorem dX9_follow_94 : decode cX9_follow 94 = .ok (.goto (-73), 3) := by decide +kernel
theorem dX9_follow_97 : decode cX9_follow 97 = .ok (.iconst 1, 1) := by decide +kernel
theorem dX9_follow_98 : decode cX9_follow 98 = .ok (.ireturn, 1) := by decide +kernel
theorem dX9_followFrom_0 : decode cX9_followFrom 0 = .ok (.iconst 0, 1) := by decide +kernel
theorem dX9_followFrom_1 : decode cX9_followFrom 1 = .ok (.istore 5, 2) := by decide +kernel
theorem dX9_followFrom_3 : decode cX9_followFrom 3 = .ok (.iload 5, 2) := by decide +kernel
theorem dX9_followFrom_5 : decode cX9_followFrom 5 = .ok (.aload_n 0, 1) := by decide +kernel
theorem dX9_followFrom_6 : decode cX9_followFrom 6 = .ok (.getfield 12, 3) := by decide +kernel
theorem dX9_followFrom_9 : decode cX9_followFrom 9 = .ok (.getfield 102, 3) := by decide +kernel
theorem dX9_followFrom_12 : decode cX9_followFrom 12 = .ok (.if_icmp .ge 166, 3) := by decide +kernel
theorem dX9_followFrom_15 : decode cX9_followFrom 15 = .ok (.aload_n 0, 1) := by decide +kernel
theorem dX9_followFrom_16 : decode cX9_followFrom 16 = .ok (.getfield 21, 3) := by decide +kernel
theorem dX9_followFrom_19 : decode cX9_followFrom 19 = .ok (.aload_n 0, 1) := by decide +kernel
theorem dX9_followFrom_20 : decode cX9_followFrom 20 = .ok (.getfield 25, 3) := by decide +kernel
theorem dX9_followFrom_23 : decode cX9_followFrom 23 = .ok (.iload_n 1, 1) := by decide +kernel
theorem dX9_followFrom_24 : decode cX9_followFrom 24 = .ok (.laload, 1) := by decide +kernel
theorem dX9_followFrom_25 : decode cX9_followFrom 25 = .ok (.putfield 108, 3) := by decide +kernel
theorem dX9_followFrom_28 : decode cX9_followFrom 28 = .ok (.aload_n 0, 1) := by decide +kernel
theorem dX9_followFrom_29 : decode cX9_followFrom 29 = .ok (.getfield 21, 3) := by decide +kernel
theorem dX9_followFrom_32 : decode cX9_followFrom 32 = .ok (.aload_n 0, 1) := by decide +kernel
theorem dX9_followFrom_33 : decode cX9_followFrom 33 = .ok (.getfield 29, 3) := by decide +kernel
theorem dX9_followFrom_36 : decode cX9_followFrom 36 = .ok (.iload_n 1, 1) := by decide +kernel
theorem dX9_followFrom_37 : decode cX9_followFrom 37 = .ok (.laload, 1) := by decide +kernel
theorem dX9_followFrom_38 : decode cX9_followFrom 38 = .ok (.putfield 110, 3) := by decide +kernel
theorem dX9_followFrom_41 : decode cX9_followFrom 41 = .ok (.aload_n 0, 1) := by decide +kernel
theorem dX9_followFrom_42 : decode cX9_followFrom 42 = .ok (.getfield 12, 3) := by decide +kernel
theorem dX9_followFrom_45 : decode cX9_followFrom 45 = .ok (.aload_n 0, 1) := by decide +kernel
theorem dX9_followFrom_46 : decode cX9_followFrom 46 = .ok (.getfield 21, 3) := by decide +kernel
theorem dX9_followFrom_49 : decode cX9_followFrom 49 = .ok (.iload 5, 2) := by decide +kernel
theorem dX9_followFrom_51 : decode cX9_followFrom 51 = .ok (.iload_n 3, 1) := by decide +kernel
theorem dX9_followFrom_52 : decode cX9_followFrom 52 = .ok (.invokevirtual 113, 3) := by decide +kernel
theorem dX9_followFrom_55 : decode cX9_followFrom 55 = .ok (.iload_n 1, 1) := by decide +kernel
theorem dX9_followFrom_56 : decode cX9_followFrom 56 = .ok (.iconst 5, 1) := by decide +kernel
theorem dX9_followFrom_57 : decode cX9_followFrom 57 = .ok (.ishl, 1) := by decide +kernel
theorem dX9_followFrom_58 : decode cX9_followFrom 58 = .ok (.iload 5, 2) := by decide +kernel
theorem dX9_followFrom_60 : decode cX9_followFrom 60 = .ok (.ior, 1) := by decide +kernel
theorem dX9_followFrom_61 : decode cX9_followFrom 61 = .ok (.istore 6, 2) := by decide +kernel
theorem dX9_followFrom_63 : decode cX9_followFrom 63 = .ok (.aload_n 0, 1) := by decide +kernel
theorem dX9_followFrom_64 : decode cX9_followFrom 64 = .ok (.getfield 12, 3) := by decide +kernel
theorem dX9_followFrom_67 : decode cX9_followFrom 67 = .ok (.aload_n 0, 1) := by decide +kernel
theorem dX9_followFrom_68 : decode cX9_followFrom 68 = .ok (.getfield 21, 3) := by decide +kernel
theorem dX9_followFrom_71 : decode cX9_followFrom 71 = .ok (.invokevirtual 117, 3) := by decide +kernel
theorem dX9_followFrom_74 : decode cX9_followFrom 74 = .ok (.ifCond .eq 66, 3) := by decide +kernel
theorem dX9_followFrom_77 : decode cX9_followFrom 77 = .ok (.aload_n 0, 1) := by decide +kernel
theorem dX9_followFrom_78 : decode cX9_followFrom 78 = .ok (.aload_n 0, 1) := by decide +kernel
theorem dX9_followFrom_79 : decode cX9_followFrom 79 = .ok (.getfield 65, 3) := by decide +kernel
theorem dX9_followFrom_82 : decode cX9_followFrom 82 = .ok (.ifCond .ge 8, 3) := by decide +kernel
theorem dX9_followFrom_85 : decode cX9_followFrom 85 = .ok (.iload 6, 2) := by decide +kernel
theorem dX9_followFrom_87 : decode cX9_followFrom 87 = .ok (.goto 7, 3) := by decide +kernel
theorem dX9_followFrom_90 : decode cX9_followFrom 90 = .ok (.aload_n 0, 1) := by decide +kernel
theorem dX9_followFrom_91 : decode cX9_followFrom 91 = .ok (.getfield 65, 3) := by decide +kernel
theorem dX9_followFrom_94 : decode cX9_followFrom 94 = .ok (.putfield 65, 3) := by decide +kernel
theorem dX9_followFrom_97 : decode cX9_followFrom 97 = .ok (.iload 4, 2) := by decide +kernel
theorem dX9_followFrom_99 : decode cX9_followFrom 99 = .ok (.ifCond .eq 73, 3) := by decide +kernel
theorem dX9_followFrom_102 : decode cX9_followFrom 102 = .ok (.aload_n 0, 1) := by decide +kernel
theorem dX9_followFrom_103 : decode cX9_followFrom 103 = .ok (.aload_n 0, 1) := by decide +kernel
theorem dX9_followFrom_104 : decode cX9_followFrom 104 = .ok (.getfield 74, 3) := by decide +kernel
theorem dX9_followFrom_107 : decode cX9_followFrom 107 = .ok (.ifCond .ge 8, 3) := by decide +kernel
theorem dX9_followFrom_110 : decode cX9_followFrom 110 = .ok (.iload 6, 2) := by decide +kernel
theorem dX9_followFrom_112 : decode cX9_followFrom 112 = .ok (.goto 7, 3) := by decide +kernel
theorem dX9_followFrom_115 : decode cX9_followFrom 115 = .ok (.aload_n 0, 1) := by decide +kernel
theorem dX9_followFrom_116 : decode cX9_followFrom 116 = .ok (.getfield 74, 3) := by decide +kernel
theorem dX9_followFrom_119 : decode cX9_followFrom 119 = .ok (.putfield 74, 3) := by decide +kernel
theorem dX9_followFrom_122 : decode cX9_followFrom 122 = .ok (.aload_n 0, 1) := by decide +kernel
theorem dX9_followFrom_123 : decode cX9_followFrom 123 = .ok (.dup, 1) := by decide +kernel
theorem dX9_followFrom_124 : decode cX9_followFrom 124 = .ok (.getfield 77, 3) := by decide +kernel
theorem dX9_followFrom_127 : decode cX9_followFrom 127 = .ok (.aload_n 0, 1) := by decide +kernel
theorem dX9_followFrom_128 : decode cX9_followFrom 128 = .ok (.getfield 46, 3) := by decide +kernel
theorem dX9_followFrom_131 : decode cX9_followFrom 131 = .ok (.iload_n 1, 1) := by decide +kernel
theorem dX9_followFrom_132 : decode cX9_followFrom 132 = .ok (.laload, 1) := by decide +kernel
theorem dX9_followFrom_133 : decode cX9_followFrom 133 = .ok (.ladd, 1) := by decide +kernel
theorem dX9_followFrom_134 : decode cX9_followFrom 134 = .ok (.putfield 77, 3) := by decide +kernel
theorem dX9_followFrom_137 : decode cX9_followFrom 137 = .ok (.goto 35, 3) := by decide +kernel
theorem dX9_followFrom_140 : decode cX9_followFrom 140 = .ok (.aload_n 0, 1) := by decide +kernel
theorem dX9_followFrom_141 : decode cX9_followFrom 141 = .ok (.iload_n 2, 1) := by decide +kernel
theorem dX9_followFrom_142 : decode cX9_followFrom 142 = .ok (.iload 6, 2) := by decide +kernel
theorem dX9_followFrom_144 : decode cX9_followFrom 144 = .ok (.invokevirtual 99, 3) := by decide +kernel
theorem dX9_followFrom_147 : decode cX9_followFrom 147 = .ok (.istore 7, 2) := by decide +kernel
theorem dX9_followFrom_149 : decode cX9_followFrom 149 = .ok (.iload 7, 2) := by decide +kernel
theorem dX9_followFrom_151 : decode cX9_followFrom 151 = .ok (.ifCond .ge 5, 3) := by decide +kernel
theorem dX9_followFrom_154 : decode cX9_followFrom 154 = .ok (.iconst 0, 1) := by decide +kernel
theorem dX9_followFrom_155 : decode cX9_followFrom 155 = .ok (.ireturn, 1) := by decide +kernel
theorem dX9_followFrom_156 : decode cX9_followFrom 156 = .ok (.aload_n 0, 1) := by decide +kernel
theorem dX9_followFrom_157 : decode cX9_followFrom 157 = .ok (.getfield 46, 3) := by decide +kernel
theorem dX9_followFrom_160 : decode cX9_followFrom 160 = .ok (.iload 7, 2) := by decide +kernel
theorem dX9_followFrom_162 : decode cX9_followFrom 162 = .ok (.dup2, 1) := by decide +kernel
theorem dX9_followFrom_163 : decode cX9_followFrom 163 = .ok (.laload, 1) := by decide +kernel
theorem dX9_followFrom_164 : decode cX9_followFrom 164 = .ok (.aload_n 0, 1) := by decide +kernel
theorem dX9_followFrom_165 : decode cX9_followFrom 165 = .ok (.getfield 46, 3) := by decide +kernel
theorem dX9_followFrom_168 : decode cX9_followFrom 168 = .ok (.iload_n 1, 1) := by decide +kernel
theorem dX9_followFrom_169 : decode cX9_followFrom 169 = .ok (.laload, 1) := by decide +kernel
theorem dX9_followFrom_170 : decode cX9_followFrom 170 = .ok (.ladd, 1) := by decide +kernel
theorem dX9_followFrom_171 : decode cX9_followFrom 171 = .ok (.lastore, 1) := by decide +kernel
theorem dX9_followFrom_172 : decode cX9_followFrom 172 = .ok (.iinc 5 1, 3) := by decide +kernel
theorem dX9_followFrom_175 : decode cX9_followFrom 175 = .ok (.goto (-172), 3) := by decide +kernel
theorem dX9_followFrom_178 : decode cX9_followFrom 178 = .ok (.iconst 1, 1) := by decide +kernel
theorem dX9_followFrom_179 : decode cX9_followFrom 179 = .ok (.ireturn, 1) := by decide +kernel
theorem dX9_tellSteps_0 : decode cX9_tellSteps 0 = .ok (.iconst 0, 1) := by decide +kernel
theorem dX9_tellSteps_1 : decode cX9_tellSteps 1 = .ok (.istore_n 3, 1) := by decide +kernel
theorem dX9_tellSteps_2 : decode cX9_tellSteps 2 = .ok (.iload_n 1, 1) := by decide +kernel
theorem dX9_tellSteps_3 : decode cX9_tellSteps 3 = .ok (.istore 4, 2) := by decide +kernel
theorem dX9_tellSteps_5 : decode cX9_tellSteps 5 = .ok (.iload 4, 2) := by decide +kernel
theorem dX9_tellSteps_7 : decode cX9_tellSteps 7 = .ok (.ifCond .lt 26, 3) := by decide +kernel
theorem dX9_tellSteps_10 : decode cX9_tellSteps 10 = .ok (.iload_n 3, 1) := by decide +kernel
theorem dX9_tellSteps_11 : decode cX9_tellSteps 11 = .ok (.bipush 20, 2) := by decide +kernel
theorem dX9_tellSteps_13 : decode cX9_tellSteps 13 = .ok (.if_icmp .ge 20, 3) := by decide +kernel
theorem dX9_tellSteps_16 : decode cX9_tellSteps 16 = .ok (.iinc 3 1, 3) := by decide +kernel
theorem dX9_tellSteps_19 : decode cX9_tellSteps 19 = .ok (.aload_n 0, 1) := by decide +kernel
theorem dX9_tellSteps_20 : decode cX9_tellSteps 20 = .ok (.getfield 32, 3) := by decide +kernel
theorem dX9_tellSteps_23 : decode cX9_tellSteps 23 = .ok (.iload 4, 2) := by decide +kernel
theorem dX9_tellSteps_25 : decode cX9_tellSteps 25 = .ok (.iconst 5, 1) := by decide +kernel
theorem dX9_tellSteps_26 : decode cX9_tellSteps 26 = .ok (.ishr, 1) := by decide +kernel
theorem dX9_tellSteps_27 : decode cX9_tellSteps 27 = .ok (.iaload, 1) := by decide +kernel
theorem dX9_tellSteps_28 : decode cX9_tellSteps 28 = .ok (.istore 4, 2) := by decide +kernel
theorem dX9_tellSteps_30 : decode cX9_tellSteps 30 = .ok (.goto (-25), 3) := by decide +kernel
theorem dX9_tellSteps_33 : decode cX9_tellSteps 33 = .ok (.aload_n 2, 1) := by decide +kernel
theorem dX9_tellSteps_34 : decode cX9_tellSteps 34 = .ok (.iload_n 3, 1) := by decide +kernel
theorem dX9_tellSteps_35 : decode cX9_tellSteps 35 = .ok (.putfield 164, 3) := by decide +kernel
theorem dX9_tellSteps_38 : decode cX9_tellSteps 38 = .ok (.iload_n 1, 1) := by decide +kernel
theorem dX9_tellSteps_39 : decode cX9_tellSteps 39 = .ok (.istore 4, 2) := by decide +kernel
theorem dX9_tellSteps_41 : decode cX9_tellSteps 41 = .ok (.iload_n 3, 1) := by decide +kernel
theorem dX9_tellSteps_42 : decode cX9_tellSteps 42 = .ok (.iconst 1, 1) := by decide +kernel
theorem dX9_tellSteps_43 : decode cX9_tellSteps 43 = .ok (.isub, 1) := by decide +kernel
theorem dX9_tellSteps_44 : decode cX9_tellSteps 44 = .ok (.istore 5, 2) := by decide +kernel
theorem dX9_tellSteps_46 : decode cX9_tellSteps 46 = .ok (.iload 5, 2) := by decide +kernel
theorem dX9_tellSteps_48 : decode cX9_tellSteps 48 = .ok (.ifCond .lt 38, 3) := by decide +kernel
theorem dX9_tellSteps_51 : decode cX9_tellSteps 51 = .ok (.iload 4, 2) := by decide +kernel
theorem dX9_tellSteps_53 : decode cX9_tellSteps 53 = .ok (.ifCond .lt 33, 3) := by decide +kernel
theorem dX9_tellSteps_56 : decode cX9_tellSteps 56 = .ok (.aload_n 2, 1) := by decide +kernel
theorem dX9_tellSteps_57 : decode cX9_tellSteps 57 = .ok (.getfield 169, 3) := by decide +kernel
theorem dX9_tellSteps_60 : decode cX9_tellSteps 60 = .ok (.iload 5, 2) := by decide +kernel
theorem dX9_tellSteps_62 : decode cX9_tellSteps 62 = .ok (.iload 4, 2) := by decide +kernel
theorem dX9_tellSteps_64 : decode cX9_tellSteps 64 = .ok (.bipush 31, 2) := by decide +kernel
theorem dX9_tellSteps_66 : decode cX9_tellSteps 66 = .ok (.iand, 1) := by decide +kernel
theorem dX9_tellSteps_67 : decode cX9_tellSteps 67 = .ok (.i2l, 1) := by decide +kernel
theorem dX9_tellSteps_68 : decode cX9_tellSteps 68 = .ok (.lastore, 1) := by decide +kernel
theorem dX9_tellSteps_69 : decode cX9_tellSteps 69 = .ok (.aload_n 0, 1) := by decide +kernel
theorem dX9_tellSteps_70 : decode cX9_tellSteps 70 = .ok (.getfield 32, 3) := by decide +kernel
theorem dX9_tellSteps_73 : decode cX9_tellSteps 73 = .ok (.iload 4, 2) := by decide +kernel
theorem dX9_tellSteps_75 : decode cX9_tellSteps 75 = .ok (.iconst 5, 1) := by decide +kernel
theorem dX9_tellSteps_76 : decode cX9_tellSteps 76 = .ok (.ishr, 1) := by decide +kernel
theorem dX9_tellSteps_77 : decode cX9_tellSteps 77 = .ok (.iaload, 1) := by decide +kernel
theorem dX9_tellSteps_78 : decode cX9_tellSteps 78 = .ok (.istore 4, 2) := by decide +kernel
theorem dX9_tellSteps_80 : decode cX9_tellSteps 80 = .ok (.iinc 5 (-1), 3) := by decide +kernel
theorem dX9_tellSteps_83 : decode cX9_tellSteps 83 = .ok (.goto (-37), 3) := by decide +kernel
theorem dX9_tellSteps_86 : decode cX9_tellSteps 86 = .ok (.return_, 1) := by decide +kernel
theorem dJ6_bitCount_0f7a4_0 : decode cJ6_bitCount_0f7a4 0 = .ok (.iload_n 0, 1) := by decide +kernel
theorem dJ6_bitCount_0f7a4_1 : decode cJ6_bitCount_0f7a4 1 = .ok (.iload_n 0, 1) := by decide +kernel
theorem dJ6_bitCount_0f7a4_2 : decode cJ6_bitCount_0f7a4 2 = .ok (.iconst 1, 1) := by decide +kernel
theorem dJ6_bitCount_0f7a4_3 : decode cJ6_bitCount_0f7a4 3 = .ok (.iushr, 1) := by decide +kernel
theorem dJ6_bitCount_0f7a4_4 : decode cJ6_bitCount_0f7a4 4 = .ok (.ldc_w 265, 3) := by decide +kernel
theorem dJ6_bitCount_0f7a4_7 : decode cJ6_bitCount_0f7a4 7 = .ok (.iand, 1) := by decide +kernel
theorem dJ6_bitCount_0f7a4_8 : decode cJ6_bitCount_0f7a4 8 = .ok (.isub, 1) := by decide +kernel
theorem dJ6_bitCount_0f7a4_9 : decode cJ6_bitCount_0f7a4 9 = .ok (.istore_n 0, 1) := by decide +kernel
theorem dJ6_bitCount_0f7a4_10 : decode cJ6_bitCount_0f7a4 10 = .ok (.iload_n 0, 1) := by decide +kernel
theorem dJ6_bitCount_0f7a4_11 : decode cJ6_bitCount_0f7a4 11 = .ok (.ldc_w 266, 3) := by decide +kernel
theorem dJ6_bitCount_0f7a4_14 : decode cJ6_bitCount_0f7a4 14 = .ok (.iand, 1) := by decide +kernel
theorem dJ6_bitCount_0f7a4_15 : decode cJ6_bitCount_0f7a4 15 = .ok (.iload_n 0, 1) := by decide +kernel
theorem dJ6_bitCount_0f7a4_16 : decode cJ6_bitCount_0f7a4 16 = .ok (.iconst 2, 1) := by decide +kernel
theorem dJ6_bitCount_0f7a4_17 : decode cJ6_bitCount_0f7a4 17 = .ok (.iushr, 1) := by decide +kernel
theorem dJ6_bitCount_0f7a4_18 : decode cJ6_bitCount_0f7a4 18 = .ok (.ldc_w 266, 3) := by decide +kernel
theorem dJ6_bitCount_0f7a4_21 : decode cJ6_bitCount_0f7a4 21 = .ok (.iand, 1) := by decide +kernel
theorem dJ6_bitCount_0f7a4_22 : decode cJ6_bitCount_0f7a4 22 = .ok (.iadd, 1) := by decide +kernel
theorem dJ6_bitCount_0f7a4_23 : decode cJ6_bitCount_0f7a4 23 = .ok (.istore_n 0, 1) := by decide +kernel
theorem dJ6_bitCount_0f7a4_24 : decode cJ6_bitCount_0f7a4 24 = .ok (.iload_n 0, 1) := by decide +kernel
theorem dJ6_bitCount_0f7a4_25 : decode cJ6_bitCount_0f7a4 25 = .ok (.iload_n 0, 1) := by decide +kernel
theorem dJ6_bitCount_0f7a4_26 : decode cJ6_bitCount_0f7a4 26 = .ok (.iconst 4, 1) := by decide +kernel
theorem dJ6_bitCount_0f7a4_27 : decode cJ6_bitCount_0f7a4 27 = .ok (.iushr, 1) := by decide +kernel
theorem dJ6_bitCount_0f7a4_28 : decode cJ6_bitCount_0f7a4 28 = .ok (.iadd, 1) := by decide +kernel
theorem dJ6_bitCount_0f7a4_29 : decode cJ6_bitCount_0f7a4 29 = .ok (.ldc_w 267, 3) := by decide +kernel
theorem dJ6_bitCount_0f7a4_32 : decode cJ6_bitCount_0f7a4 32 = .ok (.iand, 1) := by decide +kernel
theorem dJ6_bitCount_0f7a4_33 : decode cJ6_bitCount_0f7a4 33 = .ok (.istore_n 0, 1) := by decide +kernel
theorem dJ6_bitCount_0f7a4_34 : decode cJ6_bitCount_0f7a4 34 = .ok (.iload_n 0, 1) := by decide +kernel
theorem dJ6_bitCount_0f7a4_35 : decode cJ6_bitCount_0f7a4 35 = .ok (.iload_n 0, 1) := by decide +kernel
theorem dJ6_bitCount_0f7a4_36 : decode cJ6_bitCount_0f7a4 36 = .ok (.bipush 8, 2) := by decide +kernel
theorem dJ6_bitCount_0f7a4_38 : decode cJ6_bitCount_0f7a4 38 = .ok (.iushr, 1) := by decide +kernel
theorem dJ6_bitCount_0f7a4_39 : decode cJ6_bitCount_0f7a4 39 = .ok (.iadd, 1) := by decide +kernel
theorem dJ6_bitCount_0f7a4_40 : decode cJ6_bitCount_0f7a4 40 = .ok (.istore_n 0, 1) := by decide +kernel
theorem dJ6_bitCount_0f7a4_41 : decode cJ6_bitCount_0f7a4 41 = .ok (.iload_n 0, 1) := by decide +kernel
theorem dJ6_bitCount_0f7a4_42 : decode cJ6_bitCount_0f7a4 42 = .ok (.iload_n 0, 1) := by decide +kernel
theorem dJ6_bitCount_0f7a4_43 : decode cJ6_bitCount_0f7a4 43 = .ok (.bipush 16, 2) := by decide +kernel
theorem dJ6_bitCount_0f7a4_45 : decode cJ6_bitCount_0f7a4 45 = .ok (.iushr, 1) := by decide +kernel
theorem dJ6_bitCount_0f7a4_46 : decode cJ6_bitCount_0f7a4 46 = .ok (.iadd, 1) := by decide +kernel
theorem dJ6_bitCount_0f7a4_47 : decode cJ6_bitCount_0f7a4 47 = .ok (.istore_n 0, 1) := by decide +kernel
theorem dJ6_bitCount_0f7a4_48 : decode cJ6_bitCount_0f7a4 48 = .ok (.iload_n 0, 1) := by decide +kernel
theorem dJ6_bitCount_0f7a4_49 : decode cJ6_bitCount_0f7a4 49 = .ok (.bipush 63, 2) := by decide +kernel
theorem dJ6_bitCount_0f7a4_51 : decode cJ6_bitCount_0f7a4 51 = .ok (.iand, 1) := by decide +kernel
theorem dJ6_bitCount_0f7a4_52 : decode cJ6_bitCount_0f7a4 52 = .ok (.ireturn, 1) := by decide +kernel
theorem dJ9_max_7cf53_0 : decode cJ9_max_7cf53 0 = .ok (.iload_n 0, 1) := by decide +kernel
theorem dJ9_max_7cf53_1 : decode cJ9_max_7cf53 1 = .ok (.iload_n 1, 1) := by decide +kernel
theorem dJ9_max_7cf53_2 : decode cJ9_max_7cf53 2 = .ok (.if_icmp .lt 7, 3) := by decide +kernel
theorem dJ9_max_7cf53_5 : decode cJ9_max_7cf53 5 = .ok (.iload_n 0, 1) := by decide +kernel
theorem dJ9_max_7cf53_6 : decode cJ9_max_7cf53 6 = .ok (.goto 4, 3) := by decide +kernel
theorem dJ9_max_7cf53_9 : decode cJ9_max_7cf53 9 = .ok (.iload_n 1, 1) := by decide +kernel
theorem dJ9_max_7cf53_10 : decode cJ9_max_7cf53 10 = .ok (.ireturn, 1) := by decide +kernel
theorem dJ9_min_7cf53_0 : decode cJ9_min_7cf53 0 = .ok (.iload_n 0, 1) := by decide +kernel
theorem dJ9_min_7cf53_1 : decode cJ9_min_7cf53 1 = .ok (.iload_n 1, 1) := by decide +kernel
theorem dJ9_min_7cf53_2 : decode cJ9_min_7cf53 2 = .ok (.if_icmp .gt 7, 3) := by decide +kernel
theorem dJ9_min_7cf53_5 : decode cJ9_min_7cf53 5 = .ok (.iload_n 0, 1) := by decide +kernel
theorem dJ9_min_7cf53_6 : decode cJ9_min_7cf53 6 = .ok (.goto 4, 3) := by decide +kernel
theorem dJ9_min_7cf53_9 : decode cJ9_min_7cf53 9 = .ok (.iload_n 1, 1) := by decide +kernel
theorem dJ9_min_7cf53_10 : decode cJ9_min_7cf53 10 = .ok (.ireturn, 1) := by decide +kernel
