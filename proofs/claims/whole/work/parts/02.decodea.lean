theorem dX0_init_0 : decode cX0_init 0 = .ok (.aload_n 0, 1) := by decide +kernel
theorem dX0_init_1 : decode cX0_init 1 = .ok (.invokespecial 3, 3) := by decide +kernel
theorem dX0_init_4 : decode cX0_init 4 = .ok (.aload_n 0, 1) := by decide +kernel
theorem dX0_init_5 : decode cX0_init 5 = .ok (.bipush 8, 2) := by decide +kernel
theorem dX0_init_7 : decode cX0_init 7 = .ok (.newarray .int, 2) := by decide +kernel
theorem dX0_init_9 : decode cX0_init 9 = .ok (.putfield 9, 3) := by decide +kernel
theorem dX0_init_12 : decode cX0_init 12 = .ok (.aload_n 0, 1) := by decide +kernel
theorem dX0_init_13 : decode cX0_init 13 = .ok (.bipush 96, 2) := by decide +kernel
theorem dX0_init_15 : decode cX0_init 15 = .ok (.newarray .int, 2) := by decide +kernel
theorem dX0_init_17 : decode cX0_init 17 = .ok (.putfield 15, 3) := by decide +kernel
theorem dX0_init_20 : decode cX0_init 20 = .ok (.aload_n 0, 1) := by decide +kernel
theorem dX0_init_21 : decode cX0_init 21 = .ok (.bipush 96, 2) := by decide +kernel
theorem dX0_init_23 : decode cX0_init 23 = .ok (.newarray .int, 2) := by decide +kernel
theorem dX0_init_25 : decode cX0_init 25 = .ok (.putfield 18, 3) := by decide +kernel
theorem dX0_init_28 : decode cX0_init 28 = .ok (.return_, 1) := by decide +kernel
theorem dX0_clear_0 : decode cX0_clear 0 = .ok (.aload_n 0, 1) := by decide +kernel
theorem dX0_clear_1 : decode cX0_clear 1 = .ok (.iconst 0, 1) := by decide +kernel
theorem dX0_clear_2 : decode cX0_clear 2 = .ok (.putfield 21, 3) := by decide +kernel
theorem dX0_clear_5 : decode cX0_clear 5 = .ok (.aload_n 0, 1) := by decide +kernel
theorem dX0_clear_6 : decode cX0_clear 6 = .ok (.iconst 0, 1) := by decide +kernel
theorem dX0_clear_7 : decode cX0_clear 7 = .ok (.putfield 25, 3) := by decide +kernel
theorem dX0_clear_10 : decode cX0_clear 10 = .ok (.aload_n 0, 1) := by decide +kernel
theorem dX0_clear_11 : decode cX0_clear 11 = .ok (.iconst 0, 1) := by decide +kernel
theorem dX0_clear_12 : decode cX0_clear 12 = .ok (.putfield 28, 3) := by decide +kernel
theorem dX0_clear_15 : decode cX0_clear 15 = .ok (.return_, 1) := by decide +kernel
theorem dX0_copyFrom_0 : decode cX0_copyFrom 0 = .ok (.aload_n 1, 1) := by decide +kernel
theorem dX0_copyFrom_1 : decode cX0_copyFrom 1 = .ok (.getfield 9, 3) := by decide +kernel
theorem dX0_copyFrom_4 : decode cX0_copyFrom 4 = .ok (.iconst 0, 1) := by decide +kernel
theorem dX0_copyFrom_5 : decode cX0_copyFrom 5 = .ok (.aload_n 0, 1) := by decide +kernel
theorem dX0_copyFrom_6 : decode cX0_copyFrom 6 = .ok (.getfield 9, 3) := by decide +kernel
theorem dX0_copyFrom_9 : decode cX0_copyFrom 9 = .ok (.iconst 0, 1) := by decide +kernel
theorem dX0_copyFrom_10 : decode cX0_copyFrom 10 = .ok (.aload_n 0, 1) := by decide +kernel
theorem dX0_copyFrom_11 : decode cX0_copyFrom 11 = .ok (.getfield 9, 3) := by decide +kernel
theorem dX0_copyFrom_14 : decode cX0_copyFrom 14 = .ok (.arraylength, 1) := by decide +kernel
theorem dX0_copyFrom_15 : decode cX0_copyFrom 15 = .ok (.invokestatic 31, 3) := by decide +kernel
theorem dX0_copyFrom_18 : decode cX0_copyFrom 18 = .ok (.aload_n 1, 1) := by decide +kernel
theorem dX0_copyFrom_19 : decode cX0_copyFrom 19 = .ok (.getfield 15, 3) := by decide +kernel
theorem dX0_copyFrom_22 : decode cX0_copyFrom 22 = .ok (.iconst 0, 1) := by decide +kernel
theorem dX0_copyFrom_23 : decode cX0_copyFrom 23 = .ok (.aload_n 0, 1) := by decide +kernel
theorem dX0_copyFrom_24 : decode cX0_copyFrom 24 = .ok (.getfield 15, 3) := by decide +kernel
theorem dX0_copyFrom_27 : decode cX0_copyFrom 27 = .ok (.iconst 0, 1) := by decide +kernel
theorem dX0_copyFrom_28 : decode cX0_copyFrom 28 = .ok (.aload_n 0, 1) := by decide +kernel
theorem dX0_copyFrom_29 : decode cX0_copyFrom 29 = .ok (.getfield 15, 3) := by decide +kernel
theorem dX0_copyFrom_32 : decode cX0_copyFrom 32 = .ok (.arraylength, 1) := by decide +kernel
theorem dX0_copyFrom_33 : decode cX0_copyFrom 33 = .ok (.invokestatic 31, 3) := by decide +kernel
theorem dX0_copyFrom_36 : decode cX0_copyFrom 36 = .ok (.aload_n 1, 1) := by decide +kernel
theorem dX0_copyFrom_37 : decode cX0_copyFrom 37 = .ok (.getfield 18, 3) := by decide +kernel
theorem dX0_copyFrom_40 : decode cX0_copyFrom 40 = .ok (.iconst 0, 1) := by decide +kernel
theorem dX0_copyFrom_41 : decode cX0_copyFrom 41 = .ok (.aload_n 0, 1) := by decide +kernel
theorem dX0_copyFrom_42 : decode cX0_copyFrom 42 = .ok (.getfield 18, 3) := by decide +kernel
theorem dX0_copyFrom_45 : decode cX0_copyFrom 45 = .ok (.iconst 0, 1) := by decide +kernel
theorem dX0_copyFrom_46 : decode cX0_copyFrom 46 = .ok (.aload_n 0, 1) := by decide +kernel
theorem dX0_copyFrom_47 : decode cX0_copyFrom 47 = .ok (.getfield 18, 3) := by decide +kernel
theorem dX0_copyFrom_50 : decode cX0_copyFrom 50 = .ok (.arraylength, 1) := by decide +kernel
theorem dX0_copyFrom_51 : decode cX0_copyFrom 51 = .ok (.invokestatic 31, 3) := by decide +kernel
theorem dX0_copyFrom_54 : decode cX0_copyFrom 54 = .ok (.aload_n 0, 1) := by decide +kernel
theorem dX0_copyFrom_55 : decode cX0_copyFrom 55 = .ok (.aload_n 1, 1) := by decide +kernel
theorem dX0_copyFrom_56 : decode cX0_copyFrom 56 = .ok (.getfield 21, 3) := by decide +kernel
theorem dX0_copyFrom_59 : decode cX0_copyFrom 59 = .ok (.putfield 21, 3) := by decide +kernel
theorem dX0_copyFrom_62 : decode cX0_copyFrom 62 = .ok (.aload_n 0, 1) := by decide +kernel
theorem dX0_copyFrom_63 : decode cX0_copyFrom 63 = .ok (.aload_n 1, 1) := by decide +kernel
theorem dX0_copyFrom_64 : decode cX0_copyFrom 64 = .ok (.getfield 25, 3) := by decide +kernel
theorem dX0_copyFrom_67 : decode cX0_copyFrom 67 = .ok (.putfield 25, 3) := by decide +kernel
theorem dX0_copyFrom_70 : decode cX0_copyFrom 70 = .ok (.aload_n 0, 1) := by decide +kernel
theorem dX0_copyFrom_71 : decode cX0_copyFrom 71 = .ok (.aload_n 1, 1) := by decide +kernel
theorem dX0_copyFrom_72 : decode cX0_copyFrom 72 = .ok (.getfield 28, 3) := by decide +kernel
theorem dX0_copyFrom_75 : decode cX0_copyFrom 75 = .ok (.putfield 28, 3) := by decide +kernel
theorem dX0_copyFrom_78 : decode cX0_copyFrom 78 = .ok (.return_, 1) := by decide +kernel
theorem dX0_hasNode_0 : decode cX0_hasNode 0 = .ok (.iload_n 1, 1) := by decide +kernel
theorem dX0_hasNode_1 : decode cX0_hasNode 1 = .ok (.ifCond .lt 15, 3) := by decide +kernel
theorem dX0_hasNode_4 : decode cX0_hasNode 4 = .ok (.iload_n 1, 1) := by decide +kernel
theorem dX0_hasNode_5 : decode cX0_hasNode 5 = .ok (.aload_n 0, 1) := by decide +kernel
theorem dX0_hasNode_6 : decode cX0_hasNode 6 = .ok (.getfield 21, 3) := by decide +kernel
theorem dX0_hasNode_9 : decode cX0_hasNode 9 = .ok (.if_icmp .ge 7, 3) := by decide +kernel
theorem dX0_hasNode_12 : decode cX0_hasNode 12 = .ok (.iconst 1, 1) := by decide +kernel
theorem dX0_hasNode_13 : decode cX0_hasNode 13 = .ok (.goto 4, 3) := by decide +kernel
theorem dX0_hasNode_16 : decode cX0_hasNode 16 = .ok (.iconst 0, 1) := by decide +kernel
theorem dX0_hasNode_17 : decode cX0_hasNode 17 = .ok (.ireturn, 1) := by decide +kernel
theorem dX0_hasPair_0 : decode cX0_hasPair 0 = .ok (.aload_n 0, 1) := by decide +kernel
theorem dX0_hasPair_1 : decode cX0_hasPair 1 = .ok (.iload_n 1, 1) := by decide +kernel
theorem dX0_hasPair_2 : decode cX0_hasPair 2 = .ok (.invokevirtual 37, 3) := by decide +kernel
theorem dX0_hasPair_5 : decode cX0_hasPair 5 = .ok (.ifCond .eq 20, 3) := by decide +kernel
theorem dX0_hasPair_8 : decode cX0_hasPair 8 = .ok (.aload_n 0, 1) := by decide +kernel
theorem dX0_hasPair_9 : decode cX0_hasPair 9 = .ok (.iload_n 2, 1) := by decide +kernel
theorem dX0_hasPair_10 : decode cX0_hasPair 10 = .ok (.invokevirtual 37, 3) := by decide +kernel
theorem dX0_hasPair_13 : decode cX0_hasPair 13 = .ok (.ifCond .eq 12, 3) := by decide +kernel
theorem dX0_hasPair_16 : decode cX0_hasPair 16 = .ok (.iload_n 1, 1) := by decide +kernel
theorem dX0_hasPair_17 : decode cX0_hasPair 17 = .ok (.iload_n 2, 1) := by decide +kernel
theorem dX0_hasPair_18 : decode cX0_hasPair 18 = .ok (.if_icmp .eq 7, 3) := by decide +kernel
theorem dX0_hasPair_21 : decode cX0_hasPair 21 = .ok (.iconst 1, 1) := by decide +kernel
theorem dX0_hasPair_22 : decode cX0_hasPair 22 = .ok (.goto 4, 3) := by decide +kernel
theorem dX0_hasPair_25 : decode cX0_hasPair 25 = .ok (.iconst 0, 1) := by decide +kernel
theorem dX0_hasPair_26 : decode cX0_hasPair 26 = .ok (.ireturn, 1) := by decide +kernel
theorem dX0_hasLetter_0 : decode cX0_hasLetter 0 = .ok (.iload_n 1, 1) := by decide +kernel
theorem dX0_hasLetter_1 : decode cX0_hasLetter 1 = .ok (.ifCond .lt 15, 3) := by decide +kernel
theorem dX0_hasLetter_4 : decode cX0_hasLetter 4 = .ok (.iload_n 1, 1) := by decide +kernel
theorem dX0_hasLetter_5 : decode cX0_hasLetter 5 = .ok (.aload_n 0, 1) := by decide +kernel
theorem dX0_hasLetter_6 : decode cX0_hasLetter 6 = .ok (.getfield 28, 3) := by decide +kernel
theorem dX0_hasLetter_9 : decode cX0_hasLetter 9 = .ok (.if_icmp .ge 7, 3) := by decide +kernel
theorem dX0_hasLetter_12 : decode cX0_hasLetter 12 = .ok (.iconst 1, 1) := by decide +kernel
theorem dX0_hasLetter_13 : decode cX0_hasLetter 13 = .ok (.goto 4, 3) := by decide +kernel
theorem dX0_hasLetter_16 : decode cX0_hasLetter 16 = .ok (.iconst 0, 1) := by decide +kernel
theorem dX0_hasLetter_17 : decode cX0_hasLetter 17 = .ok (.ireturn, 1) := by decide +kernel
theorem dX0_ofMeeting_0 : decode cX0_ofMeeting 0 = .ok (.aload_n 0, 1) := by decide +kernel
theorem dX0_ofMeeting_1 : decode cX0_ofMeeting 1 = .ok (.getfield 15, 3) := by decide +kernel
theorem dX0_ofMeeting_4 : decode cX0_ofMeeting 4 = .ok (.iload_n 1, 1) := by decide +kernel
theorem dX0_ofMeeting_5 : decode cX0_ofMeeting 5 = .ok (.iconst 4, 1) := by decide +kernel
theorem dX0_ofMeeting_6 : decode cX0_ofMeeting 6 = .ok (.imul, 1) := by decide +kernel
theorem dX0_ofMeeting_7 : decode cX0_ofMeeting 7 = .ok (.iload_n 2, 1) := by decide +kernel
theorem dX0_ofMeeting_8 : decode cX0_ofMeeting 8 = .ok (.iadd, 1) := by decide +kernel
theorem dX0_ofMeeting_9 : decode cX0_ofMeeting 9 = .ok (.iaload, 1) := by decide +kernel
theorem dX0_ofMeeting_10 : decode cX0_ofMeeting 10 = .ok (.ireturn, 1) := by decide +kernel
theorem dX0_ofLetter_0 : decode cX0_ofLetter 0 = .ok (.aload_n 0, 1) := by decide +kernel
theorem dX0_ofLetter_1 : decode cX0_ofLetter 1 = .ok (.getfield 18, 3) := by decide +kernel
theorem dX0_ofLetter_4 : decode cX0_ofLetter 4 = .ok (.iload_n 1, 1) := by decide +kernel
theorem dX0_ofLetter_5 : decode cX0_ofLetter 5 = .ok (.bipush 6, 2) := by decide +kernel
theorem dX0_ofLetter_7 : decode cX0_ofLetter 7 = .ok (.imul, 1) := by decide +kernel
theorem dX0_ofLetter_8 : decode cX0_ofLetter 8 = .ok (.iload_n 2, 1) := by decide +kernel
theorem dX0_ofLetter_9 : decode cX0_ofLetter 9 = .ok (.iadd, 1) := by decide +kernel
theorem dX0_ofLetter_10 : decode cX0_ofLetter 10 = .ok (.iaload, 1) := by decide +kernel
theorem dX0_ofLetter_11 : decode cX0_ofLetter 11 = .ok (.ireturn, 1) := by decide +kernel
theorem dX0_endOf_0 : decode cX0_endOf 0 = .ok (.aload_n 0, 1) := by decide +kernel
theorem dX0_endOf_1 : decode cX0_endOf 1 = .ok (.getfield 18, 3) := by decide +kernel
theorem dX0_endOf_4 : decode cX0_endOf 4 = .ok (.iload_n 1, 1) := by decide +kernel
theorem dX0_endOf_5 : decode cX0_endOf 5 = .ok (.bipush 6, 2) := by decide +kernel
theorem dX0_endOf_7 : decode cX0_endOf 7 = .ok (.imul, 1) := by decide +kernel
theorem dX0_endOf_8 : decode cX0_endOf 8 = .ok (.iconst 0, 1) := by decide +kernel
theorem dX0_endOf_9 : decode cX0_endOf 9 = .ok (.iadd, 1) := by decide +kernel
theorem dX0_endOf_10 : decode cX0_endOf 10 = .ok (.iaload, 1) := by decide +kernel
theorem dX0_endOf_11 : decode cX0_endOf 11 = .ok (.aload_n 0, 1) := by decide +kernel
theorem dX0_endOf_12 : decode cX0_endOf 12 = .ok (.getfield 18, 3) := by decide +kernel
theorem dX0_endOf_15 : decode cX0_endOf 15 = .ok (.iload_n 1, 1) := by decide +kernel
theorem dX0_endOf_16 : decode cX0_endOf 16 = .ok (.bipush 6, 2) := by decide +kernel
theorem dX0_endOf_18 : decode cX0_endOf 18 = .ok (.imul, 1) := by decide +kernel
theorem dX0_endOf_19 : decode cX0_endOf 19 = .ok (.iconst 5, 1) := by decide +kernel
theorem dX0_endOf_20 : decode cX0_endOf 20 = .ok (.iadd, 1) := by decide +kernel
theorem dX0_endOf_21 : decode cX0_endOf 21 = .ok (.iaload, 1) := by decide +kernel
theorem dX0_endOf_22 : decode cX0_endOf 22 = .ok (.iadd, 1) := by decide +kernel
theorem dX0_endOf_23 : decode cX0_endOf 23 = .ok (.ireturn, 1) := by decide +kernel
theorem dX0_addNode_0 : decode cX0_addNode 0 = .ok (.aload_n 0, 1) := by decide +kernel
theorem dX0_addNode_1 : decode cX0_addNode 1 = .ok (.getfield 21, 3) := by decide +kernel
theorem dX0_addNode_4 : decode cX0_addNode 4 = .ok (.bipush 8, 2) := by decide +kernel
theorem dX0_addNode_6 : decode cX0_addNode 6 = .ok (.if_icmp .ge 23, 3) := by decide +kernel
theorem dX0_addNode_9 : decode cX0_addNode 9 = .ok (.aload_n 0, 1) := by decide +kernel
theorem dX0_addNode_10 : decode cX0_addNode 10 = .ok (.getfield 9, 3) := by decide +kernel
theorem dX0_addNode_13 : decode cX0_addNode 13 = .ok (.aload_n 0, 1) := by decide +kernel
theorem dX0_addNode_14 : decode cX0_addNode 14 = .ok (.getfield 21, 3) := by decide +kernel
theorem dX0_addNode_17 : decode cX0_addNode 17 = .ok (.iload_n 1, 1) := by decide +kernel
theorem dX0_addNode_18 : decode cX0_addNode 18 = .ok (.iastore, 1) := by decide +kernel
theorem dX0_addNode_19 : decode cX0_addNode 19 = .ok (.aload_n 0, 1) := by decide +kernel
theorem dX0_addNode_20 : decode cX0_addNode 20 = .ok (.dup, 1) := by decide +kernel
theorem dX0_addNode_21 : decode cX0_addNode 21 = .ok (.getfield 21, 3) := by decide +kernel
theorem dX0_addNode_24 : decode cX0_addNode 24 = .ok (.iconst 1, 1) := by decide +kernel
theorem dX0_addNode_25 : decode cX0_addNode 25 = .ok (.iadd, 1) := by decide +kernel
theorem dX0_addNode_26 : decode cX0_addNode 26 = .ok (.putfield 21, 3) := by decide +kernel
theorem dX0_addNode_29 : decode cX0_addNode 29 = .ok (.return_, 1) := by decide +kernel
theorem dX0_addMeeting_0 : decode cX0_addMeeting 0 = .ok (.aload_n 0, 1) := by decide +kernel
theorem dX0_addMeeting_1 : decode cX0_addMeeting 1 = .ok (.getfield 25, 3) := by decide +kernel
theorem dX0_addMeeting_4 : decode cX0_addMeeting 4 = .ok (.bipush 24, 2) := by decide +kernel
theorem dX0_addMeeting_6 : decode cX0_addMeeting 6 = .ok (.if_icmp .ge 62, 3) := by decide +kernel
theorem dX0_addMeeting_9 : decode cX0_addMeeting 9 = .ok (.aload_n 0, 1) := by decide +kernel
theorem dX0_addMeeting_10 : decode cX0_addMeeting 10 = .ok (.getfield 25, 3) := by decide +kernel
theorem dX0_addMeeting_13 : decode cX0_addMeeting 13 = .ok (.iconst 4, 1) := by decide +kernel
theorem dX0_addMeeting_14 : decode cX0_addMeeting 14 = .ok (.imul, 1) := by decide +kernel
theorem dX0_addMeeting_15 : decode cX0_addMeeting 15 = .ok (.istore 5, 2) := by decide +kernel
theorem dX0_addMeeting_17 : decode cX0_addMeeting 17 = .ok (.aload_n 0, 1) := by decide +kernel
theorem dX0_addMeeting_18 : decode cX0_addMeeting 18 = .ok (.getfield 15, 3) := by decide +kernel
theorem dX0_addMeeting_21 : decode cX0_addMeeting 21 = .ok (.iload 5, 2) := by decide +kernel
theorem dX0_addMeeting_23 : decode cX0_addMeeting 23 = .ok (.iconst 0, 1) := by decide +kernel
theorem dX0_addMeeting_24 : decode cX0_addMeeting 24 = .ok (.iadd, 1) := by decide +kernel
theorem dX0_addMeeting_25 : decode cX0_addMeeting 25 = .ok (.iload_n 1, 1) := by decide +kernel
theorem dX0_addMeeting_26 : decode cX0_addMeeting 26 = .ok (.iastore, 1) := by decide +kernel
theorem dX0_addMeeting_27 : decode cX0_addMeeting 27 = .ok (.aload_n 0, 1) := by decide +kernel
theorem dX0_addMeeting_28 : decode cX0_addMeeting 28 = .ok (.getfield 15, 3) := by decide +kernel
theorem dX0_addMeeting_31 : decode cX0_addMeeting 31 = .ok (.iload 5, 2) := by decide +kernel
theorem dX0_addMeeting_33 : decode cX0_addMeeting 33 = .ok (.iconst 1, 1) := by decide +kernel
theorem dX0_addMeeting_34 : decode cX0_addMeeting 34 = .ok (.iadd, 1) := by decide +kernel
theorem dX0_addMeeting_35 : decode cX0_addMeeting 35 = .ok (.iload_n 2, 1) := by decide +kernel
theorem dX0_addMeeting_36 : decode cX0_addMeeting 36 = .ok (.iastore, 1) := by decide +kernel
theorem dX0_addMeeting_37 : decode cX0_addMeeting 37 = .ok (.aload_n 0, 1) := by decide +kernel
theorem dX0_addMeeting_38 : decode cX0_addMeeting 38 = .ok (.getfield 15, 3) := by decide +kernel
theorem dX0_addMeeting_41 : decode cX0_addMeeting 41 = .ok (.iload 5, 2) := by decide +kernel
theorem dX0_addMeeting_43 : decode cX0_addMeeting 43 = .ok (.iconst 2, 1) := by decide +kernel
theorem dX0_addMeeting_44 : decode cX0_addMeeting 44 = .ok (.iadd, 1) := by decide +kernel
theorem dX0_addMeeting_45 : decode cX0_addMeeting 45 = .ok (.iload_n 3, 1) := by decide +kernel
theorem dX0_addMeeting_46 : decode cX0_addMeeting 46 = .ok (.iastore, 1) := by decide +kernel
theorem dX0_addMeeting_47 : decode cX0_addMeeting 47 = .ok (.aload_n 0, 1) := by decide +kernel
theorem dX0_addMeeting_48 : decode cX0_addMeeting 48 = .ok (.getfield 15, 3) := by decide +kernel
theorem dX0_addMeeting_51 : decode cX0_addMeeting 51 = .ok (.iload 5, 2) := by decide +kernel
theorem dX0_addMeeting_53 : decode cX0_addMeeting 53 = .ok (.iconst 3, 1) := by decide +kernel
theorem dX0_addMeeting_54 : decode cX0_addMeeting 54 = .ok (.iadd, 1) := by decide +kernel
theorem dX0_addMeeting_55 : decode cX0_addMeeting 55 = .ok (.iload 4, 2) := by decide +kernel
theorem dX0_addMeeting_57 : decode cX0_addMeeting 57 = .ok (.iastore, 1) := by decide +kernel
theorem dX0_addMeeting_58 : decode cX0_addMeeting 58 = .ok (.aload_n 0, 1) := by decide +kernel
theorem dX0_addMeeting_59 : decode cX0_addMeeting 59 = .ok (.dup, 1) := by decide +kernel
theorem dX0_addMeeting_60 : decode cX0_addMeeting 60 = .ok (.getfield 25, 3) := by decide +kernel
theorem dX0_addMeeting_63 : decode cX0_addMeeting 63 = .ok (.iconst 1, 1) := by decide +kernel
theorem dX0_addMeeting_64 : decode cX0_addMeeting 64 = .ok (.iadd, 1) := by decide +kernel
theorem dX0_addMeeting_65 : decode cX0_addMeeting 65 = .ok (.putfield 25, 3) := by decide +kernel
theorem dX0_addMeeting_68 : decode cX0_addMeeting 68 = .ok (.return_, 1) := by decide +kernel
theorem dX0_addLetter_0 : decode cX0_addLetter 0 = .ok (.aload_n 0, 1) := by decide +kernel
theorem dX0_addLetter_1 : decode cX0_addLetter 1 = .ok (.getfield 28, 3) := by decide +kernel
theorem dX0_addLetter_4 : decode cX0_addLetter 4 = .ok (.bipush 16, 2) := by decide +kernel
theorem dX0_addLetter_6 : decode cX0_addLetter 6 = .ok (.if_icmp .ge 85, 3) := by decide +kernel
theorem dX0_addLetter_9 : decode cX0_addLetter 9 = .ok (.aload_n 0, 1) := by decide +kernel
theorem dX0_addLetter_10 : decode cX0_addLetter 10 = .ok (.getfield 28, 3) := by decide +kernel
theorem dX0_addLetter_13 : decode cX0_addLetter 13 = .ok (.bipush 6, 2) := by decide +kernel
theorem dX0_addLetter_15 : decode cX0_addLetter 15 = .ok (.imul, 1) := by decide +kernel
theorem dX0_addLetter_16 : decode cX0_addLetter 16 = .ok (.istore 7, 2) := by decide +kernel
theorem dX0_addLetter_18 : decode cX0_addLetter 18 = .ok (.aload_n 0, 1) := by decide +kernel
theorem dX0_addLetter_19 : decode cX0_addLetter 19 = .ok (.getfield 18, 3) := by decide +kernel
theorem dX0_addLetter_22 : decode cX0_addLetter 22 = .ok (.iload 7, 2) := by decide +kernel
theorem dX0_addLetter_24 : decode cX0_addLetter 24 = .ok (.iconst 0, 1) := by decide +kernel
theorem dX0_addLetter_25 : decode cX0_addLetter 25 = .ok (.iadd, 1) := by decide +kernel
theorem dX0_addLetter_26 : decode cX0_addLetter 26 = .ok (.iload_n 1, 1) := by decide +kernel
theorem dX0_addLetter_27 : decode cX0_addLetter 27 = .ok (.iastore, 1) := by decide +kernel
theorem dX0_addLetter_28 : decode cX0_addLetter 28 = .ok (.aload_n 0, 1) := by decide +kernel
theorem dX0_addLetter_29 : decode cX0_addLetter 29 = .ok (.getfield 18, 3) := by decide +kernel
theorem dX0_addLetter_32 : decode cX0_addLetter 32 = .ok (.iload 7, 2) := by decide +kernel
theorem dX0_addLetter_34 : decode cX0_addLetter 34 = .ok (.iconst 1, 1) := by decide +kernel
theorem dX0_addLetter_35 : decode cX0_addLetter 35 = .ok (.iadd, 1) := by decide +kernel
theorem dX0_addLetter_36 : decode cX0_addLetter 36 = .ok (.iload_n 2, 1) := by decide +kernel
theorem dX0_addLetter_37 : decode cX0_addLetter 37 = .ok (.iastore, 1) := by decide +kernel
theorem dX0_addLetter_38 : decode cX0_addLetter 38 = .ok (.aload_n 0, 1) := by decide +kernel
theorem dX0_addLetter_39 : decode cX0_addLetter 39 = .ok (.getfield 18, 3) := by decide +kernel
theorem dX0_addLetter_42 : decode cX0_addLetter 42 = .ok (.iload 7, 2) := by decide +kernel
theorem dX0_addLetter_44 : decode cX0_addLetter 44 = .ok (.iconst 2, 1) := by decide +kernel
theorem dX0_addLetter_45 : decode cX0_addLetter 45 = .ok (.iadd, 1) := by decide +kernel
theorem dX0_addLetter_46 : decode cX0_addLetter 46 = .ok (.iload_n 3, 1) := by decide +kernel
theorem dX0_addLetter_47 : decode cX0_addLetter 47 = .ok (.iastore, 1) := by decide +kernel
theorem dX0_addLetter_48 : decode cX0_addLetter 48 = .ok (.aload_n 0, 1) := by decide +kernel
theorem dX0_addLetter_49 : decode cX0_addLetter 49 = .ok (.getfield 18, 3) := by decide +kernel
theorem dX0_addLetter_52 : decode cX0_addLetter 52 = .ok (.iload 7, 2) := by decide +kernel
theorem dX0_addLetter_54 : decode cX0_addLetter 54 = .ok (.iconst 3, 1) := by decide +kernel
theorem dX0_addLetter_55 : decode cX0_addLetter 55 = .ok (.iadd, 1) := by decide +kernel
theorem dX0_addLetter_56 : decode cX0_addLetter 56 = .ok (.iload 4, 2) := by decide +kernel
theorem dX0_addLetter_58 : decode cX0_addLetter 58 = .ok (.iastore, 1) := by decide +kernel
theorem dX0_addLetter_59 : decode cX0_addLetter 59 = .ok (.aload_n 0, 1) := by decide +kernel
theorem dX0_addLetter_60 : decode cX0_addLetter 60 = .ok (.getfield 18, 3) := by decide +kernel
theorem dX0_addLetter_63 : decode cX0_addLetter 63 = .ok (.iload 7, 2) := by decide +kernel
theorem dX0_addLetter_65 : decode cX0_addLetter 65 = .ok (.iconst 4, 1) := by decide +kernel
theorem dX0_addLetter_66 : decode cX0_addLetter 66 = .ok (.iadd, 1) := by decide +kernel
theorem dX0_addLetter_67 : decode cX0_addLetter 67 = .ok (.iload 5, 2) := by decide +kernel
theorem dX0_addLetter_69 : decode cX0_addLetter 69 = .ok (.iastore, 1) := by decide +kernel
theorem dX0_addLetter_70 : decode cX0_addLetter 70 = .ok (.aload_n 0, 1) := by decide +kernel
theorem dX0_addLetter_71 : decode cX0_addLetter 71 = .ok (.getfield 18, 3) := by decide +kernel
theorem dX0_addLetter_74 : decode cX0_addLetter 74 = .ok (.iload 7, 2) := by decide +kernel
theorem dX0_addLetter_76 : decode cX0_addLetter 76 = .ok (.iconst 5, 1) := by decide +kernel
theorem dX0_addLetter_77 : decode cX0_addLetter 77 = .ok (.iadd, 1) := by decide +kernel
theorem dX0_addLetter_78 : decode cX0_addLetter 78 = .ok (.iload 6, 2) := by decide +kernel
theorem dX0_addLetter_80 : decode cX0_addLetter 80 = .ok (.iastore, 1) := by decide +kernel
theorem dX0_addLetter_81 : decode cX0_addLetter 81 = .ok (.aload_n 0, 1) := by decide +kernel
theorem dX0_addLetter_82 : decode cX0_addLetter 82 = .ok (.dup, 1) := by decide +kernel
theorem dX0_addLetter_83 : decode cX0_addLetter 83 = .ok (.getfield 28, 3) := by decide +kernel
theorem dX0_addLetter_86 : decode cX0_addLetter 86 = .ok (.iconst 1, 1) := by decide +kernel
theorem dX0_addLetter_87 : decode cX0_addLetter 87 = .ok (.iadd, 1) := by decide +kernel
theorem dX0_addLetter_88 : decode cX0_addLetter 88 = .ok (.putfield 28, 3) := by decide +kernel
theorem dX0_addLetter_91 : decode cX0_addLetter 91 = .ok (.return_, 1) := by decide +kernel
theorem dX0_namesOnlyItsNodes_0 : decode cX0_namesOnlyItsNodes 0 = .ok (.iconst 0, 1) := by decide +kernel
theorem dX0_namesOnlyItsNodes_1 : decode cX0_namesOnlyItsNodes 1 = .ok (.istore_n 1, 1) := by decide +kernel
theorem dX0_namesOnlyItsNodes_2 : decode cX0_namesOnlyItsNodes 2 = .ok (.iload_n 1, 1) := by decide +kernel
theorem dX0_namesOnlyItsNodes_3 : decode cX0_namesOnlyItsNodes 3 = .ok (.aload_n 0, 1) := by decide +kernel
theorem dX0_namesOnlyItsNodes_4 : decode cX0_namesOnlyItsNodes 4 = .ok (.getfield 25, 3) := by decide +kernel
theorem dX0_namesOnlyItsNodes_7 : decode cX0_namesOnlyItsNodes 7 = .ok (.if_icmp .ge 37, 3) := by decide +kernel
theorem dX0_namesOnlyItsNodes_10 : decode cX0_namesOnlyItsNodes 10 = .ok (.aload_n 0, 1) := by decide +kernel
theorem dX0_namesOnlyItsNodes_11 : decode cX0_namesOnlyItsNodes 11 = .ok (.iload_n 1, 1) := by decide +kernel
theorem dX0_namesOnlyItsNodes_12 : decode cX0_namesOnlyItsNodes 12 = .ok (.iconst 1, 1) := by decide +kernel
theorem dX0_namesOnlyItsNodes_13 : decode cX0_namesOnlyItsNodes 13 = .ok (.invokevirtual 41, 3) := by decide +kernel
theorem dX0_namesOnlyItsNodes_16 : decode cX0_namesOnlyItsNodes 16 = .ok (.aload_n 0, 1) := by decide +kernel
theorem dX0_namesOnlyItsNodes_17 : decode cX0_namesOnlyItsNodes 17 = .ok (.getfield 21, 3) := by decide +kernel
theorem dX0_namesOnlyItsNodes_20 : decode cX0_namesOnlyItsNodes 20 = .ok (.if_icmp .ge 16, 3) := by decide +kernel
theorem dX0_namesOnlyItsNodes_23 : decode cX0_namesOnlyItsNodes 23 = .ok (.aload_n 0, 1) := by decide +kernel
theorem dX0_namesOnlyItsNodes_24 : decode cX0_namesOnlyItsNodes 24 = .ok (.iload_n 1, 1) := by decide +kernel
theorem dX0_namesOnlyItsNodes_25 : decode cX0_namesOnlyItsNodes 25 = .ok (.iconst 2, 1) := by decide +kernel
theorem dX0_namesOnlyItsNodes_26 : decode cX0_namesOnlyItsNodes 26 = .ok (.invokevirtual 41, 3) := by decide +kernel
theorem dX0_namesOnlyItsNodes_29 : decode cX0_namesOnlyItsNodes 29 = .ok (.aload_n 0, 1) := by decide +kernel
theorem dX0_namesOnlyItsNodes_30 : decode cX0_namesOnlyItsNodes 30 = .ok (.getfield 21, 3) := by decide +kernel
theorem dX0_namesOnlyItsNodes_33 : decode cX0_namesOnlyItsNodes 33 = .ok (.if_icmp .lt 5, 3) := by decide +kernel
theorem dX0_namesOnlyItsNodes_36 : decode cX0_namesOnlyItsNodes 36 = .ok (.iconst 0, 1) := by decide +kernel
theorem dX0_namesOnlyItsNodes_37 : decode cX0_namesOnlyItsNodes 37 = .ok (.ireturn, 1) := by decide +kernel
theorem dX0_namesOnlyItsNodes_38 : decode cX0_namesOnlyItsNodes 38 = .ok (.iinc 1 1, 3) := by decide +kernel
theorem dX0_namesOnlyItsNodes_41 : decode cX0_namesOnlyItsNodes 41 = .ok (.goto (-39), 3) := by decide +kernel
theorem dX0_namesOnlyItsNodes_44 : decode cX0_namesOnlyItsNodes 44 = .ok (.iconst 0, 1) := by decide +kernel
theorem dX0_namesOnlyItsNodes_45 : decode cX0_namesOnlyItsNodes 45 = .ok (.istore_n 1, 1) := by decide +kernel
theorem dX0_namesOnlyItsNodes_46 : decode cX0_namesOnlyItsNodes 46 = .ok (.iload_n 1, 1) := by decide +kernel
theorem dX0_namesOnlyItsNodes_47 : decode cX0_namesOnlyItsNodes 47 = .ok (.aload_n 0, 1) := by decide +kernel
theorem dX0_namesOnlyItsNodes_48 : decode cX0_namesOnlyItsNodes 48 = .ok (.getfield 28, 3) := by decide +kernel
theorem dX0_namesOnlyItsNodes_51 : decode cX0_namesOnlyItsNodes 51 = .ok (.if_icmp .ge 37, 3) := by decide +kernel
theorem dX0_namesOnlyItsNodes_54 : decode cX0_namesOnlyItsNodes 54 = .ok (.aload_n 0, 1) := by decide +kernel
theorem dX0_namesOnlyItsNodes_55 : decode cX0_namesOnlyItsNodes 55 = .ok (.iload_n 1, 1) := by decide +kernel
theorem dX0_namesOnlyItsNodes_56 : decode cX0_namesOnlyItsNodes 56 = .ok (.iconst 1, 1) := by decide +kernel
theorem dX0_namesOnlyItsNodes_57 : decode cX0_namesOnlyItsNodes 57 = .ok (.invokevirtual 45, 3) := by decide +kernel
theorem dX0_namesOnlyItsNodes_60 : decode cX0_namesOnlyItsNodes 60 = .ok (.aload_n 0, 1) := by decide +kernel
theorem dX0_namesOnlyItsNodes_61 : decode cX0_namesOnlyItsNodes 61 = .ok (.getfield 21, 3) := by decide +kernel
theorem dX0_namesOnlyItsNodes_64 : decode cX0_namesOnlyItsNodes 64 = .ok (.if_icmp .ge 16, 3) := by decide +kernel
theorem dX0_namesOnlyItsNodes_67 : decode cX0_namesOnlyItsNodes 67 = .ok (.aload_n 0, 1) := by decide +kernel
theorem dX0_namesOnlyItsNodes_68 : decode cX0_namesOnlyItsNodes 68 = .ok (.iload_n 1, 1) := by decide +kernel
theorem dX0_namesOnlyItsNodes_69 : decode cX0_namesOnlyItsNodes 69 = .ok (.iconst 2, 1) := by decide +kernel
theorem dX0_namesOnlyItsNodes_70 : decode cX0_namesOnlyItsNodes 70 = .ok (.invokevirtual 45, 3) := by decide +kernel
theorem dX0_namesOnlyItsNodes_73 : decode cX0_namesOnlyItsNodes 73 = .ok (.aload_n 0, 1) := by decide +kernel
theorem dX0_namesOnlyItsNodes_74 : decode cX0_namesOnlyItsNodes 74 = .ok (.getfield 21, 3) := by decide +kernel
theorem dX0_namesOnlyItsNodes_77 : decode cX0_namesOnlyItsNodes 77 = .ok (.if_icmp .lt 5, 3) := by decide +kernel
theorem dX0_namesOnlyItsNodes_80 : decode cX0_namesOnlyItsNodes 80 = .ok (.iconst 0, 1) := by decide +kernel
theorem dX0_namesOnlyItsNodes_81 : decode cX0_namesOnlyItsNodes 81 = .ok (.ireturn, 1) := by decide +kernel
theorem dX0_namesOnlyItsNodes_82 : decode cX0_namesOnlyItsNodes 82 = .ok (.iinc 1 1, 3) := by decide +kernel
theorem dX0_namesOnlyItsNodes_85 : decode cX0_namesOnlyItsNodes 85 = .ok (.goto (-39), 3) := by decide +kernel
theorem dX0_namesOnlyItsNodes_88 : decode cX0_namesOnlyItsNodes 88 = .ok (.iconst 1, 1) := by decide +kernel
theorem dX0_namesOnlyItsNodes_89 : decode cX0_namesOnlyItsNodes 89 = .ok (.ireturn, 1) := by decide +kernel
theorem dX0_isAt_0 : decode cX0_isAt 0 = .ok (.iload_n 2, 1) := by decide +kernel
theorem dX0_isAt_1 : decode cX0_isAt 1 = .ok (.aload_n 0, 1) := by decide +kernel
theorem dX0_isAt_2 : decode cX0_isAt 2 = .ok (.iload_n 1, 1) := by decide +kernel
theorem dX0_isAt_3 : decode cX0_isAt 3 = .ok (.iconst 0, 1) := by decide +kernel
theorem dX0_isAt_4 : decode cX0_isAt 4 = .ok (.invokevirtual 41, 3) := by decide +kernel
theorem dX0_isAt_7 : decode cX0_isAt 7 = .ok (.isub, 1) := by decide +kernel
theorem dX0_isAt_8 : decode cX0_isAt 8 = .ok (.istore 4, 2) := by decide +kernel
theorem dX0_isAt_10 : decode cX0_isAt 10 = .ok (.iload 4, 2) := by decide +kernel
theorem dX0_isAt_12 : decode cX0_isAt 12 = .ok (.ifCond .ne 5, 3) := by decide +kernel
theorem dX0_isAt_15 : decode cX0_isAt 15 = .ok (.iconst 1, 1) := by decide +kernel
theorem dX0_isAt_16 : decode cX0_isAt 16 = .ok (.ireturn, 1) := by decide +kernel
theorem dX0_isAt_17 : decode cX0_isAt 17 = .ok (.iload_n 3, 1) := by decide +kernel
theorem dX0_isAt_18 : decode cX0_isAt 18 = .ok (.ifCond .le 19, 3) := by decide +kernel
theorem dX0_isAt_21 : decode cX0_isAt 21 = .ok (.iload 4, 2) := by decide +kernel
theorem dX0_isAt_23 : decode cX0_isAt 23 = .ok (.ifCond .le 14, 3) := by decide +kernel
theorem dX0_isAt_26 : decode cX0_isAt 26 = .ok (.iload 4, 2) := by decide +kernel
theorem dX0_isAt_28 : decode cX0_isAt 28 = .ok (.iload_n 3, 1) := by decide +kernel
theorem dX0_isAt_29 : decode cX0_isAt 29 = .ok (.irem, 1) := by decide +kernel
theorem dX0_isAt_30 : decode cX0_isAt 30 = .ok (.ifCond .ne 7, 3) := by decide +kernel
theorem dX0_isAt_33 : decode cX0_isAt 33 = .ok (.iconst 1, 1) := by decide +kernel
theorem dX0_isAt_34 : decode cX0_isAt 34 = .ok (.goto 4, 3) := by decide +kernel
theorem dX0_isAt_37 : decode cX0_isAt 37 = .ok (.iconst 0, 1) := by decide +kernel
theorem dX0_isAt_38 : decode cX0_isAt 38 = .ok (.ireturn, 1) := by decide +kernel
theorem dX0_nextTime_0 : decode cX0_nextTime 0 = .ok (.aload_n 0, 1) := by decide +kernel
theorem dX0_nextTime_1 : decode cX0_nextTime 1 = .ok (.iload_n 1, 1) := by decide +kernel
theorem dX0_nextTime_2 : decode cX0_nextTime 2 = .ok (.iconst 0, 1) := by decide +kernel
theorem dX0_nextTime_3 : decode cX0_nextTime 3 = .ok (.invokevirtual 41, 3) := by decide +kernel
theorem dX0_nextTime_6 : decode cX0_nextTime 6 = .ok (.istore 4, 2) := by decide +kernel
theorem dX0_nextTime_8 : decode cX0_nextTime 8 = .ok (.iload 4, 2) := by decide +kernel
theorem dX0_nextTime_10 : decode cX0_nextTime 10 = .ok (.iload_n 2, 1) := by decide +kernel
theorem dX0_nextTime_11 : decode cX0_nextTime 11 = .ok (.if_icmp .le 6, 3) := by decide +kernel
theorem dX0_nextTime_14 : decode cX0_nextTime 14 = .ok (.iload 4, 2) := by decide +kernel
theorem dX0_nextTime_16 : decode cX0_nextTime 16 = .ok (.ireturn, 1) := by decide +kernel
theorem dX0_nextTime_17 : decode cX0_nextTime 17 = .ok (.iload_n 3, 1) := by decide +kernel
theorem dX0_nextTime_18 : decode cX0_nextTime 18 = .ok (.ifCond .gt 6, 3) := by decide +kernel
theorem dX0_nextTime_21 : decode cX0_nextTime 21 = .ok (.bipush (-4), 2) := by decide +kernel
theorem dX0_nextTime_23 : decode cX0_nextTime 23 = .ok (.ireturn, 1) := by decide +kernel
theorem dX0_nextTime_24 : decode cX0_nextTime 24 = .ok (.iload 4, 2) := by decide +kernel
theorem dX0_nextTime_26 : decode cX0_nextTime 26 = .ok (.iload_n 2, 1) := by decide +kernel
theorem dX0_nextTime_27 : decode cX0_nextTime 27 = .ok (.iload 4, 2) := by decide +kernel
theorem dX0_nextTime_29 : decode cX0_nextTime 29 = .ok (.isub, 1) := by decide +kernel
theorem dX0_nextTime_30 : decode cX0_nextTime 30 = .ok (.iload_n 3, 1) := by decide +kernel
theorem dX0_nextTime_31 : decode cX0_nextTime 31 = .ok (.idiv, 1) := by decide +kernel
theorem dX0_nextTime_32 : decode cX0_nextTime 32 = .ok (.iconst 1, 1) := by decide +kernel
theorem dX0_nextTime_33 : decode cX0_nextTime 33 = .ok (.iadd, 1) := by decide +kernel
theorem dX0_nextTime_34 : decode cX0_nextTime 34 = .ok (.iload_n 3, 1) := by decide +kernel
theorem dX0_nextTime_35 : decode cX0_nextTime 35 = .ok (.imul, 1) := by decide +kernel
theorem dX0_nextTime_36 : decode cX0_nextTime 36 = .ok (.iadd, 1) := by decide +kernel
theorem dX0_nextTime_37 : decode cX0_nextTime 37 = .ok (.ireturn, 1) := by decide +kernel
theorem dX1_init_0 : decode cX1_init 0 = .ok (.aload_n 0, 1) := by decide +kernel
theorem dX1_init_1 : decode cX1_init 1 = .ok (.invokespecial 3, 3) := by decide +kernel
theorem dX1_init_4 : decode cX1_init 4 = .ok (.aload_n 0, 1) := by decide +kernel
theorem dX1_init_5 : decode cX1_init 5 = .ok (.bipush 16, 2) := by decide +kernel
theorem dX1_init_7 : decode cX1_init 7 = .ok (.newarray .int, 2) := by decide +kernel
theorem dX1_init_9 : decode cX1_init 9 = .ok (.putfield 9, 3) := by decide +kernel
theorem dX1_init_12 : decode cX1_init 12 = .ok (.aload_n 0, 1) := by decide +kernel
theorem dX1_init_13 : decode cX1_init 13 = .ok (.bipush 8, 2) := by decide +kernel
theorem dX1_init_15 : decode cX1_init 15 = .ok (.newarray .boolean, 2) := by decide +kernel
theorem dX1_init_17 : decode cX1_init 17 = .ok (.putfield 15, 3) := by decide +kernel
theorem dX1_init_20 : decode cX1_init 20 = .ok (.aload_n 0, 1) := by decide +kernel
theorem dX1_init_21 : decode cX1_init 21 = .ok (.aload_n 1, 1) := by decide +kernel
theorem dX1_init_22 : decode cX1_init 22 = .ok (.putfield 19, 3) := by decide +kernel
theorem dX1_init_25 : decode cX1_init 25 = .ok (.aload_n 0, 1) := by decide +kernel
theorem dX1_init_26 : decode cX1_init 26 = .ok (.aload_n 1, 1) := by decide +kernel
theorem dX1_init_27 : decode cX1_init 27 = .ok (.getfield 23, 3) := by decide +kernel
theorem dX1_init_30 : decode cX1_init 30 = .ok (.putfield 29, 3) := by decide +kernel
theorem dX1_init_33 : decode cX1_init 33 = .ok (.return_, 1) := by decide +kernel
theorem dX1_passMinute_0 : decode cX1_passMinute 0 = .ok (.aload_n 0, 1) := by decide +kernel
theorem dX1_passMinute_1 : decode cX1_passMinute 1 = .ok (.getfield 19, 3) := by decide +kernel
theorem dX1_passMinute_4 : decode cX1_passMinute 4 = .ok (.dup, 1) := by decide +kernel
theorem dX1_passMinute_5 : decode cX1_passMinute 5 = .ok (.getfield 30, 3) := by decide +kernel
theorem dX1_passMinute_8 : decode cX1_passMinute 8 = .ok (.iconst 1, 1) := by decide +kernel
theorem dX1_passMinute_9 : decode cX1_passMinute 9 = .ok (.iadd, 1) := by decide +kernel
theorem dX1_passMinute_10 : decode cX1_passMinute 10 = .ok (.putfield 30, 3) := by decide +kernel
theorem dX1_passMinute_13 : decode cX1_passMinute 13 = .ok (.aload_n 0, 1) := by decide +kernel
theorem dX1_passMinute_14 : decode cX1_passMinute 14 = .ok (.invokevirtual 34, 3) := by decide +kernel
theorem dX1_passMinute_17 : decode cX1_passMinute 17 = .ok (.iconst 0, 1) := by decide +kernel
theorem dX1_passMinute_18 : decode cX1_passMinute 18 = .ok (.istore_n 1, 1) := by decide +kernel
theorem dX1_passMinute_19 : decode cX1_passMinute 19 = .ok (.iload_n 1, 1) := by decide +kernel
theorem dX1_passMinute_20 : decode cX1_passMinute 20 = .ok (.aload_n 0, 1) := by decide +kernel
theorem dX1_passMinute_21 : decode cX1_passMinute 21 = .ok (.getfield 29, 3) := by decide +kernel
theorem dX1_passMinute_24 : decode cX1_passMinute 24 = .ok (.getfield 37, 3) := by decide +kernel
theorem dX1_passMinute_27 : decode cX1_passMinute 27 = .ok (.if_icmp .ge 33, 3) := by decide +kernel
theorem dX1_passMinute_30 : decode cX1_passMinute 30 = .ok (.aload_n 0, 1) := by decide +kernel
theorem dX1_passMinute_31 : decode cX1_passMinute 31 = .ok (.getfield 29, 3) := by decide +kernel
theorem dX1_passMinute_34 : decode cX1_passMinute 34 = .ok (.iload_n 1, 1) := by decide +kernel
theorem dX1_passMinute_35 : decode cX1_passMinute 35 = .ok (.iconst 0, 1) := by decide +kernel
theorem dX1_passMinute_36 : decode cX1_passMinute 36 = .ok (.invokevirtual 42, 3) := by decide +kernel
theorem dX1_passMinute_39 : decode cX1_passMinute 39 = .ok (.aload_n 0, 1) := by decide +kernel
theorem dX1_passMinute_40 : decode cX1_passMinute 40 = .ok (.getfield 19, 3) := by decide +kernel
theorem dX1_passMinute_43 : decode cX1_passMinute 43 = .ok (.getfield 30, 3) := by decide +kernel
theorem dX1_passMinute_46 : decode cX1_passMinute 46 = .ok (.if_icmp .ne 8, 3) := by decide +kernel
theorem dX1_passMinute_49 : decode cX1_passMinute 49 = .ok (.aload_n 0, 1) := by decide +kernel
theorem dX1_passMinute_50 : decode cX1_passMinute 50 = .ok (.iload_n 1, 1) := by decide +kernel
theorem dX1_passMinute_51 : decode cX1_passMinute 51 = .ok (.invokevirtual 46, 3) := by decide +kernel
theorem dX1_passMinute_54 : decode cX1_passMinute 54 = .ok (.iinc 1 1, 3) := by decide +kernel
theorem dX1_passMinute_57 : decode cX1_passMinute 57 = .ok (.goto (-38), 3) := by decide +kernel
theorem dX1_passMinute_60 : decode cX1_passMinute 60 = .ok (.iconst 0, 1) := by decide +kernel
theorem dX1_passMinute_61 : decode cX1_passMinute 61 = .ok (.istore_n 1, 1) := by decide +kernel
theorem dX1_passMinute_62 : decode cX1_passMinute 62 = .ok (.iload_n 1, 1) := by decide +kernel
theorem dX1_passMinute_63 : decode cX1_passMinute 63 = .ok (.aload_n 0, 1) := by decide +kernel
theorem dX1_passMinute_64 : decode cX1_passMinute 64 = .ok (.getfield 29, 3) := by decide +kernel
theorem dX1_passMinute_67 : decode cX1_passMinute 67 = .ok (.getfield 50, 3) := by decide +kernel
theorem dX1_passMinute_70 : decode cX1_passMinute 70 = .ok (.if_icmp .ge 67, 3) := by decide +kernel
theorem dX1_passMinute_73 : decode cX1_passMinute 73 = .ok (.aload_n 0, 1) := by decide +kernel
theorem dX1_passMinute_74 : decode cX1_passMinute 74 = .ok (.getfield 29, 3) := by decide +kernel
theorem dX1_passMinute_77 : decode cX1_passMinute 77 = .ok (.iload_n 1, 1) := by decide +kernel
theorem dX1_passMinute_78 : decode cX1_passMinute 78 = .ok (.aload_n 0, 1) := by decide +kernel
theorem dX1_passMinute_79 : decode cX1_passMinute 79 = .ok (.getfield 19, 3) := by decide +kernel
theorem dX1_passMinute_82 : decode cX1_passMinute 82 = .ok (.getfield 30, 3) := by decide +kernel
theorem dX1_passMinute_85 : decode cX1_passMinute 85 = .ok (.aload_n 0, 1) := by decide +kernel
theorem dX1_passMinute_86 : decode cX1_passMinute 86 = .ok (.getfield 19, 3) := by decide +kernel
theorem dX1_passMinute_89 : decode cX1_passMinute 89 = .ok (.getfield 53, 3) := by decide +kernel
theorem dX1_passMinute_92 : decode cX1_passMinute 92 = .ok (.iconst 0, 1) := by decide +kernel
theorem dX1_passMinute_93 : decode cX1_passMinute 93 = .ok (.iaload, 1) := by decide +kernel
theorem dX1_passMinute_94 : decode cX1_passMinute 94 = .ok (.invokevirtual 56, 3) := by decide +kernel
theorem dX1_passMinute_97 : decode cX1_passMinute 97 = .ok (.ifCond .eq 34, 3) := by decide +kernel
theorem dX1_passMinute_100 : decode cX1_passMinute 100 = .ok (.aload_n 0, 1) := by decide +kernel
theorem dX1_passMinute_101 : decode cX1_passMinute 101 = .ok (.aload_n 0, 1) := by decide +kernel
theorem dX1_passMinute_102 : decode cX1_passMinute 102 = .ok (.getfield 29, 3) := by decide +kernel
theorem dX1_passMinute_105 : decode cX1_passMinute 105 = .ok (.iload_n 1, 1) := by decide +kernel
theorem dX1_passMinute_106 : decode cX1_passMinute 106 = .ok (.iconst 1, 1) := by decide +kernel
theorem dX1_passMinute_107 : decode cX1_passMinute 107 = .ok (.invokevirtual 60, 3) := by decide +kernel
theorem dX1_passMinute_110 : decode cX1_passMinute 110 = .ok (.aload_n 0, 1) := by decide +kernel
theorem dX1_passMinute_111 : decode cX1_passMinute 111 = .ok (.getfield 29, 3) := by decide +kernel
theorem dX1_passMinute_114 : decode cX1_passMinute 114 = .ok (.iload_n 1, 1) := by decide +kernel
theorem dX1_passMinute_115 : decode cX1_passMinute 115 = .ok (.iconst 2, 1) := by decide +kernel
theorem dX1_passMinute_116 : decode cX1_passMinute 116 = .ok (.invokevirtual 60, 3) := by decide +kernel
theorem dX1_passMinute_119 : decode cX1_passMinute 119 = .ok (.aload_n 0, 1) := by decide +kernel
theorem dX1_passMinute_120 : decode cX1_passMinute 120 = .ok (.getfield 29, 3) := by decide +kernel
theorem dX1_passMinute_123 : decode cX1_passMinute 123 = .ok (.iload_n 1, 1) := by decide +kernel
theorem dX1_passMinute_124 : decode cX1_passMinute 124 = .ok (.iconst 3, 1) := by decide +kernel
theorem dX1_passMinute_125 : decode cX1_passMinute 125 = .ok (.invokevirtual 60, 3) := by decide +kernel
theorem dX1_passMinute_128 : decode cX1_passMinute 128 = .ok (.invokevirtual 63, 3) := by decide +kernel
theorem dX1_passMinute_131 : decode cX1_passMinute 131 = .ok (.iinc 1 1, 3) := by decide +kernel
theorem dX1_passMinute_134 : decode cX1_passMinute 134 = .ok (.goto (-72), 3) := by decide +kernel
theorem dX1_passMinute_137 : decode cX1_passMinute 137 = .ok (.return_, 1) := by decide +kernel
theorem dX1_expire_0 : decode cX1_expire 0 = .ok (.iconst 0, 1) := by decide +kernel
theorem dX1_expire_1 : decode cX1_expire 1 = .ok (.istore_n 1, 1) := by decide +kernel
theorem dX1_expire_2 : decode cX1_expire 2 = .ok (.iload_n 1, 1) := by decide +kernel
theorem dX1_expire_3 : decode cX1_expire 3 = .ok (.aload_n 0, 1) := by decide +kernel
theorem dX1_expire_4 : decode cX1_expire 4 = .ok (.getfield 29, 3) := by decide +kernel
theorem dX1_expire_7 : decode cX1_expire 7 = .ok (.getfield 37, 3) := by decide +kernel
theorem dX1_expire_10 : decode cX1_expire 10 = .ok (.if_icmp .ge 83, 3) := by decide +kernel
theorem dX1_expire_13 : decode cX1_expire 13 = .ok (.aload_n 0, 1) := by decide +kernel
theorem dX1_expire_14 : decode cX1_expire 14 = .ok (.getfield 29, 3) := by decide +kernel
theorem dX1_expire_17 : decode cX1_expire 17 = .ok (.iload_n 1, 1) := by decide +kernel
theorem dX1_expire_18 : decode cX1_expire 18 = .ok (.invokevirtual 67, 3) := by decide +kernel
theorem dX1_expire_21 : decode cX1_expire 21 = .ok (.aload_n 0, 1) := by decide +kernel
theorem dX1_expire_22 : decode cX1_expire 22 = .ok (.getfield 19, 3) := by decide +kernel
theorem dX1_expire_25 : decode cX1_expire 25 = .ok (.getfield 30, 3) := by decide +kernel
theorem dX1_expire_28 : decode cX1_expire 28 = .ok (.if_icmp .eq 6, 3) := by decide +kernel
theorem dX1_expire_31 : decode cX1_expire 31 = .ok (.goto 56, 3) := by decide +kernel
theorem dX1_expire_34 : decode cX1_expire 34 = .ok (.iconst 0, 1) := by decide +kernel
theorem dX1_expire_35 : decode cX1_expire 35 = .ok (.istore_n 2, 1) := by decide +kernel
theorem dX1_expire_36 : decode cX1_expire 36 = .ok (.iload_n 2, 1) := by decide +kernel
theorem dX1_expire_37 : decode cX1_expire 37 = .ok (.aload_n 0, 1) := by decide +kernel
theorem dX1_expire_38 : decode cX1_expire 38 = .ok (.getfield 29, 3) := by decide +kernel
theorem dX1_expire_41 : decode cX1_expire 41 = .ok (.getfield 71, 3) := by decide +kernel
theorem dX1_expire_44 : decode cX1_expire 44 = .ok (.if_icmp .ge 43, 3) := by decide +kernel
theorem dX1_expire_47 : decode cX1_expire 47 = .ok (.aload_n 0, 1) := by decide +kernel
theorem dX1_expire_48 : decode cX1_expire 48 = .ok (.getfield 19, 3) := by decide +kernel
theorem dX1_expire_51 : decode cX1_expire 51 = .ok (.iload_n 2, 1) := by decide +kernel
theorem dX1_expire_52 : decode cX1_expire 52 = .ok (.iload_n 1, 1) := by decide +kernel
theorem dX1_expire_53 : decode cX1_expire 53 = .ok (.invokevirtual 74, 3) := by decide +kernel
theorem dX1_expire_56 : decode cX1_expire 56 = .ok (.ifCond .eq 25, 3) := by decide +kernel
theorem dX1_expire_59 : decode cX1_expire 59 = .ok (.aload_n 0, 1) := by decide +kernel
theorem dX1_expire_60 : decode cX1_expire 60 = .ok (.getfield 19, 3) := by decide +kernel
theorem dX1_expire_63 : decode cX1_expire 63 = .ok (.iload_n 2, 1) := by decide +kernel
theorem dX1_expire_64 : decode cX1_expire 64 = .ok (.iload_n 1, 1) := by decide +kernel
theorem dX1_expire_65 : decode cX1_expire 65 = .ok (.invokevirtual 78, 3) := by decide +kernel
theorem dX1_expire_68 : decode cX1_expire 68 = .ok (.aload_n 0, 1) := by decide +kernel
theorem dX1_expire_69 : decode cX1_expire 69 = .ok (.getfield 19, 3) := by decide +kernel
theorem dX1_expire_72 : decode cX1_expire 72 = .ok (.getfield 82, 3) := by decide +kernel
theorem dX1_expire_75 : decode cX1_expire 75 = .ok (.iconst 4, 1) := by decide +kernel
theorem dX1_expire_76 : decode cX1_expire 76 = .ok (.dup2, 1) := by decide +kernel
theorem dX1_expire_77 : decode cX1_expire 77 = .ok (.iaload, 1) := by decide +kernel
theorem dX1_expire_78 : decode cX1_expire 78 = .ok (.iconst 1, 1) := by decide +kernel
theorem dX1_expire_79 : decode cX1_expire 79 = .ok (.iadd, 1) := by decide +kernel
theorem dX1_expire_80 : decode cX1_expire 80 = .ok (.iastore, 1) := by decide +kernel
theorem dX1_expire_81 : decode cX1_expire 81 = .ok (.iinc 2 1, 3) := by decide +kernel
theorem dX1_expire_84 : decode cX1_expire 84 = .ok (.goto (-48), 3) := by decide +kernel
theorem dX1_expire_87 : decode cX1_expire 87 = .ok (.iinc 1 1, 3) := by decide +kernel
theorem dX1_expire_90 : decode cX1_expire 90 = .ok (.goto (-88), 3) := by decide +kernel
theorem dX1_expire_93 : decode cX1_expire 93 = .ok (.return_, 1) := by decide +kernel
theorem dX1_bear_0 : decode cX1_bear 0 = .ok (.aload_n 0, 1) := by decide +kernel
theorem dX1_bear_1 : decode cX1_bear 1 = .ok (.getfield 29, 3) := by decide +kernel
theorem dX1_bear_4 : decode cX1_bear 4 = .ok (.iload_n 1, 1) := by decide +kernel
theorem dX1_bear_5 : decode cX1_bear 5 = .ok (.iconst 1, 1) := by decide +kernel
theorem dX1_bear_6 : decode cX1_bear 6 = .ok (.invokevirtual 42, 3) := by decide +kernel
theorem dX1_bear_9 : decode cX1_bear 9 = .ok (.istore_n 2, 1) := by decide +kernel
theorem dX1_bear_10 : decode cX1_bear 10 = .ok (.aload_n 0, 1) := by decide +kernel
theorem dX1_bear_11 : decode cX1_bear 11 = .ok (.iload_n 2, 1) := by decide +kernel
theorem dX1_bear_12 : decode cX1_bear 12 = .ok (.iload_n 1, 1) := by decide +kernel
theorem dX1_bear_13 : decode cX1_bear 13 = .ok (.invokevirtual 85, 3) := by decide +kernel
theorem dX1_bear_16 : decode cX1_bear 16 = .ok (.ifCond .eq 17, 3) := by decide +kernel
theorem dX1_bear_19 : decode cX1_bear 19 = .ok (.aload_n 0, 1) := by decide +kernel
theorem dX1_bear_20 : decode cX1_bear 20 = .ok (.getfield 19, 3) := by decide +kernel
theorem dX1_bear_23 : decode cX1_bear 23 = .ok (.getfield 82, 3) := by decide +kernel
theorem dX1_bear_26 : decode cX1_bear 26 = .ok (.iconst 5, 1) := by decide +kernel
theorem dX1_bear_27 : decode cX1_bear 27 = .ok (.dup2, 1) := by decide +kernel
theorem dX1_bear_28 : decode cX1_bear 28 = .ok (.iaload, 1) := by decide +kernel
theorem dX1_bear_29 : decode cX1_bear 29 = .ok (.iconst 1, 1) := by decide +kernel
theorem dX1_bear_30 : decode cX1_bear 30 = .ok (.iadd, 1) := by decide +kernel
theorem dX1_bear_31 : decode cX1_bear 31 = .ok (.iastore, 1) := by decide +kernel
theorem dX1_bear_32 : decode cX1_bear 32 = .ok (.return_, 1) := by decide +kernel
theorem dX1_bear_33 : decode cX1_bear 33 = .ok (.aload_n 0, 1) := by decide +kernel
theorem dX1_bear_34 : decode cX1_bear 34 = .ok (.iload_n 2, 1) := by decide +kernel
theorem dX1_bear_35 : decode cX1_bear 35 = .ok (.iload_n 1, 1) := by decide +kernel
theorem dX1_bear_36 : decode cX1_bear 36 = .ok (.invokevirtual 88, 3) := by decide +kernel
theorem dX1_bear_39 : decode cX1_bear 39 = .ok (.aload_n 0, 1) := by decide +kernel
theorem dX1_bear_40 : decode cX1_bear 40 = .ok (.getfield 19, 3) := by decide +kernel
theorem dX1_bear_43 : decode cX1_bear 43 = .ok (.iload_n 2, 1) := by decide +kernel
theorem dX1_bear_44 : decode cX1_bear 44 = .ok (.iload_n 1, 1) := by decide +kernel
theorem dX1_bear_45 : decode cX1_bear 45 = .ok (.aload_n 0, 1) := by decide +kernel
theorem dX1_bear_46 : decode cX1_bear 46 = .ok (.getfield 29, 3) := by decide +kernel
theorem dX1_bear_49 : decode cX1_bear 49 = .ok (.iload_n 1, 1) := by decide +kernel
theorem dX1_bear_50 : decode cX1_bear 50 = .ok (.iconst 4, 1) := by decide +kernel
theorem dX1_bear_51 : decode cX1_bear 51 = .ok (.invokevirtual 42, 3) := by decide +kernel
theorem dX1_bear_54 : decode cX1_bear 54 = .ok (.iconst 0, 1) := by decide +kernel
theorem dX1_bear_55 : decode cX1_bear 55 = .ok (.invokevirtual 91, 3) := by decide +kernel
theorem dX1_bear_58 : decode cX1_bear 58 = .ok (.return_, 1) := by decide +kernel
theorem dX1_holdMeeting_0 : decode cX1_holdMeeting 0 = .ok (.aload_n 0, 1) := by decide +kernel
theorem dX1_holdMeeting_1 : decode cX1_holdMeeting 1 = .ok (.getfield 19, 3) := by decide +kernel
theorem dX1_holdMeeting_4 : decode cX1_holdMeeting 4 = .ok (.getfield 82, 3) := by decide +kernel
theorem dX1_holdMeeting_7 : decode cX1_holdMeeting 7 = .ok (.bipush 6, 2) := by decide +kernel
theorem dX1_holdMeeting_9 : decode cX1_holdMeeting 9 = .ok (.dup2, 1) := by decide +kernel
theorem dX1_holdMeeting_10 : decode cX1_holdMeeting 10 = .ok (.iaload, 1) := by decide +kernel
theorem dX1_holdMeeting_11 : decode cX1_holdMeeting 11 = .ok (.iconst 1, 1) := by decide +kernel
theorem dX1_holdMeeting_12 : decode cX1_holdMeeting 12 = .ok (.iadd, 1) := by decide +kernel
theorem dX1_holdMeeting_13 : decode cX1_holdMeeting 13 = .ok (.iastore, 1) := by decide +kernel
theorem dX1_holdMeeting_14 : decode cX1_holdMeeting 14 = .ok (.aload_n 0, 1) := by decide +kernel
theorem dX1_holdMeeting_15 : decode cX1_holdMeeting 15 = .ok (.iload_n 3, 1) := by decide +kernel
theorem dX1_holdMeeting_16 : decode cX1_holdMeeting 16 = .ok (.putfield 95, 3) := by decide +kernel
theorem dX1_holdMeeting_19 : decode cX1_holdMeeting 19 = .ok (.aload_n 0, 1) := by decide +kernel
theorem dX1_holdMeeting_20 : decode cX1_holdMeeting 20 = .ok (.iconst 0, 1) := by decide +kernel
theorem dX1_holdMeeting_21 : decode cX1_holdMeeting 21 = .ok (.putfield 98, 3) := by decide +kernel
theorem dX1_holdMeeting_24 : decode cX1_holdMeeting 24 = .ok (.aload_n 0, 1) := by decide +kernel
theorem dX1_holdMeeting_25 : decode cX1_holdMeeting 25 = .ok (.getfield 19, 3) := by decide +kernel
theorem dX1_holdMeeting_28 : decode cX1_holdMeeting 28 = .ok (.getfield 102, 3) := by decide +kernel
theorem dX1_holdMeeting_31 : decode cX1_holdMeeting 31 = .ok (.iload_n 1, 1) := by decide +kernel
theorem dX1_holdMeeting_32 : decode cX1_holdMeeting 32 = .ok (.iaload, 1) := by decide +kernel
theorem dX1_holdMeeting_33 : decode cX1_holdMeeting 33 = .ok (.aload_n 0, 1) := by decide +kernel
theorem dX1_holdMeeting_34 : decode cX1_holdMeeting 34 = .ok (.getfield 19, 3) := by decide +kernel
theorem dX1_holdMeeting_37 : decode cX1_holdMeeting 37 = .ok (.getfield 102, 3) := by decide +kernel
theorem dX1_holdMeeting_40 : decode cX1_holdMeeting 40 = .ok (.iload_n 2, 1) := by decide +kernel
theorem dX1_holdMeeting_41 : decode cX1_holdMeeting 41 = .ok (.iaload, 1) := by decide +kernel
theorem dX1_holdMeeting_42 : decode cX1_holdMeeting 42 = .ok (.ior, 1) := by decide +kernel
theorem dX1_holdMeeting_43 : decode cX1_holdMeeting 43 = .ok (.istore 4, 2) := by decide +kernel
theorem dX1_holdMeeting_45 : decode cX1_holdMeeting 45 = .ok (.aload_n 0, 1) := by decide +kernel
theorem dX1_holdMeeting_46 : decode cX1_holdMeeting 46 = .ok (.getfield 19, 3) := by decide +kernel
theorem dX1_holdMeeting_49 : decode cX1_holdMeeting 49 = .ok (.getfield 102, 3) := by decide +kernel
theorem dX1_holdMeeting_52 : decode cX1_holdMeeting 52 = .ok (.iload_n 1, 1) := by decide +kernel
theorem dX1_holdMeeting_53 : decode cX1_holdMeeting 53 = .ok (.iload 4, 2) := by decide +kernel
theorem dX1_holdMeeting_55 : decode cX1_holdMeeting 55 = .ok (.iastore, 1) := by decide +kernel
theorem dX1_holdMeeting_56 : decode cX1_holdMeeting 56 = .ok (.aload_n 0, 1) := by decide +kernel
theorem dX1_holdMeeting_57 : decode cX1_holdMeeting 57 = .ok (.getfield 19, 3) := by decide +kernel
theorem dX1_holdMeeting_60 : decode cX1_holdMeeting 60 = .ok (.getfield 102, 3) := by decide +kernel
theorem dX1_holdMeeting_63 : decode cX1_holdMeeting 63 = .ok (.iload_n 2, 1) := by decide +kernel
theorem dX1_holdMeeting_64 : decode cX1_holdMeeting 64 = .ok (.iload 4, 2) := by decide +kernel
theorem dX1_holdMeeting_66 : decode cX1_holdMeeting 66 = .ok (.iastore, 1) := by decide +kernel
theorem dX1_holdMeeting_67 : decode cX1_holdMeeting 67 = .ok (.aload_n 0, 1) := by decide +kernel
theorem dX1_holdMeeting_68 : decode cX1_holdMeeting 68 = .ok (.iload_n 1, 1) := by decide +kernel
theorem dX1_holdMeeting_69 : decode cX1_holdMeeting 69 = .ok (.invokevirtual 105, 3) := by decide +kernel
theorem dX1_holdMeeting_72 : decode cX1_holdMeeting 72 = .ok (.aload_n 0, 1) := by decide +kernel
theorem dX1_holdMeeting_73 : decode cX1_holdMeeting 73 = .ok (.iload_n 2, 1) := by decide +kernel
theorem dX1_holdMeeting_74 : decode cX1_holdMeeting 74 = .ok (.invokevirtual 105, 3) := by decide +kernel
theorem dX1_holdMeeting_77 : decode cX1_holdMeeting 77 = .ok (.aload_n 0, 1) := by decide +kernel
theorem dX1_holdMeeting_78 : decode cX1_holdMeeting 78 = .ok (.iload_n 1, 1) := by decide +kernel
theorem dX1_holdMeeting_79 : decode cX1_holdMeeting 79 = .ok (.iload_n 2, 1) := by decide +kernel
theorem dX1_holdMeeting_80 : decode cX1_holdMeeting 80 = .ok (.invokevirtual 108, 3) := by decide +kernel
theorem dX1_holdMeeting_83 : decode cX1_holdMeeting 83 = .ok (.aload_n 0, 1) := by decide +kernel
theorem dX1_holdMeeting_84 : decode cX1_holdMeeting 84 = .ok (.iload_n 2, 1) := by decide +kernel
theorem dX1_holdMeeting_85 : decode cX1_holdMeeting 85 = .ok (.iload_n 1, 1) := by decide +kernel
theorem dX1_holdMeeting_86 : decode cX1_holdMeeting 86 = .ok (.invokevirtual 108, 3) := by decide +kernel
theorem dX1_holdMeeting_89 : decode cX1_holdMeeting 89 = .ok (.aload_n 0, 1) := by decide +kernel
theorem dX1_holdMeeting_90 : decode cX1_holdMeeting 90 = .ok (.getfield 19, 3) := by decide +kernel
theorem dX1_holdMeeting_93 : decode cX1_holdMeeting 93 = .ok (.iload_n 1, 1) := by decide +kernel
theorem dX1_holdMeeting_94 : decode cX1_holdMeeting 94 = .ok (.iload_n 2, 1) := by decide +kernel
theorem dX1_holdMeeting_95 : decode cX1_holdMeeting 95 = .ok (.invokevirtual 111, 3) := by decide +kernel
theorem dX1_holdMeeting_98 : decode cX1_holdMeeting 98 = .ok (.return_, 1) := by decide +kernel
theorem dX1_cure_0 : decode cX1_cure 0 = .ok (.iconst 0, 1) := by decide +kernel
theorem dX1_cure_1 : decode cX1_cure 1 = .ok (.istore_n 2, 1) := by decide +kernel
theorem dX1_cure_2 : decode cX1_cure 2 = .ok (.iload_n 2, 1) := by decide +kernel
theorem dX1_cure_3 : decode cX1_cure 3 = .ok (.aload_n 0, 1) := by decide +kernel
theorem dX1_cure_4 : decode cX1_cure 4 = .ok (.getfield 29, 3) := by decide +kernel
theorem dX1_cure_7 : decode cX1_cure 7 = .ok (.getfield 37, 3) := by decide +kernel
theorem dX1_cure_10 : decode cX1_cure 10 = .ok (.if_icmp .ge 59, 3) := by decide +kernel
theorem dX1_cure_13 : decode cX1_cure 13 = .ok (.aload_n 0, 1) := by decide +kernel
theorem dX1_cure_14 : decode cX1_cure 14 = .ok (.getfield 19, 3) := by decide +kernel
theorem dX1_cure_17 : decode cX1_cure 17 = .ok (.getfield 102, 3) := by decide +kernel
theorem dX1_cure_20 : decode cX1_cure 20 = .ok (.iload_n 1, 1) := by decide +kernel
theorem dX1_cure_21 : decode cX1_cure 21 = .ok (.iaload, 1) := by decide +kernel
theorem dX1_cure_22 : decode cX1_cure 22 = .ok (.iload_n 2, 1) := by decide +kernel
theorem dX1_cure_23 : decode cX1_cure 23 = .ok (.ishr, 1) := by decide +kernel
theorem dX1_cure_24 : decode cX1_cure 24 = .ok (.iconst 1, 1) := by decide +kernel
theorem dX1_cure_25 : decode cX1_cure 25 = .ok (.iand, 1) := by decide +kernel
theorem dX1_cure_26 : decode cX1_cure 26 = .ok (.ifCond .eq 37, 3) := by decide +kernel
theorem dX1_cure_29 : decode cX1_cure 29 = .ok (.aload_n 0, 1) := by decide +kernel
theorem dX1_cure_30 : decode cX1_cure 30 = .ok (.getfield 19, 3) := by decide +kernel
theorem dX1_cure_33 : decode cX1_cure 33 = .ok (.iload_n 1, 1) := by decide +kernel
theorem dX1_cure_34 : decode cX1_cure 34 = .ok (.iload_n 2, 1) := by decide +kernel
theorem dX1_cure_35 : decode cX1_cure 35 = .ok (.invokevirtual 74, 3) := by decide +kernel
theorem dX1_cure_38 : decode cX1_cure 38 = .ok (.ifCond .eq 25, 3) := by decide +kernel
theorem dX1_cure_41 : decode cX1_cure 41 = .ok (.aload_n 0, 1) := by decide +kernel
theorem dX1_cure_42 : decode cX1_cure 42 = .ok (.getfield 19, 3) := by decide +kernel
theorem dX1_cure_45 : decode cX1_cure 45 = .ok (.iload_n 1, 1) := by decide +kernel
theorem dX1_cure_46 : decode cX1_cure 46 = .ok (.iload_n 2, 1) := by decide +kernel
theorem dX1_cure_47 : decode cX1_cure 47 = .ok (.invokevirtual 78, 3) := by decide +kernel
theorem dX1_cure_50 : decode cX1_cure 50 = .ok (.aload_n 0, 1) := by decide +kernel
theorem dX1_cure_51 : decode cX1_cure 51 = .ok (.getfield 19, 3) := by decide +kernel
theorem dX1_cure_54 : decode cX1_cure 54 = .ok (.getfield 82, 3) := by decide +kernel
theorem dX1_cure_57 : decode cX1_cure 57 = .ok (.iconst 3, 1) := by decide +kernel
theorem dX1_cure_58 : decode cX1_cure 58 = .ok (.dup2, 1) := by decide +kernel
theorem dX1_cure_59 : decode cX1_cure 59 = .ok (.iaload, 1) := by decide +kernel
theorem dX1_cure_60 : decode cX1_cure 60 = .ok (.iconst 1, 1) := by decide +kernel
theorem dX1_cure_61 : decode cX1_cure 61 = .ok (.iadd, 1) := by decide +kernel
theorem dX1_cure_62 : decode cX1_cure 62 = .ok (.iastore, 1) := by decide +kernel
theorem dX1_cure_63 : decode cX1_cure 63 = .ok (.iinc 2 1, 3) := by decide +kernel
theorem dX1_cure_66 : decode cX1_cure 66 = .ok (.goto (-64), 3) := by decide +kernel
theorem dX1_cure_69 : decode cX1_cure 69 = .ok (.return_, 1) := by decide +kernel
theorem dX1_handAll_0 : decode cX1_handAll 0 = .ok (.aload_n 0, 1) := by decide +kernel
theorem dX1_handAll_1 : decode cX1_handAll 1 = .ok (.iload_n 1, 1) := by decide +kernel
theorem dX1_handAll_2 : decode cX1_handAll 2 = .ok (.iload_n 2, 1) := by decide +kernel
theorem dX1_handAll_3 : decode cX1_handAll 3 = .ok (.invokevirtual 114, 3) := by decide +kernel
theorem dX1_handAll_6 : decode cX1_handAll 6 = .ok (.istore_n 3, 1) := by decide +kernel
theorem dX1_handAll_7 : decode cX1_handAll 7 = .ok (.iconst 0, 1) := by decide +kernel
theorem dX1_handAll_8 : decode cX1_handAll 8 = .ok (.istore 4, 2) := by decide +kernel
theorem dX1_handAll_10 : decode cX1_handAll 10 = .ok (.iload 4, 2) := by decide +kernel
theorem dX1_handAll_12 : decode cX1_handAll 12 = .ok (.iload_n 3, 1) := by decide +kernel
theorem dX1_handAll_13 : decode cX1_handAll 13 = .ok (.if_icmp .ge 70, 3) := by decide +kernel
theorem dX1_handAll_16 : decode cX1_handAll 16 = .ok (.aload_n 0, 1) := by decide +kernel
theorem dX1_handAll_17 : decode cX1_handAll 17 = .ok (.getfield 9, 3) := by decide +kernel
theorem dX1_handAll_20 : decode cX1_handAll 20 = .ok (.iload 4, 2) := by decide +kernel
theorem dX1_handAll_22 : decode cX1_handAll 22 = .ok (.iaload, 1) := by decide +kernel
theorem dX1_handAll_23 : decode cX1_handAll 23 = .ok (.istore 5, 2) := by decide +kernel
theorem dX1_handAll_25 : decode cX1_handAll 25 = .ok (.aload_n 0, 1) := by decide +kernel
theorem dX1_handAll_26 : decode cX1_handAll 26 = .ok (.iload_n 1, 1) := by decide +kernel
theorem dX1_handAll_27 : decode cX1_handAll 27 = .ok (.iload_n 2, 1) := by decide +kernel
theorem dX1_handAll_28 : decode cX1_handAll 28 = .ok (.iload 5, 2) := by decide +kernel
theorem dX1_handAll_30 : decode cX1_handAll 30 = .ok (.aload_n 0, 1) := by decide +kernel
theorem dX1_handAll_31 : decode cX1_handAll 31 = .ok (.getfield 95, 3) := by decide +kernel
theorem dX1_handAll_34 : decode cX1_handAll 34 = .ok (.invokevirtual 117, 3) := by decide +kernel
theorem dX1_handAll_37 : decode cX1_handAll 37 = .ok (.istore 6, 2) := by decide +kernel
theorem dX1_handAll_39 : decode cX1_handAll 39 = .ok (.iload 6, 2) := by decide +kernel
theorem dX1_handAll_41 : decode cX1_handAll 41 = .ok (.ifCond .ne 14, 3) := by decide +kernel
theorem dX1_handAll_44 : decode cX1_handAll 44 = .ok (.aload_n 0, 1) := by decide +kernel
theorem dX1_handAll_45 : decode cX1_handAll 45 = .ok (.iload_n 1, 1) := by decide +kernel
theorem dX1_handAll_46 : decode cX1_handAll 46 = .ok (.iload_n 2, 1) := by decide +kernel
theorem dX1_handAll_47 : decode cX1_handAll 47 = .ok (.iload 5, 2) := by decide +kernel
theorem dX1_handAll_49 : decode cX1_handAll 49 = .ok (.invokevirtual 121, 3) := by decide +kernel
theorem dX1_handAll_52 : decode cX1_handAll 52 = .ok (.goto 25, 3) := by decide +kernel
theorem dX1_handAll_55 : decode cX1_handAll 55 = .ok (.aload_n 0, 1) := by decide +kernel
theorem dX1_handAll_56 : decode cX1_handAll 56 = .ok (.getfield 98, 3) := by decide +kernel
theorem dX1_handAll_59 : decode cX1_handAll 59 = .ok (.ifCond .ne 18, 3) := by decide +kernel
theorem dX1_handAll_62 : decode cX1_handAll 62 = .ok (.aload_n 0, 1) := by decide +kernel
theorem dX1_handAll_63 : decode cX1_handAll 63 = .ok (.iconst 1, 1) := by decide +kernel
theorem dX1_handAll_64 : decode cX1_handAll 64 = .ok (.putfield 98, 3) := by decide +kernel
theorem dX1_handAll_67 : decode cX1_handAll 67 = .ok (.aload_n 0, 1) := by decide +kernel
theorem dX1_handAll_68 : decode cX1_handAll 68 = .ok (.iload_n 1, 1) := by decide +kernel
theorem dX1_handAll_69 : decode cX1_handAll 69 = .ok (.iload_n 2, 1) := by decide +kernel
theorem dX1_handAll_70 : decode cX1_handAll 70 = .ok (.iload 5, 2) := by decide +kernel
theorem dX1_handAll_72 : decode cX1_handAll 72 = .ok (.iload 6, 2) := by decide +kernel
theorem dX1_handAll_74 : decode cX1_handAll 74 = .ok (.invokevirtual 124, 3) := by decide +kernel
theorem dX1_handAll_77 : decode cX1_handAll 77 = .ok (.iinc 4 1, 3) := by decide +kernel
theorem dX1_handAll_80 : decode cX1_handAll 80 = .ok (.goto (-70), 3) := by decide +kernel
theorem dX1_handAll_83 : decode cX1_handAll 83 = .ok (.return_, 1) := by decide +kernel
theorem dX1_handOver_0 : decode cX1_handOver 0 = .ok (.aload_n 0, 1) := by decide +kernel
theorem dX1_handOver_1 : decode cX1_handOver 1 = .ok (.getfield 19, 3) := by decide +kernel
theorem dX1_handOver_4 : decode cX1_handOver 4 = .ok (.getfield 82, 3) := by decide +kernel
theorem dX1_handOver_7 : decode cX1_handOver 7 = .ok (.iconst 0, 1) := by decide +kernel
theorem dX1_handOver_8 : decode cX1_handOver 8 = .ok (.dup2, 1) := by decide +kernel
theorem dX1_handOver_9 : decode cX1_handOver 9 = .ok (.iaload, 1) := by decide +kernel
theorem dX1_handOver_10 : decode cX1_handOver 10 = .ok (.iconst 1, 1) := by decide +kernel
theorem dX1_handOver_11 : decode cX1_handOver 11 = .ok (.iadd, 1) := by decide +kernel
theorem dX1_handOver_12 : decode cX1_handOver 12 = .ok (.iastore, 1) := by decide +kernel
theorem dX1_handOver_13 : decode cX1_handOver 13 = .ok (.aload_n 0, 1) := by decide +kernel
theorem dX1_handOver_14 : decode cX1_handOver 14 = .ok (.dup, 1) := by decide +kernel
theorem dX1_handOver_15 : decode cX1_handOver 15 = .ok (.getfield 95, 3) := by decide +kernel
theorem dX1_handOver_18 : decode cX1_handOver 18 = .ok (.aload_n 0, 1) := by decide +kernel
theorem dX1_handOver_19 : decode cX1_handOver 19 = .ok (.getfield 29, 3) := by decide +kernel
theorem dX1_handOver_22 : decode cX1_handOver 22 = .ok (.iload_n 3, 1) := by decide +kernel
theorem dX1_handOver_23 : decode cX1_handOver 23 = .ok (.iconst 3, 1) := by decide +kernel
theorem dX1_handOver_24 : decode cX1_handOver 24 = .ok (.invokevirtual 42, 3) := by decide +kernel
theorem dX1_handOver_27 : decode cX1_handOver 27 = .ok (.isub, 1) := by decide +kernel
theorem dX1_handOver_28 : decode cX1_handOver 28 = .ok (.putfield 95, 3) := by decide +kernel
theorem dX1_handOver_31 : decode cX1_handOver 31 = .ok (.aload_n 0, 1) := by decide +kernel
theorem dX1_handOver_32 : decode cX1_handOver 32 = .ok (.getfield 29, 3) := by decide +kernel
theorem dX1_handOver_35 : decode cX1_handOver 35 = .ok (.iload_n 3, 1) := by decide +kernel
theorem dX1_handOver_36 : decode cX1_handOver 36 = .ok (.iconst 2, 1) := by decide +kernel
theorem dX1_handOver_37 : decode cX1_handOver 37 = .ok (.invokevirtual 42, 3) := by decide +kernel
theorem dX1_handOver_40 : decode cX1_handOver 40 = .ok (.iload_n 2, 1) := by decide +kernel
theorem dX1_handOver_41 : decode cX1_handOver 41 = .ok (.if_icmp .ne 11, 3) := by decide +kernel
theorem dX1_handOver_44 : decode cX1_handOver 44 = .ok (.aload_n 0, 1) := by decide +kernel
theorem dX1_handOver_45 : decode cX1_handOver 45 = .ok (.iload_n 1, 1) := by decide +kernel
theorem dX1_handOver_46 : decode cX1_handOver 46 = .ok (.iload_n 2, 1) := by decide +kernel
theorem dX1_handOver_47 : decode cX1_handOver 47 = .ok (.iload_n 3, 1) := by decide +kernel
theorem dX1_handOver_48 : decode cX1_handOver 48 = .ok (.invokevirtual 127, 3) := by decide +kernel
theorem dX1_handOver_51 : decode cX1_handOver 51 = .ok (.return_, 1) := by decide +kernel
theorem dX1_handOver_52 : decode cX1_handOver 52 = .ok (.aload_n 0, 1) := by decide +kernel
theorem dX1_handOver_53 : decode cX1_handOver 53 = .ok (.iload_n 2, 1) := by decide +kernel
theorem dX1_handOver_54 : decode cX1_handOver 54 = .ok (.iload_n 3, 1) := by decide +kernel
theorem dX1_handOver_55 : decode cX1_handOver 55 = .ok (.invokevirtual 88, 3) := by decide +kernel
theorem dX1_handOver_58 : decode cX1_handOver 58 = .ok (.iload_n 1, 1) := by decide +kernel
theorem dX1_handOver_59 : decode cX1_handOver 59 = .ok (.iload_n 3, 1) := by decide +kernel
theorem dX1_handOver_60 : decode cX1_handOver 60 = .ok (.invokestatic 130, 3) := by decide +kernel
theorem dX1_handOver_63 : decode cX1_handOver 63 = .ok (.istore 4, 2) := by decide +kernel
theorem dX1_handOver_65 : decode cX1_handOver 65 = .ok (.aload_n 0, 1) := by decide +kernel
theorem dX1_handOver_66 : decode cX1_handOver 66 = .ok (.getfield 19, 3) := by decide +kernel
theorem dX1_handOver_69 : decode cX1_handOver 69 = .ok (.getfield 133, 3) := by decide +kernel
theorem dX1_handOver_72 : decode cX1_handOver 72 = .ok (.iload 4, 2) := by decide +kernel
theorem dX1_handOver_74 : decode cX1_handOver 74 = .ok (.iaload, 1) := by decide +kernel
theorem dX1_handOver_75 : decode cX1_handOver 75 = .ok (.istore 5, 2) := by decide +kernel
theorem dX1_handOver_77 : decode cX1_handOver 77 = .ok (.iload 5, 2) := by decide +kernel
theorem dX1_handOver_79 : decode cX1_handOver 79 = .ok (.iconst 1, 1) := by decide +kernel
theorem dX1_handOver_80 : decode cX1_handOver 80 = .ok (.if_icmp .le 10, 3) := by decide +kernel
theorem dX1_handOver_83 : decode cX1_handOver 83 = .ok (.iload 5, 2) := by decide +kernel
theorem dX1_handOver_85 : decode cX1_handOver 85 = .ok (.iconst 2, 1) := by decide +kernel
theorem dX1_handOver_86 : decode cX1_handOver 86 = .ok (.idiv, 1) := by decide +kernel
theorem dX1_handOver_87 : decode cX1_handOver 87 = .ok (.goto 4, 3) := by decide +kernel
theorem dX1_handOver_90 : decode cX1_handOver 90 = .ok (.iconst 1, 1) := by decide +kernel
theorem dX1_handOver_91 : decode cX1_handOver 91 = .ok (.istore 6, 2) := by decide +kernel
theorem dX1_handOver_93 : decode cX1_handOver 93 = .ok (.aload_n 0, 1) := by decide +kernel
theorem dX1_handOver_94 : decode cX1_handOver 94 = .ok (.getfield 19, 3) := by decide +kernel
theorem dX1_handOver_97 : decode cX1_handOver 97 = .ok (.iload_n 2, 1) := by decide +kernel
theorem dX1_handOver_98 : decode cX1_handOver 98 = .ok (.iload_n 3, 1) := by decide +kernel
theorem dX1_handOver_99 : decode cX1_handOver 99 = .ok (.iload 6, 2) := by decide +kernel
theorem dX1_handOver_101 : decode cX1_handOver 101 = .ok (.aload_n 0, 1) := by decide +kernel
theorem dX1_handOver_102 : decode cX1_handOver 102 = .ok (.getfield 19, 3) := by decide +kernel
theorem dX1_handOver_105 : decode cX1_handOver 105 = .ok (.getfield 136, 3) := by decide +kernel
theorem dX1_handOver_108 : decode cX1_handOver 108 = .ok (.iload 4, 2) := by decide +kernel
theorem dX1_handOver_110 : decode cX1_handOver 110 = .ok (.iaload, 1) := by decide +kernel
theorem dX1_handOver_111 : decode cX1_handOver 111 = .ok (.iconst 1, 1) := by decide +kernel
theorem dX1_handOver_112 : decode cX1_handOver 112 = .ok (.iadd, 1) := by decide +kernel
theorem dX1_handOver_113 : decode cX1_handOver 113 = .ok (.invokevirtual 91, 3) := by decide +kernel
theorem dX1_handOver_116 : decode cX1_handOver 116 = .ok (.iload 5, 2) := by decide +kernel
theorem dX1_handOver_118 : decode cX1_handOver 118 = .ok (.iconst 1, 1) := by decide +kernel
theorem dX1_handOver_119 : decode cX1_handOver 119 = .ok (.if_icmp .le 21, 3) := by decide +kernel
theorem dX1_handOver_122 : decode cX1_handOver 122 = .ok (.aload_n 0, 1) := by decide +kernel
theorem dX1_handOver_123 : decode cX1_handOver 123 = .ok (.getfield 19, 3) := by decide +kernel
theorem dX1_handOver_126 : decode cX1_handOver 126 = .ok (.getfield 133, 3) := by decide +kernel
theorem dX1_handOver_129 : decode cX1_handOver 129 = .ok (.iload 4, 2) := by decide +kernel
theorem dX1_handOver_131 : decode cX1_handOver 131 = .ok (.iload 5, 2) := by decide +kernel
theorem dX1_handOver_133 : decode cX1_handOver 133 = .ok (.iload 6, 2) := by decide +kernel
theorem dX1_handOver_135 : decode cX1_handOver 135 = .ok (.isub, 1) := by decide +kernel
theorem dX1_handOver_136 : decode cX1_handOver 136 = .ok (.iastore, 1) := by decide +kernel
theorem dX1_handOver_137 : decode cX1_handOver 137 = .ok (.goto 24, 3) := by decide +kernel
theorem dX1_handOver_140 : decode cX1_handOver 140 = .ok (.aload_n 0, 1) := by decide +kernel
theorem dX1_handOver_141 : decode cX1_handOver 141 = .ok (.getfield 19, 3) := by decide +kernel
theorem dX1_handOver_144 : decode cX1_handOver 144 = .ok (.getfield 53, 3) := by decide +kernel
theorem dX1_handOver_147 : decode cX1_handOver 147 = .ok (.iconst 1, 1) := by decide +kernel
theorem dX1_handOver_148 : decode cX1_handOver 148 = .ok (.iaload, 1) := by decide +kernel
theorem dX1_handOver_149 : decode cX1_handOver 149 = .ok (.ifCond .eq 12, 3) := by decide +kernel
theorem dX1_handOver_152 : decode cX1_handOver 152 = .ok (.aload_n 0, 1) := by decide +kernel
theorem dX1_handOver_153 : decode cX1_handOver 153 = .ok (.getfield 19, 3) := by decide +kernel
theorem dX1_handOver_156 : decode cX1_handOver 156 = .ok (.iload_n 1, 1) := by decide +kernel
theorem dX1_handOver_157 : decode cX1_handOver 157 = .ok (.iload_n 3, 1) := by decide +kernel
theorem dX1_handOver_158 : decode cX1_handOver 158 = .ok (.invokevirtual 78, 3) := by decide +kernel
theorem dX1_handOver_161 : decode cX1_handOver 161 = .ok (.return_, 1) := by decide +kernel
theorem dX1_deliver_0 : decode cX1_deliver 0 = .ok (.aload_n 0, 1) := by decide +kernel
theorem dX1_deliver_1 : decode cX1_deliver 1 = .ok (.getfield 19, 3) := by decide +kernel
theorem dX1_deliver_4 : decode cX1_deliver 4 = .ok (.getfield 139, 3) := by decide +kernel
theorem dX1_deliver_7 : decode cX1_deliver 7 = .ok (.iload_n 3, 1) := by decide +kernel
theorem dX1_deliver_8 : decode cX1_deliver 8 = .ok (.iaload, 1) := by decide +kernel
theorem dX1_deliver_9 : decode cX1_deliver 9 = .ok (.bipush (-4), 2) := by decide +kernel
theorem dX1_deliver_11 : decode cX1_deliver 11 = .ok (.if_icmp .ne 86, 3) := by decide +kernel
theorem dX1_deliver_14 : decode cX1_deliver 14 = .ok (.aload_n 0, 1) := by decide +kernel
theorem dX1_deliver_15 : decode cX1_deliver 15 = .ok (.getfield 19, 3) := by decide +kernel
theorem dX1_deliver_18 : decode cX1_deliver 18 = .ok (.getfield 139, 3) := by decide +kernel
theorem dX1_deliver_21 : decode cX1_deliver 21 = .ok (.iload_n 3, 1) := by decide +kernel
theorem dX1_deliver_22 : decode cX1_deliver 22 = .ok (.aload_n 0, 1) := by decide +kernel
theorem dX1_deliver_23 : decode cX1_deliver 23 = .ok (.getfield 19, 3) := by decide +kernel
theorem dX1_deliver_26 : decode cX1_deliver 26 = .ok (.getfield 30, 3) := by decide +kernel
theorem dX1_deliver_29 : decode cX1_deliver 29 = .ok (.iastore, 1) := by decide +kernel
theorem dX1_deliver_30 : decode cX1_deliver 30 = .ok (.aload_n 0, 1) := by decide +kernel
theorem dX1_deliver_31 : decode cX1_deliver 31 = .ok (.getfield 19, 3) := by decide +kernel
theorem dX1_deliver_34 : decode cX1_deliver 34 = .ok (.getfield 142, 3) := by decide +kernel
theorem dX1_deliver_37 : decode cX1_deliver 37 = .ok (.iload_n 3, 1) := by decide +kernel
theorem dX1_deliver_38 : decode cX1_deliver 38 = .ok (.aload_n 0, 1) := by decide +kernel
theorem dX1_deliver_39 : decode cX1_deliver 39 = .ok (.getfield 19, 3) := by decide +kernel
theorem dX1_deliver_42 : decode cX1_deliver 42 = .ok (.getfield 136, 3) := by decide +kernel
theorem dX1_deliver_45 : decode cX1_deliver 45 = .ok (.iload_n 1, 1) := by decide +kernel
theorem dX1_deliver_46 : decode cX1_deliver 46 = .ok (.iload_n 3, 1) := by decide +kernel
theorem dX1_deliver_47 : decode cX1_deliver 47 = .ok (.invokestatic 130, 3) := by decide +kernel
theorem dX1_deliver_50 : decode cX1_deliver 50 = .ok (.iaload, 1) := by decide +kernel
theorem dX1_deliver_51 : decode cX1_deliver 51 = .ok (.iconst 1, 1) := by decide +kernel
theorem dX1_deliver_52 : decode cX1_deliver 52 = .ok (.iadd, 1) := by decide +kernel
theorem dX1_deliver_53 : decode cX1_deliver 53 = .ok (.iastore, 1) := by decide +kernel
theorem dX1_deliver_54 : decode cX1_deliver 54 = .ok (.aload_n 0, 1) := by decide +kernel
theorem dX1_deliver_55 : decode cX1_deliver 55 = .ok (.getfield 19, 3) := by decide +kernel
theorem dX1_deliver_58 : decode cX1_deliver 58 = .ok (.getfield 82, 3) := by decide +kernel
theorem dX1_deliver_61 : decode cX1_deliver 61 = .ok (.iconst 1, 1) := by decide +kernel
theorem dX1_deliver_62 : decode cX1_deliver 62 = .ok (.dup2, 1) := by decide +kernel
theorem dX1_deliver_63 : decode cX1_deliver 63 = .ok (.iaload, 1) := by decide +kernel
theorem dX1_deliver_64 : decode cX1_deliver 64 = .ok (.iconst 1, 1) := by decide +kernel
theorem dX1_deliver_65 : decode cX1_deliver 65 = .ok (.iadd, 1) := by decide +kernel
theorem dX1_deliver_66 : decode cX1_deliver 66 = .ok (.iastore, 1) := by decide +kernel
theorem dX1_deliver_67 : decode cX1_deliver 67 = .ok (.aload_n 0, 1) := by decide +kernel
theorem dX1_deliver_68 : decode cX1_deliver 68 = .ok (.getfield 19, 3) := by decide +kernel
theorem dX1_deliver_71 : decode cX1_deliver 71 = .ok (.getfield 82, 3) := by decide +kernel
theorem dX1_deliver_74 : decode cX1_deliver 74 = .ok (.bipush 7, 2) := by decide +kernel
theorem dX1_deliver_76 : decode cX1_deliver 76 = .ok (.dup2, 1) := by decide +kernel
theorem dX1_deliver_77 : decode cX1_deliver 77 = .ok (.iaload, 1) := by decide +kernel
theorem dX1_deliver_78 : decode cX1_deliver 78 = .ok (.aload_n 0, 1) := by decide +kernel
theorem dX1_deliver_79 : decode cX1_deliver 79 = .ok (.getfield 19, 3) := by decide +kernel
theorem dX1_deliver_82 : decode cX1_deliver 82 = .ok (.getfield 30, 3) := by decide +kernel
theorem dX1_deliver_85 : decode cX1_deliver 85 = .ok (.aload_n 0, 1) := by decide +kernel
theorem dX1_deliver_86 : decode cX1_deliver 86 = .ok (.getfield 29, 3) := by decide +kernel
theorem dX1_deliver_89 : decode cX1_deliver 89 = .ok (.iload_n 3, 1) := by decide +kernel
theorem dX1_deliver_90 : decode cX1_deliver 90 = .ok (.iconst 0, 1) := by decide +kernel
theorem dX1_deliver_91 : decode cX1_deliver 91 = .ok (.invokevirtual 42, 3) := by decide +kernel
theorem dX1_deliver_94 : decode cX1_deliver 94 = .ok (.isub, 1) := by decide +kernel
theorem dX1_deliver_95 : decode cX1_deliver 95 = .ok (.iadd, 1) := by decide +kernel
theorem dX1_deliver_96 : decode cX1_deliver 96 = .ok (.iastore, 1) := by decide +kernel
theorem dX1_deliver_97 : decode cX1_deliver 97 = .ok (.aload_n 0, 1) := by decide +kernel
theorem dX1_deliver_98 : decode cX1_deliver 98 = .ok (.getfield 19, 3) := by decide +kernel
theorem dX1_deliver_101 : decode cX1_deliver 101 = .ok (.iload_n 1, 1) := by decide +kernel
theorem dX1_deliver_102 : decode cX1_deliver 102 = .ok (.iload_n 3, 1) := by decide +kernel
theorem dX1_deliver_103 : decode cX1_deliver 103 = .ok (.invokevirtual 78, 3) := by decide +kernel
theorem dX1_deliver_106 : decode cX1_deliver 106 = .ok (.aload_n 0, 1) := by decide +kernel
theorem dX1_deliver_107 : decode cX1_deliver 107 = .ok (.getfield 19, 3) := by decide +kernel
theorem dX1_deliver_110 : decode cX1_deliver 110 = .ok (.getfield 102, 3) := by decide +kernel
theorem dX1_deliver_113 : decode cX1_deliver 113 = .ok (.iload_n 1, 1) := by decide +kernel
theorem dX1_deliver_114 : decode cX1_deliver 114 = .ok (.dup2, 1) := by decide +kernel
theorem dX1_deliver_115 : decode cX1_deliver 115 = .ok (.iaload, 1) := by decide +kernel
theorem dX1_deliver_116 : decode cX1_deliver 116 = .ok (.iconst 1, 1) := by decide +kernel
theorem dX1_deliver_117 : decode cX1_deliver 117 = .ok (.iload_n 3, 1) := by decide +kernel
theorem dX1_deliver_118 : decode cX1_deliver 118 = .ok (.ishl, 1) := by decide +kernel
theorem dX1_deliver_119 : decode cX1_deliver 119 = .ok (.ior, 1) := by decide +kernel
theorem dX1_deliver_120 : decode cX1_deliver 120 = .ok (.iastore, 1) := by decide +kernel
theorem dX1_deliver_121 : decode cX1_deliver 121 = .ok (.aload_n 0, 1) := by decide +kernel
theorem dX1_deliver_122 : decode cX1_deliver 122 = .ok (.getfield 19, 3) := by decide +kernel
theorem dX1_deliver_125 : decode cX1_deliver 125 = .ok (.getfield 102, 3) := by decide +kernel
theorem dX1_deliver_128 : decode cX1_deliver 128 = .ok (.iload_n 2, 1) := by decide +kernel
theorem dX1_deliver_129 : decode cX1_deliver 129 = .ok (.dup2, 1) := by decide +kernel
theorem dX1_deliver_130 : decode cX1_deliver 130 = .ok (.iaload, 1) := by decide +kernel
theorem dX1_deliver_131 : decode cX1_deliver 131 = .ok (.iconst 1, 1) := by decide +kernel
theorem dX1_deliver_132 : decode cX1_deliver 132 = .ok (.iload_n 3, 1) := by decide +kernel
theorem dX1_deliver_133 : decode cX1_deliver 133 = .ok (.ishl, 1) := by decide +kernel
theorem dX1_deliver_134 : decode cX1_deliver 134 = .ok (.ior, 1) := by decide +kernel
theorem dX1_deliver_135 : decode cX1_deliver 135 = .ok (.iastore, 1) := by decide +kernel
theorem dX1_deliver_136 : decode cX1_deliver 136 = .ok (.return_, 1) := by decide +kernel
theorem dX1_rememberRefusal_0 : decode cX1_rememberRefusal 0 = .ok (.aload_n 0, 1) := by decide +kernel
theorem dX1_rememberRefusal_1 : decode cX1_rememberRefusal 1 = .ok (.getfield 19, 3) := by decide +kernel
theorem dX1_rememberRefusal_4 : decode cX1_rememberRefusal 4 = .ok (.getfield 145, 3) := by decide +kernel
theorem dX1_rememberRefusal_7 : decode cX1_rememberRefusal 7 = .ok (.astore 5, 2) := by decide +kernel
theorem dX1_rememberRefusal_9 : decode cX1_rememberRefusal 9 = .ok (.iload 4, 2) := by decide +kernel
theorem dX1_rememberRefusal_11 : decode cX1_rememberRefusal 11 = .ok (.iconst 4, 1) := by decide +kernel
theorem dX1_rememberRefusal_12 : decode cX1_rememberRefusal 12 = .ok (.if_icmp .le 7, 3) := by decide +kernel
theorem dX1_rememberRefusal_15 : decode cX1_rememberRefusal 15 = .ok (.iconst 1, 1) := by decide +kernel
theorem dX1_rememberRefusal_16 : decode cX1_rememberRefusal 16 = .ok (.goto 4, 3) := by decide +kernel
theorem dX1_rememberRefusal_19 : decode cX1_rememberRefusal 19 = .ok (.iconst 0, 1) := by decide +kernel
theorem dX1_rememberRefusal_20 : decode cX1_rememberRefusal 20 = .ok (.istore 6, 2) := by decide +kernel
theorem dX1_rememberRefusal_22 : decode cX1_rememberRefusal 22 = .ok (.aload 5, 2) := by decide +kernel
theorem dX1_rememberRefusal_24 : decode cX1_rememberRefusal 24 = .ok (.iconst 0, 1) := by decide +kernel
theorem dX1_rememberRefusal_25 : decode cX1_rememberRefusal 25 = .ok (.iload 6, 2) := by decide +kernel
theorem dX1_rememberRefusal_27 : decode cX1_rememberRefusal 27 = .ok (.ifCond .eq 7, 3) := by decide +kernel
theorem dX1_rememberRefusal_30 : decode cX1_rememberRefusal 30 = .ok (.iconst 4, 1) := by decide +kernel
theorem dX1_rememberRefusal_31 : decode cX1_rememberRefusal 31 = .ok (.goto 5, 3) := by decide +kernel
theorem dX1_rememberRefusal_34 : decode cX1_rememberRefusal 34 = .ok (.iload 4, 2) := by decide +kernel
theorem dX1_rememberRefusal_36 : decode cX1_rememberRefusal 36 = .ok (.iastore, 1) := by decide +kernel
theorem dX1_rememberRefusal_37 : decode cX1_rememberRefusal 37 = .ok (.aload 5, 2) := by decide +kernel
theorem dX1_rememberRefusal_39 : decode cX1_rememberRefusal 39 = .ok (.iconst 1, 1) := by decide +kernel
theorem dX1_rememberRefusal_40 : decode cX1_rememberRefusal 40 = .ok (.iload 6, 2) := by decide +kernel
theorem dX1_rememberRefusal_42 : decode cX1_rememberRefusal 42 = .ok (.ifCond .eq 8, 3) := by decide +kernel
theorem dX1_rememberRefusal_45 : decode cX1_rememberRefusal 45 = .ok (.iload 4, 2) := by decide +kernel
theorem dX1_rememberRefusal_47 : decode cX1_rememberRefusal 47 = .ok (.goto 5, 3) := by decide +kernel
theorem dX1_rememberRefusal_50 : decode cX1_rememberRefusal 50 = .ok (.bipush (-4), 2) := by decide +kernel
theorem dX1_rememberRefusal_52 : decode cX1_rememberRefusal 52 = .ok (.iastore, 1) := by decide +kernel
theorem dX1_rememberRefusal_53 : decode cX1_rememberRefusal 53 = .ok (.aload 5, 2) := by decide +kernel
theorem dX1_rememberRefusal_55 : decode cX1_rememberRefusal 55 = .ok (.iconst 2, 1) := by decide +kernel
theorem dX1_rememberRefusal_56 : decode cX1_rememberRefusal 56 = .ok (.iload_n 3, 1) := by decide +kernel
theorem dX1_rememberRefusal_57 : decode cX1_rememberRefusal 57 = .ok (.iastore, 1) := by decide +kernel
theorem dX1_rememberRefusal_58 : decode cX1_rememberRefusal 58 = .ok (.aload 5, 2) := by decide +kernel
theorem dX1_rememberRefusal_60 : decode cX1_rememberRefusal 60 = .ok (.iconst 3, 1) := by decide +kernel
theorem dX1_rememberRefusal_61 : decode cX1_rememberRefusal 61 = .ok (.iload_n 1, 1) := by decide +kernel
theorem dX1_rememberRefusal_62 : decode cX1_rememberRefusal 62 = .ok (.iastore, 1) := by decide +kernel
theorem dX1_rememberRefusal_63 : decode cX1_rememberRefusal 63 = .ok (.aload 5, 2) := by decide +kernel
theorem dX1_rememberRefusal_65 : decode cX1_rememberRefusal 65 = .ok (.iconst 4, 1) := by decide +kernel
theorem dX1_rememberRefusal_66 : decode cX1_rememberRefusal 66 = .ok (.iload_n 2, 1) := by decide +kernel
theorem dX1_rememberRefusal_67 : decode cX1_rememberRefusal 67 = .ok (.iastore, 1) := by decide +kernel
theorem dX1_rememberRefusal_68 : decode cX1_rememberRefusal 68 = .ok (.aload 5, 2) := by decide +kernel
theorem dX1_rememberRefusal_70 : decode cX1_rememberRefusal 70 = .ok (.iconst 5, 1) := by decide +kernel
theorem dX1_rememberRefusal_71 : decode cX1_rememberRefusal 71 = .ok (.aload_n 0, 1) := by decide +kernel
theorem dX1_rememberRefusal_72 : decode cX1_rememberRefusal 72 = .ok (.getfield 19, 3) := by decide +kernel
theorem dX1_rememberRefusal_75 : decode cX1_rememberRefusal 75 = .ok (.getfield 30, 3) := by decide +kernel
theorem dX1_rememberRefusal_78 : decode cX1_rememberRefusal 78 = .ok (.iastore, 1) := by decide +kernel
theorem dX1_rememberRefusal_79 : decode cX1_rememberRefusal 79 = .ok (.return_, 1) := by decide +kernel
theorem dX1_reasonAgainst_0 : decode cX1_reasonAgainst 0 = .ok (.aload_n 0, 1) := by decide +kernel
theorem dX1_reasonAgainst_1 : decode cX1_reasonAgainst 1 = .ok (.getfield 19, 3) := by decide +kernel
theorem dX1_reasonAgainst_4 : decode cX1_reasonAgainst 4 = .ok (.iload_n 2, 1) := by decide +kernel
theorem dX1_reasonAgainst_5 : decode cX1_reasonAgainst 5 = .ok (.iload_n 3, 1) := by decide +kernel
theorem dX1_reasonAgainst_6 : decode cX1_reasonAgainst 6 = .ok (.invokevirtual 74, 3) := by decide +kernel
theorem dX1_reasonAgainst_9 : decode cX1_reasonAgainst 9 = .ok (.ifCond .eq 5, 3) := by decide +kernel
theorem dX1_reasonAgainst_12 : decode cX1_reasonAgainst 12 = .ok (.iconst 1, 1) := by decide +kernel
theorem dX1_reasonAgainst_13 : decode cX1_reasonAgainst 13 = .ok (.ireturn, 1) := by decide +kernel
theorem dX1_reasonAgainst_14 : decode cX1_reasonAgainst 14 = .ok (.aload_n 0, 1) := by decide +kernel
theorem dX1_reasonAgainst_15 : decode cX1_reasonAgainst 15 = .ok (.getfield 29, 3) := by decide +kernel
theorem dX1_reasonAgainst_18 : decode cX1_reasonAgainst 18 = .ok (.iload_n 3, 1) := by decide +kernel
theorem dX1_reasonAgainst_19 : decode cX1_reasonAgainst 19 = .ok (.iconst 2, 1) := by decide +kernel
theorem dX1_reasonAgainst_20 : decode cX1_reasonAgainst 20 = .ok (.invokevirtual 42, 3) := by decide +kernel
theorem dX1_reasonAgainst_23 : decode cX1_reasonAgainst 23 = .ok (.iload_n 2, 1) := by decide +kernel
theorem dX1_reasonAgainst_24 : decode cX1_reasonAgainst 24 = .ok (.if_icmp .ne 7, 3) := by decide +kernel
theorem dX1_reasonAgainst_27 : decode cX1_reasonAgainst 27 = .ok (.iconst 1, 1) := by decide +kernel
theorem dX1_reasonAgainst_28 : decode cX1_reasonAgainst 28 = .ok (.goto 4, 3) := by decide +kernel
theorem dX1_reasonAgainst_31 : decode cX1_reasonAgainst 31 = .ok (.iconst 0, 1) := by decide +kernel
theorem dX1_reasonAgainst_32 : decode cX1_reasonAgainst 32 = .ok (.istore 5, 2) := by decide +kernel
theorem dX1_reasonAgainst_34 : decode cX1_reasonAgainst 34 = .ok (.iload 5, 2) := by decide +kernel
theorem dX1_reasonAgainst_36 : decode cX1_reasonAgainst 36 = .ok (.ifCond .ne 15, 3) := by decide +kernel
theorem dX1_reasonAgainst_39 : decode cX1_reasonAgainst 39 = .ok (.aload_n 0, 1) := by decide +kernel
theorem dX1_reasonAgainst_40 : decode cX1_reasonAgainst 40 = .ok (.iload_n 1, 1) := by decide +kernel
theorem dX1_reasonAgainst_41 : decode cX1_reasonAgainst 41 = .ok (.iload_n 2, 1) := by decide +kernel
theorem dX1_reasonAgainst_42 : decode cX1_reasonAgainst 42 = .ok (.iload_n 3, 1) := by decide +kernel
theorem dX1_reasonAgainst_43 : decode cX1_reasonAgainst 43 = .ok (.invokevirtual 148, 3) := by decide +kernel
theorem dX1_reasonAgainst_46 : decode cX1_reasonAgainst 46 = .ok (.ifCond .eq 5, 3) := by decide +kernel
theorem dX1_reasonAgainst_49 : decode cX1_reasonAgainst 49 = .ok (.iconst 2, 1) := by decide +kernel
theorem dX1_reasonAgainst_50 : decode cX1_reasonAgainst 50 = .ok (.ireturn, 1) := by decide +kernel
theorem dX1_reasonAgainst_51 : decode cX1_reasonAgainst 51 = .ok (.aload_n 0, 1) := by decide +kernel
theorem dX1_reasonAgainst_52 : decode cX1_reasonAgainst 52 = .ok (.getfield 29, 3) := by decide +kernel
theorem dX1_reasonAgainst_55 : decode cX1_reasonAgainst 55 = .ok (.iload_n 3, 1) := by decide +kernel
theorem dX1_reasonAgainst_56 : decode cX1_reasonAgainst 56 = .ok (.iconst 3, 1) := by decide +kernel
theorem dX1_reasonAgainst_57 : decode cX1_reasonAgainst 57 = .ok (.invokevirtual 42, 3) := by decide +kernel
theorem dX1_reasonAgainst_60 : decode cX1_reasonAgainst 60 = .ok (.iload 4, 2) := by decide +kernel
theorem dX1_reasonAgainst_62 : decode cX1_reasonAgainst 62 = .ok (.if_icmp .le 5, 3) := by decide +kernel
theorem dX1_reasonAgainst_65 : decode cX1_reasonAgainst 65 = .ok (.iconst 3, 1) := by decide +kernel
theorem dX1_reasonAgainst_66 : decode cX1_reasonAgainst 66 = .ok (.ireturn, 1) := by decide +kernel
theorem dX1_reasonAgainst_67 : decode cX1_reasonAgainst 67 = .ok (.iload 5, 2) := by decide +kernel
theorem dX1_reasonAgainst_69 : decode cX1_reasonAgainst 69 = .ok (.ifCond .eq 7, 3) := by decide +kernel
theorem dX1_reasonAgainst_72 : decode cX1_reasonAgainst 72 = .ok (.iconst 0, 1) := by decide +kernel
theorem dX1_reasonAgainst_73 : decode cX1_reasonAgainst 73 = .ok (.goto 9, 3) := by decide +kernel
theorem dX1_reasonAgainst_76 : decode cX1_reasonAgainst 76 = .ok (.aload_n 0, 1) := by decide +kernel
theorem dX1_reasonAgainst_77 : decode cX1_reasonAgainst 77 = .ok (.iload_n 2, 1) := by decide +kernel
theorem dX1_reasonAgainst_78 : decode cX1_reasonAgainst 78 = .ok (.iload_n 3, 1) := by decide +kernel
theorem dX1_reasonAgainst_79 : decode cX1_reasonAgainst 79 = .ok (.invokevirtual 85, 3) := by decide +kernel
theorem dX1_reasonAgainst_82 : decode cX1_reasonAgainst 82 = .ok (.ireturn, 1) := by decide +kernel
theorem dX1_mustWait_0 : decode cX1_mustWait 0 = .ok (.aload_n 0, 1) := by decide +kernel
theorem dX1_mustWait_1 : decode cX1_mustWait 1 = .ok (.getfield 19, 3) := by decide +kernel
theorem dX1_mustWait_4 : decode cX1_mustWait 4 = .ok (.getfield 133, 3) := by decide +kernel
theorem dX1_mustWait_7 : decode cX1_mustWait 7 = .ok (.iload_n 1, 1) := by decide +kernel
theorem dX1_mustWait_8 : decode cX1_mustWait 8 = .ok (.iload_n 3, 1) := by decide +kernel
theorem dX1_mustWait_9 : decode cX1_mustWait 9 = .ok (.invokestatic 130, 3) := by decide +kernel
theorem dX1_mustWait_12 : decode cX1_mustWait 12 = .ok (.iaload, 1) := by decide +kernel
theorem dX1_mustWait_13 : decode cX1_mustWait 13 = .ok (.iconst 1, 1) := by decide +kernel
theorem dX1_mustWait_14 : decode cX1_mustWait 14 = .ok (.if_icmp .ne 7, 3) := by decide +kernel
theorem dX1_mustWait_17 : decode cX1_mustWait 17 = .ok (.iconst 1, 1) := by decide +kernel
theorem dX1_mustWait_18 : decode cX1_mustWait 18 = .ok (.goto 4, 3) := by decide +kernel
theorem dX1_mustWait_21 : decode cX1_mustWait 21 = .ok (.iconst 0, 1) := by decide +kernel
theorem dX1_mustWait_22 : decode cX1_mustWait 22 = .ok (.istore 4, 2) := by decide +kernel
theorem dX1_mustWait_24 : decode cX1_mustWait 24 = .ok (.aload_n 0, 1) := by decide +kernel
theorem dX1_mustWait_25 : decode cX1_mustWait 25 = .ok (.getfield 19, 3) := by decide +kernel
theorem dX1_mustWait_28 : decode cX1_mustWait 28 = .ok (.getfield 53, 3) := by decide +kernel
theorem dX1_mustWait_31 : decode cX1_mustWait 31 = .ok (.iconst 1, 1) := by decide +kernel
theorem dX1_mustWait_32 : decode cX1_mustWait 32 = .ok (.iaload, 1) := by decide +kernel
theorem dX1_mustWait_33 : decode cX1_mustWait 33 = .ok (.tableswitch 61 0 2 #[27, 29, 32], 27) := by decide +kernel
theorem dX1_mustWait_60 : decode cX1_mustWait 60 = .ok (.iconst 0, 1) := by decide +kernel
theorem dX1_mustWait_61 : decode cX1_mustWait 61 = .ok (.ireturn, 1) := by decide +kernel
theorem dX1_mustWait_62 : decode cX1_mustWait 62 = .ok (.iload 4, 2) := by decide +kernel
theorem dX1_mustWait_64 : decode cX1_mustWait 64 = .ok (.ireturn, 1) := by decide +kernel
theorem dX1_mustWait_65 : decode cX1_mustWait 65 = .ok (.iload 4, 2) := by decide +kernel
theorem dX1_mustWait_67 : decode cX1_mustWait 67 = .ok (.ifCond .eq 25, 3) := by decide +kernel
theorem dX1_mustWait_70 : decode cX1_mustWait 70 = .ok (.aload_n 0, 1) := by decide +kernel
theorem dX1_mustWait_71 : decode cX1_mustWait 71 = .ok (.iload_n 1, 1) := by decide +kernel
theorem dX1_mustWait_72 : decode cX1_mustWait 72 = .ok (.iload_n 2, 1) := by decide +kernel
theorem dX1_mustWait_73 : decode cX1_mustWait 73 = .ok (.aload_n 0, 1) := by decide +kernel
theorem dX1_mustWait_74 : decode cX1_mustWait 74 = .ok (.getfield 29, 3) := by decide +kernel
theorem dX1_mustWait_77 : decode cX1_mustWait 77 = .ok (.iload_n 3, 1) := by decide +kernel
theorem dX1_mustWait_78 : decode cX1_mustWait 78 = .ok (.iconst 2, 1) := by decide +kernel
theorem dX1_mustWait_79 : decode cX1_mustWait 79 = .ok (.invokevirtual 42, 3) := by decide +kernel
theorem dX1_mustWait_82 : decode cX1_mustWait 82 = .ok (.invokevirtual 151, 3) := by decide +kernel
theorem dX1_mustWait_85 : decode cX1_mustWait 85 = .ok (.ifCond .ne 7, 3) := by decide +kernel
theorem dX1_mustWait_88 : decode cX1_mustWait 88 = .ok (.iconst 1, 1) := by decide +kernel
theorem dX1_mustWait_89 : decode cX1_mustWait 89 = .ok (.goto 4, 3) := by decide +kernel
theorem dX1_mustWait_92 : decode cX1_mustWait 92 = .ok (.iconst 0, 1) := by decide +kernel
theorem dX1_mustWait_93 : decode cX1_mustWait 93 = .ok (.ireturn, 1) := by decide +kernel
theorem dX1_mustWait_94 : decode cX1_mustWait 94 = .ok (.iconst 1, 1) := by decide +kernel
theorem dX1_mustWait_95 : decode cX1_mustWait 95 = .ok (.ireturn, 1) := by decide +kernel
theorem dX1_metLater_0 : decode cX1_metLater 0 = .ok (.aload_n 0, 1) := by decide +kernel
theorem dX1_metLater_1 : decode cX1_metLater 1 = .ok (.getfield 19, 3) := by decide +kernel
theorem dX1_metLater_4 : decode cX1_metLater 4 = .ok (.iload_n 2, 1) := by decide +kernel
theorem dX1_metLater_5 : decode cX1_metLater 5 = .ok (.iload_n 3, 1) := by decide +kernel
theorem dX1_metLater_6 : decode cX1_metLater 6 = .ok (.invokevirtual 154, 3) := by decide +kernel
theorem dX1_metLater_9 : decode cX1_metLater 9 = .ok (.istore 4, 2) := by decide +kernel
theorem dX1_metLater_11 : decode cX1_metLater 11 = .ok (.iload 4, 2) := by decide +kernel
theorem dX1_metLater_13 : decode cX1_metLater 13 = .ok (.iconst (-1), 1) := by decide +kernel
theorem dX1_metLater_14 : decode cX1_metLater 14 = .ok (.if_icmp .eq 31, 3) := by decide +kernel
theorem dX1_metLater_17 : decode cX1_metLater 17 = .ok (.iload 4, 2) := by decide +kernel
theorem dX1_metLater_19 : decode cX1_metLater 19 = .ok (.aload_n 0, 1) := by decide +kernel
theorem dX1_metLater_20 : decode cX1_metLater 20 = .ok (.getfield 19, 3) := by decide +kernel
theorem dX1_metLater_23 : decode cX1_metLater 23 = .ok (.iload_n 1, 1) := by decide +kernel
theorem dX1_metLater_24 : decode cX1_metLater 24 = .ok (.iload_n 3, 1) := by decide +kernel
theorem dX1_metLater_25 : decode cX1_metLater 25 = .ok (.invokevirtual 154, 3) := by decide +kernel
theorem dX1_metLater_28 : decode cX1_metLater 28 = .ok (.isub, 1) := by decide +kernel
theorem dX1_metLater_29 : decode cX1_metLater 29 = .ok (.aload_n 0, 1) := by decide +kernel
theorem dX1_metLater_30 : decode cX1_metLater 30 = .ok (.getfield 19, 3) := by decide +kernel
theorem dX1_metLater_33 : decode cX1_metLater 33 = .ok (.getfield 53, 3) := by decide +kernel
theorem dX1_metLater_36 : decode cX1_metLater 36 = .ok (.iconst 3, 1) := by decide +kernel
theorem dX1_metLater_37 : decode cX1_metLater 37 = .ok (.iaload, 1) := by decide +kernel
theorem dX1_metLater_38 : decode cX1_metLater 38 = .ok (.if_icmp .le 7, 3) := by decide +kernel
theorem dX1_metLater_41 : decode cX1_metLater 41 = .ok (.iconst 1, 1) := by decide +kernel
theorem dX1_metLater_42 : decode cX1_metLater 42 = .ok (.goto 4, 3) := by decide +kernel
theorem dX1_metLater_45 : decode cX1_metLater 45 = .ok (.iconst 0, 1) := by decide +kernel
theorem dX1_metLater_46 : decode cX1_metLater 46 = .ok (.ireturn, 1) := by decide +kernel
theorem dX1_lackOfRoom_0 : decode cX1_lackOfRoom 0 = .ok (.aload_n 0, 1) := by decide +kernel
theorem dX1_lackOfRoom_1 : decode cX1_lackOfRoom 1 = .ok (.getfield 29, 3) := by decide +kernel
theorem dX1_lackOfRoom_4 : decode cX1_lackOfRoom 4 = .ok (.getfield 157, 3) := by decide +kernel
theorem dX1_lackOfRoom_7 : decode cX1_lackOfRoom 7 = .ok (.iload_n 1, 1) := by decide +kernel
theorem dX1_lackOfRoom_8 : decode cX1_lackOfRoom 8 = .ok (.iaload, 1) := by decide +kernel
theorem dX1_lackOfRoom_9 : decode cX1_lackOfRoom 9 = .ok (.istore_n 3, 1) := by decide +kernel
theorem dX1_lackOfRoom_10 : decode cX1_lackOfRoom 10 = .ok (.aload_n 0, 1) := by decide +kernel
theorem dX1_lackOfRoom_11 : decode cX1_lackOfRoom 11 = .ok (.getfield 29, 3) := by decide +kernel
theorem dX1_lackOfRoom_14 : decode cX1_lackOfRoom 14 = .ok (.iload_n 2, 1) := by decide +kernel
theorem dX1_lackOfRoom_15 : decode cX1_lackOfRoom 15 = .ok (.iconst 3, 1) := by decide +kernel
theorem dX1_lackOfRoom_16 : decode cX1_lackOfRoom 16 = .ok (.invokevirtual 42, 3) := by decide +kernel
theorem dX1_lackOfRoom_19 : decode cX1_lackOfRoom 19 = .ok (.istore 4, 2) := by decide +kernel
theorem dX1_lackOfRoom_21 : decode cX1_lackOfRoom 21 = .ok (.aload_n 0, 1) := by decide +kernel
theorem dX1_lackOfRoom_22 : decode cX1_lackOfRoom 22 = .ok (.getfield 19, 3) := by decide +kernel
theorem dX1_lackOfRoom_25 : decode cX1_lackOfRoom 25 = .ok (.iload_n 1, 1) := by decide +kernel
theorem dX1_lackOfRoom_26 : decode cX1_lackOfRoom 26 = .ok (.invokevirtual 160, 3) := by decide +kernel
theorem dX1_lackOfRoom_29 : decode cX1_lackOfRoom 29 = .ok (.iload 4, 2) := by decide +kernel
theorem dX1_lackOfRoom_31 : decode cX1_lackOfRoom 31 = .ok (.iadd, 1) := by decide +kernel
theorem dX1_lackOfRoom_32 : decode cX1_lackOfRoom 32 = .ok (.iload_n 3, 1) := by decide +kernel
theorem dX1_lackOfRoom_33 : decode cX1_lackOfRoom 33 = .ok (.if_icmp .gt 5, 3) := by decide +kernel
theorem dX1_lackOfRoom_36 : decode cX1_lackOfRoom 36 = .ok (.iconst 0, 1) := by decide +kernel
theorem dX1_lackOfRoom_37 : decode cX1_lackOfRoom 37 = .ok (.ireturn, 1) := by decide +kernel
theorem dX1_lackOfRoom_38 : decode cX1_lackOfRoom 38 = .ok (.iload 4, 2) := by decide +kernel
theorem dX1_lackOfRoom_40 : decode cX1_lackOfRoom 40 = .ok (.iload_n 3, 1) := by decide +kernel
theorem dX1_lackOfRoom_41 : decode cX1_lackOfRoom 41 = .ok (.if_icmp .le 5, 3) := by decide +kernel
theorem dX1_lackOfRoom_44 : decode cX1_lackOfRoom 44 = .ok (.iconst 5, 1) := by decide +kernel
theorem dX1_lackOfRoom_45 : decode cX1_lackOfRoom 45 = .ok (.ireturn, 1) := by decide +kernel
theorem dX1_lackOfRoom_46 : decode cX1_lackOfRoom 46 = .ok (.aload_n 0, 1) := by decide +kernel
theorem dX1_lackOfRoom_47 : decode cX1_lackOfRoom 47 = .ok (.getfield 19, 3) := by decide +kernel
theorem dX1_lackOfRoom_50 : decode cX1_lackOfRoom 50 = .ok (.getfield 53, 3) := by decide +kernel
theorem dX1_lackOfRoom_53 : decode cX1_lackOfRoom 53 = .ok (.iconst 2, 1) := by decide +kernel
theorem dX1_lackOfRoom_54 : decode cX1_lackOfRoom 54 = .ok (.iaload, 1) := by decide +kernel
theorem dX1_lackOfRoom_55 : decode cX1_lackOfRoom 55 = .ok (.ifCond .ne 6, 3) := by decide +kernel
theorem dX1_lackOfRoom_58 : decode cX1_lackOfRoom 58 = .ok (.bipush 6, 2) := by decide +kernel
theorem dX1_lackOfRoom_60 : decode cX1_lackOfRoom 60 = .ok (.ireturn, 1) := by decide +kernel
theorem dX1_lackOfRoom_61 : decode cX1_lackOfRoom 61 = .ok (.aload_n 0, 1) := by decide +kernel
theorem dX1_lackOfRoom_62 : decode cX1_lackOfRoom 62 = .ok (.getfield 19, 3) := by decide +kernel
theorem dX1_lackOfRoom_65 : decode cX1_lackOfRoom 65 = .ok (.iload_n 1, 1) := by decide +kernel
theorem dX1_lackOfRoom_66 : decode cX1_lackOfRoom 66 = .ok (.invokevirtual 163, 3) := by decide +kernel
theorem dX1_lackOfRoom_69 : decode cX1_lackOfRoom 69 = .ok (.iload 4, 2) := by decide +kernel
theorem dX1_lackOfRoom_71 : decode cX1_lackOfRoom 71 = .ok (.iadd, 1) := by decide +kernel
theorem dX1_lackOfRoom_72 : decode cX1_lackOfRoom 72 = .ok (.iload_n 3, 1) := by decide +kernel
theorem dX1_lackOfRoom_73 : decode cX1_lackOfRoom 73 = .ok (.if_icmp .le 8, 3) := by decide +kernel
theorem dX1_lackOfRoom_76 : decode cX1_lackOfRoom 76 = .ok (.bipush 7, 2) := by decide +kernel
theorem dX1_lackOfRoom_78 : decode cX1_lackOfRoom 78 = .ok (.goto 4, 3) := by decide +kernel
theorem dX1_lackOfRoom_81 : decode cX1_lackOfRoom 81 = .ok (.iconst 0, 1) := by decide +kernel
theorem dX1_lackOfRoom_82 : decode cX1_lackOfRoom 82 = .ok (.ireturn, 1) := by decide +kernel
theorem dX1_makeRoom_0 : decode cX1_makeRoom 0 = .ok (.aload_n 0, 1) := by decide +kernel
theorem dX1_makeRoom_1 : decode cX1_makeRoom 1 = .ok (.getfield 19, 3) := by decide +kernel
theorem dX1_makeRoom_4 : decode cX1_makeRoom 4 = .ok (.iload_n 1, 1) := by decide +kernel
theorem dX1_makeRoom_5 : decode cX1_makeRoom 5 = .ok (.invokevirtual 160, 3) := by decide +kernel
theorem dX1_makeRoom_8 : decode cX1_makeRoom 8 = .ok (.aload_n 0, 1) := by decide +kernel
theorem dX1_makeRoom_9 : decode cX1_makeRoom 9 = .ok (.getfield 29, 3) := by decide +kernel
theorem dX1_makeRoom_12 : decode cX1_makeRoom 12 = .ok (.iload_n 2, 1) := by decide +kernel
theorem dX1_makeRoom_13 : decode cX1_makeRoom 13 = .ok (.iconst 3, 1) := by decide +kernel
theorem dX1_makeRoom_14 : decode cX1_makeRoom 14 = .ok (.invokevirtual 42, 3) := by decide +kernel
theorem dX1_makeRoom_17 : decode cX1_makeRoom 17 = .ok (.iadd, 1) := by decide +kernel
theorem dX1_makeRoom_18 : decode cX1_makeRoom 18 = .ok (.istore_n 3, 1) := by decide +kernel
theorem dX1_makeRoom_19 : decode cX1_makeRoom 19 = .ok (.iconst 0, 1) := by decide +kernel
theorem dX1_makeRoom_20 : decode cX1_makeRoom 20 = .ok (.istore 4, 2) := by decide +kernel
theorem dX1_makeRoom_22 : decode cX1_makeRoom 22 = .ok (.iload 4, 2) := by decide +kernel
theorem dX1_makeRoom_24 : decode cX1_makeRoom 24 = .ok (.bipush 16, 2) := by decide +kernel
theorem dX1_makeRoom_26 : decode cX1_makeRoom 26 = .ok (.if_icmp .ge 72, 3) := by decide +kernel
theorem dX1_makeRoom_29 : decode cX1_makeRoom 29 = .ok (.iload_n 3, 1) := by decide +kernel
theorem dX1_makeRoom_30 : decode cX1_makeRoom 30 = .ok (.aload_n 0, 1) := by decide +kernel
theorem dX1_makeRoom_31 : decode cX1_makeRoom 31 = .ok (.getfield 29, 3) := by decide +kernel
theorem dX1_makeRoom_34 : decode cX1_makeRoom 34 = .ok (.getfield 157, 3) := by decide +kernel
theorem dX1_makeRoom_37 : decode cX1_makeRoom 37 = .ok (.iload_n 1, 1) := by decide +kernel
theorem dX1_makeRoom_38 : decode cX1_makeRoom 38 = .ok (.iaload, 1) := by decide +kernel
theorem dX1_makeRoom_39 : decode cX1_makeRoom 39 = .ok (.if_icmp .le 59, 3) := by decide +kernel
theorem dX1_makeRoom_42 : decode cX1_makeRoom 42 = .ok (.aload_n 0, 1) := by decide +kernel
theorem dX1_makeRoom_43 : decode cX1_makeRoom 43 = .ok (.iload_n 1, 1) := by decide +kernel
theorem dX1_makeRoom_44 : decode cX1_makeRoom 44 = .ok (.invokevirtual 166, 3) := by decide +kernel
theorem dX1_makeRoom_47 : decode cX1_makeRoom 47 = .ok (.istore 5, 2) := by decide +kernel
theorem dX1_makeRoom_49 : decode cX1_makeRoom 49 = .ok (.iload 5, 2) := by decide +kernel
theorem dX1_makeRoom_51 : decode cX1_makeRoom 51 = .ok (.iconst (-1), 1) := by decide +kernel
theorem dX1_makeRoom_52 : decode cX1_makeRoom 52 = .ok (.if_icmp .ne 4, 3) := by decide +kernel
theorem dX1_makeRoom_55 : decode cX1_makeRoom 55 = .ok (.return_, 1) := by decide +kernel
theorem dX1_makeRoom_56 : decode cX1_makeRoom 56 = .ok (.iload_n 3, 1) := by decide +kernel
theorem dX1_makeRoom_57 : decode cX1_makeRoom 57 = .ok (.aload_n 0, 1) := by decide +kernel
theorem dX1_makeRoom_58 : decode cX1_makeRoom 58 = .ok (.getfield 29, 3) := by decide +kernel
theorem dX1_makeRoom_61 : decode cX1_makeRoom 61 = .ok (.iload 5, 2) := by decide +kernel
theorem dX1_makeRoom_63 : decode cX1_makeRoom 63 = .ok (.iconst 3, 1) := by decide +kernel
theorem dX1_makeRoom_64 : decode cX1_makeRoom 64 = .ok (.invokevirtual 42, 3) := by decide +kernel
theorem dX1_makeRoom_67 : decode cX1_makeRoom 67 = .ok (.isub, 1) := by decide +kernel
theorem dX1_makeRoom_68 : decode cX1_makeRoom 68 = .ok (.istore_n 3, 1) := by decide +kernel
theorem dX1_makeRoom_69 : decode cX1_makeRoom 69 = .ok (.aload_n 0, 1) := by decide +kernel
theorem dX1_makeRoom_70 : decode cX1_makeRoom 70 = .ok (.getfield 19, 3) := by decide +kernel
theorem dX1_makeRoom_73 : decode cX1_makeRoom 73 = .ok (.iload_n 1, 1) := by decide +kernel
theorem dX1_makeRoom_74 : decode cX1_makeRoom 74 = .ok (.iload 5, 2) := by decide +kernel
theorem dX1_makeRoom_76 : decode cX1_makeRoom 76 = .ok (.invokevirtual 78, 3) := by decide +kernel
theorem dX1_makeRoom_79 : decode cX1_makeRoom 79 = .ok (.aload_n 0, 1) := by decide +kernel
theorem dX1_makeRoom_80 : decode cX1_makeRoom 80 = .ok (.getfield 19, 3) := by decide +kernel
theorem dX1_makeRoom_83 : decode cX1_makeRoom 83 = .ok (.getfield 82, 3) := by decide +kernel
theorem dX1_makeRoom_86 : decode cX1_makeRoom 86 = .ok (.iconst 2, 1) := by decide +kernel
theorem dX1_makeRoom_87 : decode cX1_makeRoom 87 = .ok (.dup2, 1) := by decide +kernel
theorem dX1_makeRoom_88 : decode cX1_makeRoom 88 = .ok (.iaload, 1) := by decide +kernel
theorem dX1_makeRoom_89 : decode cX1_makeRoom 89 = .ok (.iconst 1, 1) := by decide +kernel
theorem dX1_makeRoom_90 : decode cX1_makeRoom 90 = .ok (.iadd, 1) := by decide +kernel
theorem dX1_makeRoom_91 : decode cX1_makeRoom 91 = .ok (.iastore, 1) := by decide +kernel
theorem dX1_makeRoom_92 : decode cX1_makeRoom 92 = .ok (.iinc 4 1, 3) := by decide +kernel
theorem dX1_makeRoom_95 : decode cX1_makeRoom 95 = .ok (.goto (-73), 3) := by decide +kernel
theorem dX1_makeRoom_98 : decode cX1_makeRoom 98 = .ok (.return_, 1) := by decide +kernel
theorem dX1_firstToGo_0 : decode cX1_firstToGo 0 = .ok (.iconst (-1), 1) := by decide +kernel
theorem dX1_firstToGo_1 : decode cX1_firstToGo 1 = .ok (.istore_n 2, 1) := by decide +kernel
theorem dX1_firstToGo_2 : decode cX1_firstToGo 2 = .ok (.iconst 0, 1) := by decide +kernel
theorem dX1_firstToGo_3 : decode cX1_firstToGo 3 = .ok (.istore_n 3, 1) := by decide +kernel
theorem dX1_firstToGo_4 : decode cX1_firstToGo 4 = .ok (.iconst 0, 1) := by decide +kernel
theorem dX1_firstToGo_5 : decode cX1_firstToGo 5 = .ok (.istore 4, 2) := by decide +kernel
theorem dX1_firstToGo_7 : decode cX1_firstToGo 7 = .ok (.iload 4, 2) := by decide +kernel
theorem dX1_firstToGo_9 : decode cX1_firstToGo 9 = .ok (.aload_n 0, 1) := by decide +kernel
theorem dX1_firstToGo_10 : decode cX1_firstToGo 10 = .ok (.getfield 29, 3) := by decide +kernel
theorem dX1_firstToGo_13 : decode cX1_firstToGo 13 = .ok (.getfield 37, 3) := by decide +kernel
theorem dX1_firstToGo_16 : decode cX1_firstToGo 16 = .ok (.if_icmp .ge 65, 3) := by decide +kernel
theorem dX1_firstToGo_19 : decode cX1_firstToGo 19 = .ok (.aload_n 0, 1) := by decide +kernel
theorem dX1_firstToGo_20 : decode cX1_firstToGo 20 = .ok (.getfield 19, 3) := by decide +kernel
theorem dX1_firstToGo_23 : decode cX1_firstToGo 23 = .ok (.iload_n 1, 1) := by decide +kernel
theorem dX1_firstToGo_24 : decode cX1_firstToGo 24 = .ok (.iload 4, 2) := by decide +kernel
theorem dX1_firstToGo_26 : decode cX1_firstToGo 26 = .ok (.invokevirtual 74, 3) := by decide +kernel
theorem dX1_firstToGo_29 : decode cX1_firstToGo 29 = .ok (.ifCond .eq 46, 3) := by decide +kernel
theorem dX1_firstToGo_32 : decode cX1_firstToGo 32 = .ok (.aload_n 0, 1) := by decide +kernel
theorem dX1_firstToGo_33 : decode cX1_firstToGo 33 = .ok (.getfield 29, 3) := by decide +kernel
theorem dX1_firstToGo_36 : decode cX1_firstToGo 36 = .ok (.iload 4, 2) := by decide +kernel
theorem dX1_firstToGo_38 : decode cX1_firstToGo 38 = .ok (.iconst 1, 1) := by decide +kernel
theorem dX1_firstToGo_39 : decode cX1_firstToGo 39 = .ok (.invokevirtual 42, 3) := by decide +kernel
theorem dX1_firstToGo_42 : decode cX1_firstToGo 42 = .ok (.iload_n 1, 1) := by decide +kernel
theorem dX1_firstToGo_43 : decode cX1_firstToGo 43 = .ok (.if_icmp .ne 6, 3) := by decide +kernel
theorem dX1_firstToGo_46 : decode cX1_firstToGo 46 = .ok (.goto 29, 3) := by decide +kernel
theorem dX1_firstToGo_49 : decode cX1_firstToGo 49 = .ok (.aload_n 0, 1) := by decide +kernel
theorem dX1_firstToGo_50 : decode cX1_firstToGo 50 = .ok (.iload_n 1, 1) := by decide +kernel
theorem dX1_firstToGo_51 : decode cX1_firstToGo 51 = .ok (.iload 4, 2) := by decide +kernel
theorem dX1_firstToGo_53 : decode cX1_firstToGo 53 = .ok (.invokevirtual 169, 3) := by decide +kernel
theorem dX1_firstToGo_56 : decode cX1_firstToGo 56 = .ok (.istore 5, 2) := by decide +kernel
theorem dX1_firstToGo_58 : decode cX1_firstToGo 58 = .ok (.iload_n 2, 1) := by decide +kernel
theorem dX1_firstToGo_59 : decode cX1_firstToGo 59 = .ok (.iconst (-1), 1) := by decide +kernel
theorem dX1_firstToGo_60 : decode cX1_firstToGo 60 = .ok (.if_icmp .eq 9, 3) := by decide +kernel
theorem dX1_firstToGo_63 : decode cX1_firstToGo 63 = .ok (.iload 5, 2) := by decide +kernel
theorem dX1_firstToGo_65 : decode cX1_firstToGo 65 = .ok (.iload_n 3, 1) := by decide +kernel
theorem dX1_firstToGo_66 : decode cX1_firstToGo 66 = .ok (.if_icmp .ge 9, 3) := by decide +kernel
theorem dX1_firstToGo_69 : decode cX1_firstToGo 69 = .ok (.iload 4, 2) := by decide +kernel
theorem dX1_firstToGo_71 : decode cX1_firstToGo 71 = .ok (.istore_n 2, 1) := by decide +kernel
theorem dX1_firstToGo_72 : decode cX1_firstToGo 72 = .ok (.iload 5, 2) := by decide +kernel
theorem dX1_firstToGo_74 : decode cX1_firstToGo 74 = .ok (.istore_n 3, 1) := by decide +kernel
theorem dX1_firstToGo_75 : decode cX1_firstToGo 75 = .ok (.iinc 4 1, 3) := by decide +kernel
theorem dX1_firstToGo_78 : decode cX1_firstToGo 78 = .ok (.goto (-71), 3) := by decide +kernel
theorem dX1_firstToGo_81 : decode cX1_firstToGo 81 = .ok (.iload_n 2, 1) := by decide +kernel
theorem dX1_firstToGo_82 : decode cX1_firstToGo 82 = .ok (.ireturn, 1) := by decide +kernel
theorem dX1_rankToGo_0 : decode cX1_rankToGo 0 = .ok (.aload_n 0, 1) := by decide +kernel
theorem dX1_rankToGo_1 : decode cX1_rankToGo 1 = .ok (.getfield 19, 3) := by decide +kernel
theorem dX1_rankToGo_4 : decode cX1_rankToGo 4 = .ok (.getfield 53, 3) := by decide +kernel
theorem dX1_rankToGo_7 : decode cX1_rankToGo 7 = .ok (.iconst 2, 1) := by decide +kernel
theorem dX1_rankToGo_8 : decode cX1_rankToGo 8 = .ok (.iaload, 1) := by decide +kernel
theorem dX1_rankToGo_9 : decode cX1_rankToGo 9 = .ok (.lookupswitch 58 #[(1, 27), (2, 42)], 27) := by decide +kernel
theorem dX1_rankToGo_36 : decode cX1_rankToGo 36 = .ok (.aload_n 0, 1) := by decide +kernel
theorem dX1_rankToGo_37 : decode cX1_rankToGo 37 = .ok (.getfield 19, 3) := by decide +kernel
theorem dX1_rankToGo_40 : decode cX1_rankToGo 40 = .ok (.getfield 172, 3) := by decide +kernel
theorem dX1_rankToGo_43 : decode cX1_rankToGo 43 = .ok (.iload_n 1, 1) := by decide +kernel
theorem dX1_rankToGo_44 : decode cX1_rankToGo 44 = .ok (.bipush 16, 2) := by decide +kernel
theorem dX1_rankToGo_46 : decode cX1_rankToGo 46 = .ok (.imul, 1) := by decide +kernel
theorem dX1_rankToGo_47 : decode cX1_rankToGo 47 = .ok (.iload_n 2, 1) := by decide +kernel
theorem dX1_rankToGo_48 : decode cX1_rankToGo 48 = .ok (.iadd, 1) := by decide +kernel
theorem dX1_rankToGo_49 : decode cX1_rankToGo 49 = .ok (.iaload, 1) := by decide +kernel
theorem dX1_rankToGo_50 : decode cX1_rankToGo 50 = .ok (.ireturn, 1) := by decide +kernel
theorem dX1_rankToGo_51 : decode cX1_rankToGo 51 = .ok (.aload_n 0, 1) := by decide +kernel
theorem dX1_rankToGo_52 : decode cX1_rankToGo 52 = .ok (.getfield 29, 3) := by decide +kernel
theorem dX1_rankToGo_55 : decode cX1_rankToGo 55 = .ok (.getfield 175, 3) := by decide +kernel
theorem dX1_rankToGo_58 : decode cX1_rankToGo 58 = .ok (.iload_n 2, 1) := by decide +kernel
theorem dX1_rankToGo_59 : decode cX1_rankToGo 59 = .ok (.bipush 6, 2) := by decide +kernel
theorem dX1_rankToGo_61 : decode cX1_rankToGo 61 = .ok (.imul, 1) := by decide +kernel
theorem dX1_rankToGo_62 : decode cX1_rankToGo 62 = .ok (.iconst 3, 1) := by decide +kernel
theorem dX1_rankToGo_63 : decode cX1_rankToGo 63 = .ok (.iadd, 1) := by decide +kernel
theorem dX1_rankToGo_64 : decode cX1_rankToGo 64 = .ok (.iaload, 1) := by decide +kernel
theorem dX1_rankToGo_65 : decode cX1_rankToGo 65 = .ok (.ineg, 1) := by decide +kernel
theorem dX1_rankToGo_66 : decode cX1_rankToGo 66 = .ok (.ireturn, 1) := by decide +kernel
theorem dX1_rankToGo_67 : decode cX1_rankToGo 67 = .ok (.aload_n 0, 1) := by decide +kernel
theorem dX1_rankToGo_68 : decode cX1_rankToGo 68 = .ok (.getfield 29, 3) := by decide +kernel
theorem dX1_rankToGo_71 : decode cX1_rankToGo 71 = .ok (.getfield 175, 3) := by decide +kernel
theorem dX1_rankToGo_74 : decode cX1_rankToGo 74 = .ok (.iload_n 2, 1) := by decide +kernel
theorem dX1_rankToGo_75 : decode cX1_rankToGo 75 = .ok (.bipush 6, 2) := by decide +kernel
theorem dX1_rankToGo_77 : decode cX1_rankToGo 77 = .ok (.imul, 1) := by decide +kernel
theorem dX1_rankToGo_78 : decode cX1_rankToGo 78 = .ok (.iconst 0, 1) := by decide +kernel
theorem dX1_rankToGo_79 : decode cX1_rankToGo 79 = .ok (.iadd, 1) := by decide +kernel
theorem dX1_rankToGo_80 : decode cX1_rankToGo 80 = .ok (.iaload, 1) := by decide +kernel
theorem dX1_rankToGo_81 : decode cX1_rankToGo 81 = .ok (.aload_n 0, 1) := by decide +kernel
theorem dX1_rankToGo_82 : decode cX1_rankToGo 82 = .ok (.getfield 29, 3) := by decide +kernel
theorem dX1_rankToGo_85 : decode cX1_rankToGo 85 = .ok (.getfield 175, 3) := by decide +kernel
theorem dX1_rankToGo_88 : decode cX1_rankToGo 88 = .ok (.iload_n 2, 1) := by decide +kernel
theorem dX1_rankToGo_89 : decode cX1_rankToGo 89 = .ok (.bipush 6, 2) := by decide +kernel
theorem dX1_rankToGo_91 : decode cX1_rankToGo 91 = .ok (.imul, 1) := by decide +kernel
theorem dX1_rankToGo_92 : decode cX1_rankToGo 92 = .ok (.iconst 5, 1) := by decide +kernel
theorem dX1_rankToGo_93 : decode cX1_rankToGo 93 = .ok (.iadd, 1) := by decide +kernel
theorem dX1_rankToGo_94 : decode cX1_rankToGo 94 = .ok (.iaload, 1) := by decide +kernel
theorem dX1_rankToGo_95 : decode cX1_rankToGo 95 = .ok (.iadd, 1) := by decide +kernel
theorem dX1_rankToGo_96 : decode cX1_rankToGo 96 = .ok (.ireturn, 1) := by decide +kernel
theorem dX1_copyByOrder_0 : decode cX1_copyByOrder 0 = .ok (.aload_n 0, 1) := by decide +kernel
theorem dX1_copyByOrder_1 : decode cX1_copyByOrder 1 = .ok (.iload_n 1, 1) := by decide +kernel
theorem dX1_copyByOrder_2 : decode cX1_copyByOrder 2 = .ok (.iconst (-1), 1) := by decide +kernel
theorem dX1_copyByOrder_3 : decode cX1_copyByOrder 3 = .ok (.invokevirtual 114, 3) := by decide +kernel
theorem dX1_copyByOrder_6 : decode cX1_copyByOrder 6 = .ok (.istore_n 3, 1) := by decide +kernel
theorem dX1_copyByOrder_7 : decode cX1_copyByOrder 7 = .ok (.iload_n 2, 1) := by decide +kernel
theorem dX1_copyByOrder_8 : decode cX1_copyByOrder 8 = .ok (.ifCond .lt 17, 3) := by decide +kernel
theorem dX1_copyByOrder_11 : decode cX1_copyByOrder 11 = .ok (.iload_n 2, 1) := by decide +kernel
theorem dX1_copyByOrder_12 : decode cX1_copyByOrder 12 = .ok (.iload_n 3, 1) := by decide +kernel
theorem dX1_copyByOrder_13 : decode cX1_copyByOrder 13 = .ok (.if_icmp .ge 12, 3) := by decide +kernel
theorem dX1_copyByOrder_16 : decode cX1_copyByOrder 16 = .ok (.aload_n 0, 1) := by decide +kernel
theorem dX1_copyByOrder_17 : decode cX1_copyByOrder 17 = .ok (.getfield 9, 3) := by decide +kernel
theorem dX1_copyByOrder_20 : decode cX1_copyByOrder 20 = .ok (.iload_n 2, 1) := by decide +kernel
theorem dX1_copyByOrder_21 : decode cX1_copyByOrder 21 = .ok (.iaload, 1) := by decide +kernel
theorem dX1_copyByOrder_22 : decode cX1_copyByOrder 22 = .ok (.goto 4, 3) := by decide +kernel
theorem dX1_copyByOrder_25 : decode cX1_copyByOrder 25 = .ok (.iconst (-1), 1) := by decide +kernel
theorem dX1_copyByOrder_26 : decode cX1_copyByOrder 26 = .ok (.ireturn, 1) := by decide +kernel
theorem dX1_listCopies_0 : decode cX1_listCopies 0 = .ok (.iconst 0, 1) := by decide +kernel
theorem dX1_listCopies_1 : decode cX1_listCopies 1 = .ok (.istore_n 3, 1) := by decide +kernel
theorem dX1_listCopies_2 : decode cX1_listCopies 2 = .ok (.iconst 0, 1) := by decide +kernel
theorem dX1_listCopies_3 : decode cX1_listCopies 3 = .ok (.istore 4, 2) := by decide +kernel
theorem dX1_listCopies_5 : decode cX1_listCopies 5 = .ok (.iload 4, 2) := by decide +kernel
theorem dX1_listCopies_7 : decode cX1_listCopies 7 = .ok (.aload_n 0, 1) := by decide +kernel
theorem dX1_listCopies_8 : decode cX1_listCopies 8 = .ok (.getfield 29, 3) := by decide +kernel
theorem dX1_listCopies_11 : decode cX1_listCopies 11 = .ok (.getfield 37, 3) := by decide +kernel
theorem dX1_listCopies_14 : decode cX1_listCopies 14 = .ok (.if_icmp .ge 93, 3) := by decide +kernel
theorem dX1_listCopies_17 : decode cX1_listCopies 17 = .ok (.iload_n 3, 1) := by decide +kernel
theorem dX1_listCopies_18 : decode cX1_listCopies 18 = .ok (.bipush 16, 2) := by decide +kernel
theorem dX1_listCopies_20 : decode cX1_listCopies 20 = .ok (.if_icmp .ge 87, 3) := by decide +kernel
theorem dX1_listCopies_23 : decode cX1_listCopies 23 = .ok (.aload_n 0, 1) := by decide +kernel
theorem dX1_listCopies_24 : decode cX1_listCopies 24 = .ok (.getfield 19, 3) := by decide +kernel
theorem dX1_listCopies_27 : decode cX1_listCopies 27 = .ok (.iload_n 1, 1) := by decide +kernel
theorem dX1_listCopies_28 : decode cX1_listCopies 28 = .ok (.iload 4, 2) := by decide +kernel
theorem dX1_listCopies_30 : decode cX1_listCopies 30 = .ok (.invokevirtual 74, 3) := by decide +kernel
theorem dX1_listCopies_33 : decode cX1_listCopies 33 = .ok (.ifCond .ne 6, 3) := by decide +kernel
theorem dX1_listCopies_36 : decode cX1_listCopies 36 = .ok (.goto 65, 3) := by decide +kernel
theorem dX1_listCopies_39 : decode cX1_listCopies 39 = .ok (.iload_n 3, 1) := by decide +kernel
theorem dX1_listCopies_40 : decode cX1_listCopies 40 = .ok (.istore 5, 2) := by decide +kernel
theorem dX1_listCopies_42 : decode cX1_listCopies 42 = .ok (.iload 5, 2) := by decide +kernel
theorem dX1_listCopies_44 : decode cX1_listCopies 44 = .ok (.ifCond .le 45, 3) := by decide +kernel
theorem dX1_listCopies_47 : decode cX1_listCopies 47 = .ok (.aload_n 0, 1) := by decide +kernel
theorem dX1_listCopies_48 : decode cX1_listCopies 48 = .ok (.iload_n 1, 1) := by decide +kernel
theorem dX1_listCopies_49 : decode cX1_listCopies 49 = .ok (.iload_n 2, 1) := by decide +kernel
theorem dX1_listCopies_50 : decode cX1_listCopies 50 = .ok (.iload 4, 2) := by decide +kernel
theorem dX1_listCopies_52 : decode cX1_listCopies 52 = .ok (.aload_n 0, 1) := by decide +kernel
theorem dX1_listCopies_53 : decode cX1_listCopies 53 = .ok (.getfield 9, 3) := by decide +kernel
theorem dX1_listCopies_56 : decode cX1_listCopies 56 = .ok (.iload 5, 2) := by decide +kernel
theorem dX1_listCopies_58 : decode cX1_listCopies 58 = .ok (.iconst 1, 1) := by decide +kernel
theorem dX1_listCopies_59 : decode cX1_listCopies 59 = .ok (.isub, 1) := by decide +kernel
theorem dX1_listCopies_60 : decode cX1_listCopies 60 = .ok (.iaload, 1) := by decide +kernel
theorem dX1_listCopies_61 : decode cX1_listCopies 61 = .ok (.invokevirtual 178, 3) := by decide +kernel
theorem dX1_listCopies_64 : decode cX1_listCopies 64 = .ok (.ifCond .eq 25, 3) := by decide +kernel
theorem dX1_listCopies_67 : decode cX1_listCopies 67 = .ok (.aload_n 0, 1) := by decide +kernel
theorem dX1_listCopies_68 : decode cX1_listCopies 68 = .ok (.getfield 9, 3) := by decide +kernel
theorem dX1_listCopies_71 : decode cX1_listCopies 71 = .ok (.iload 5, 2) := by decide +kernel
theorem dX1_listCopies_73 : decode cX1_listCopies 73 = .ok (.aload_n 0, 1) := by decide +kernel
theorem dX1_listCopies_74 : decode cX1_listCopies 74 = .ok (.getfield 9, 3) := by decide +kernel
theorem dX1_listCopies_77 : decode cX1_listCopies 77 = .ok (.iload 5, 2) := by decide +kernel
theorem dX1_listCopies_79 : decode cX1_listCopies 79 = .ok (.iconst 1, 1) := by decide +kernel
theorem dX1_listCopies_80 : decode cX1_listCopies 80 = .ok (.isub, 1) := by decide +kernel
theorem dX1_listCopies_81 : decode cX1_listCopies 81 = .ok (.iaload, 1) := by decide +kernel
theorem dX1_listCopies_82 : decode cX1_listCopies 82 = .ok (.iastore, 1) := by decide +kernel
theorem dX1_listCopies_83 : decode cX1_listCopies 83 = .ok (.iinc 5 (-1), 3) := by decide +kernel
theorem dX1_listCopies_86 : decode cX1_listCopies 86 = .ok (.goto (-44), 3) := by decide +kernel
theorem dX1_listCopies_89 : decode cX1_listCopies 89 = .ok (.aload_n 0, 1) := by decide +kernel
theorem dX1_listCopies_90 : decode cX1_listCopies 90 = .ok (.getfield 9, 3) := by decide +kernel
theorem dX1_listCopies_93 : decode cX1_listCopies 93 = .ok (.iload 5, 2) := by decide +kernel
theorem dX1_listCopies_95 : decode cX1_listCopies 95 = .ok (.iload 4, 2) := by decide +kernel
theorem dX1_listCopies_97 : decode cX1_listCopies 97 = .ok (.iastore, 1) := by decide +kernel
theorem dX1_listCopies_98 : decode cX1_listCopies 98 = .ok (.iinc 3 1, 3) := by decide +kernel
theorem dX1_listCopies_101 : decode cX1_listCopies 101 = .ok (.iinc 4 1, 3) := by decide +kernel
theorem dX1_listCopies_104 : decode cX1_listCopies 104 = .ok (.goto (-99), 3) := by decide +kernel
theorem dX1_listCopies_107 : decode cX1_listCopies 107 = .ok (.iload_n 3, 1) := by decide +kernel
theorem dX1_listCopies_108 : decode cX1_listCopies 108 = .ok (.ireturn, 1) := by decide +kernel
theorem dX1_goesAhead_0 : decode cX1_goesAhead 0 = .ok (.aload_n 0, 1) := by decide +kernel
theorem dX1_goesAhead_1 : decode cX1_goesAhead 1 = .ok (.getfield 29, 3) := by decide +kernel
theorem dX1_goesAhead_4 : decode cX1_goesAhead 4 = .ok (.iload_n 3, 1) := by decide +kernel
theorem dX1_goesAhead_5 : decode cX1_goesAhead 5 = .ok (.iconst 2, 1) := by decide +kernel
theorem dX1_goesAhead_6 : decode cX1_goesAhead 6 = .ok (.invokevirtual 42, 3) := by decide +kernel
theorem dX1_goesAhead_9 : decode cX1_goesAhead 9 = .ok (.iload_n 2, 1) := by decide +kernel
theorem dX1_goesAhead_10 : decode cX1_goesAhead 10 = .ok (.if_icmp .ne 7, 3) := by decide +kernel
theorem dX1_goesAhead_13 : decode cX1_goesAhead 13 = .ok (.iconst 1, 1) := by decide +kernel
theorem dX1_goesAhead_14 : decode cX1_goesAhead 14 = .ok (.goto 4, 3) := by decide +kernel
theorem dX1_goesAhead_17 : decode cX1_goesAhead 17 = .ok (.iconst 0, 1) := by decide +kernel
theorem dX1_goesAhead_18 : decode cX1_goesAhead 18 = .ok (.istore 5, 2) := by decide +kernel
theorem dX1_goesAhead_20 : decode cX1_goesAhead 20 = .ok (.aload_n 0, 1) := by decide +kernel
theorem dX1_goesAhead_21 : decode cX1_goesAhead 21 = .ok (.getfield 29, 3) := by decide +kernel
theorem dX1_goesAhead_24 : decode cX1_goesAhead 24 = .ok (.iload 4, 2) := by decide +kernel
theorem dX1_goesAhead_26 : decode cX1_goesAhead 26 = .ok (.iconst 2, 1) := by decide +kernel
theorem dX1_goesAhead_27 : decode cX1_goesAhead 27 = .ok (.invokevirtual 42, 3) := by decide +kernel
theorem dX1_goesAhead_30 : decode cX1_goesAhead 30 = .ok (.iload_n 2, 1) := by decide +kernel
theorem dX1_goesAhead_31 : decode cX1_goesAhead 31 = .ok (.if_icmp .ne 7, 3) := by decide +kernel
theorem dX1_goesAhead_34 : decode cX1_goesAhead 34 = .ok (.iconst 1, 1) := by decide +kernel
theorem dX1_goesAhead_35 : decode cX1_goesAhead 35 = .ok (.goto 4, 3) := by decide +kernel
theorem dX1_goesAhead_38 : decode cX1_goesAhead 38 = .ok (.iconst 0, 1) := by decide +kernel
theorem dX1_goesAhead_39 : decode cX1_goesAhead 39 = .ok (.istore 6, 2) := by decide +kernel
theorem dX1_goesAhead_41 : decode cX1_goesAhead 41 = .ok (.iload 5, 2) := by decide +kernel
theorem dX1_goesAhead_43 : decode cX1_goesAhead 43 = .ok (.iload 6, 2) := by decide +kernel
theorem dX1_goesAhead_45 : decode cX1_goesAhead 45 = .ok (.if_icmp .eq 6, 3) := by decide +kernel
theorem dX1_goesAhead_48 : decode cX1_goesAhead 48 = .ok (.iload 5, 2) := by decide +kernel
theorem dX1_goesAhead_50 : decode cX1_goesAhead 50 = .ok (.ireturn, 1) := by decide +kernel
theorem dX1_goesAhead_51 : decode cX1_goesAhead 51 = .ok (.aload_n 0, 1) := by decide +kernel
theorem dX1_goesAhead_52 : decode cX1_goesAhead 52 = .ok (.getfield 19, 3) := by decide +kernel
theorem dX1_goesAhead_55 : decode cX1_goesAhead 55 = .ok (.getfield 136, 3) := by decide +kernel
theorem dX1_goesAhead_58 : decode cX1_goesAhead 58 = .ok (.iload_n 1, 1) := by decide +kernel
theorem dX1_goesAhead_59 : decode cX1_goesAhead 59 = .ok (.iload_n 3, 1) := by decide +kernel
theorem dX1_goesAhead_60 : decode cX1_goesAhead 60 = .ok (.invokestatic 130, 3) := by decide +kernel
theorem dX1_goesAhead_63 : decode cX1_goesAhead 63 = .ok (.iaload, 1) := by decide +kernel
theorem dX1_goesAhead_64 : decode cX1_goesAhead 64 = .ok (.aload_n 0, 1) := by decide +kernel
theorem dX1_goesAhead_65 : decode cX1_goesAhead 65 = .ok (.getfield 19, 3) := by decide +kernel
theorem dX1_goesAhead_68 : decode cX1_goesAhead 68 = .ok (.getfield 136, 3) := by decide +kernel
theorem dX1_goesAhead_71 : decode cX1_goesAhead 71 = .ok (.iload_n 1, 1) := by decide +kernel
theorem dX1_goesAhead_72 : decode cX1_goesAhead 72 = .ok (.iload 4, 2) := by decide +kernel
theorem dX1_goesAhead_74 : decode cX1_goesAhead 74 = .ok (.invokestatic 130, 3) := by decide +kernel
theorem dX1_goesAhead_77 : decode cX1_goesAhead 77 = .ok (.iaload, 1) := by decide +kernel
theorem dX1_goesAhead_78 : decode cX1_goesAhead 78 = .ok (.if_icmp .ge 7, 3) := by decide +kernel
theorem dX1_goesAhead_81 : decode cX1_goesAhead 81 = .ok (.iconst 1, 1) := by decide +kernel
theorem dX1_goesAhead_82 : decode cX1_goesAhead 82 = .ok (.goto 4, 3) := by decide +kernel
theorem dX1_goesAhead_85 : decode cX1_goesAhead 85 = .ok (.iconst 0, 1) := by decide +kernel
theorem dX1_goesAhead_86 : decode cX1_goesAhead 86 = .ok (.ireturn, 1) := by decide +kernel
theorem dX1_soonestOf_0 : decode cX1_soonestOf 0 = .ok (.iconst 0, 1) := by decide +kernel
theorem dX1_soonestOf_1 : decode cX1_soonestOf 1 = .ok (.istore_n 2, 1) := by decide +kernel
theorem dX1_soonestOf_2 : decode cX1_soonestOf 2 = .ok (.iload_n 2, 1) := by decide +kernel
theorem dX1_soonestOf_3 : decode cX1_soonestOf 3 = .ok (.bipush 8, 2) := by decide +kernel
theorem dX1_soonestOf_5 : decode cX1_soonestOf 5 = .ok (.if_icmp .ge 16, 3) := by decide +kernel
theorem dX1_soonestOf_8 : decode cX1_soonestOf 8 = .ok (.aload_n 0, 1) := by decide +kernel
theorem dX1_soonestOf_9 : decode cX1_soonestOf 9 = .ok (.getfield 15, 3) := by decide +kernel
theorem dX1_soonestOf_12 : decode cX1_soonestOf 12 = .ok (.iload_n 2, 1) := by decide +kernel
theorem dX1_soonestOf_13 : decode cX1_soonestOf 13 = .ok (.iconst 0, 1) := by decide +kernel
theorem dX1_soonestOf_14 : decode cX1_soonestOf 14 = .ok (.bastore, 1) := by decide +kernel
theorem dX1_soonestOf_15 : decode cX1_soonestOf 15 = .ok (.iinc 2 1, 3) := by decide +kernel
theorem dX1_soonestOf_18 : decode cX1_soonestOf 18 = .ok (.goto (-16), 3) := by decide +kernel
theorem dX1_soonestOf_21 : decode cX1_soonestOf 21 = .ok (.aload_n 0, 1) := by decide +kernel
theorem dX1_soonestOf_22 : decode cX1_soonestOf 22 = .ok (.getfield 15, 3) := by decide +kernel
theorem dX1_soonestOf_25 : decode cX1_soonestOf 25 = .ok (.aload_n 0, 1) := by decide +kernel
theorem dX1_soonestOf_26 : decode cX1_soonestOf 26 = .ok (.getfield 29, 3) := by decide +kernel
theorem dX1_soonestOf_29 : decode cX1_soonestOf 29 = .ok (.iload_n 1, 1) := by decide +kernel
theorem dX1_soonestOf_30 : decode cX1_soonestOf 30 = .ok (.iconst 1, 1) := by decide +kernel
theorem dX1_soonestOf_31 : decode cX1_soonestOf 31 = .ok (.invokevirtual 42, 3) := by decide +kernel
theorem dX1_soonestOf_34 : decode cX1_soonestOf 34 = .ok (.iconst 1, 1) := by decide +kernel
theorem dX1_soonestOf_35 : decode cX1_soonestOf 35 = .ok (.bastore, 1) := by decide +kernel
theorem dX1_soonestOf_36 : decode cX1_soonestOf 36 = .ok (.aload_n 0, 1) := by decide +kernel
theorem dX1_soonestOf_37 : decode cX1_soonestOf 37 = .ok (.getfield 29, 3) := by decide +kernel
theorem dX1_soonestOf_40 : decode cX1_soonestOf 40 = .ok (.iload_n 1, 1) := by decide +kernel
theorem dX1_soonestOf_41 : decode cX1_soonestOf 41 = .ok (.iconst 2, 1) := by decide +kernel
theorem dX1_soonestOf_42 : decode cX1_soonestOf 42 = .ok (.invokevirtual 42, 3) := by decide +kernel
theorem dX1_soonestOf_45 : decode cX1_soonestOf 45 = .ok (.istore_n 2, 1) := by decide +kernel
theorem dX1_soonestOf_46 : decode cX1_soonestOf 46 = .ok (.aload_n 0, 1) := by decide +kernel
theorem dX1_soonestOf_47 : decode cX1_soonestOf 47 = .ok (.getfield 29, 3) := by decide +kernel
theorem dX1_soonestOf_50 : decode cX1_soonestOf 50 = .ok (.iload_n 1, 1) := by decide +kernel
theorem dX1_soonestOf_51 : decode cX1_soonestOf 51 = .ok (.invokevirtual 67, 3) := by decide +kernel
theorem dX1_soonestOf_54 : decode cX1_soonestOf 54 = .ok (.istore_n 3, 1) := by decide +kernel
theorem dX1_soonestOf_55 : decode cX1_soonestOf 55 = .ok (.aload_n 0, 1) := by decide +kernel
theorem dX1_soonestOf_56 : decode cX1_soonestOf 56 = .ok (.getfield 29, 3) := by decide +kernel
theorem dX1_soonestOf_59 : decode cX1_soonestOf 59 = .ok (.iload_n 1, 1) := by decide +kernel
theorem dX1_soonestOf_60 : decode cX1_soonestOf 60 = .ok (.iconst 0, 1) := by decide +kernel
theorem dX1_soonestOf_61 : decode cX1_soonestOf 61 = .ok (.invokevirtual 42, 3) := by decide +kernel
theorem dX1_soonestOf_64 : decode cX1_soonestOf 64 = .ok (.istore 4, 2) := by decide +kernel
theorem dX1_soonestOf_66 : decode cX1_soonestOf 66 = .ok (.iload 4, 2) := by decide +kernel
theorem dX1_soonestOf_68 : decode cX1_soonestOf 68 = .ok (.iload_n 3, 1) := by decide +kernel
theorem dX1_soonestOf_69 : decode cX1_soonestOf 69 = .ok (.if_icmp .ge 27, 3) := by decide +kernel
theorem dX1_soonestOf_72 : decode cX1_soonestOf 72 = .ok (.aload_n 0, 1) := by decide +kernel
theorem dX1_soonestOf_73 : decode cX1_soonestOf 73 = .ok (.iload 4, 2) := by decide +kernel
theorem dX1_soonestOf_75 : decode cX1_soonestOf 75 = .ok (.invokevirtual 182, 3) := by decide +kernel
theorem dX1_soonestOf_78 : decode cX1_soonestOf 78 = .ok (.aload_n 0, 1) := by decide +kernel
theorem dX1_soonestOf_79 : decode cX1_soonestOf 79 = .ok (.getfield 15, 3) := by decide +kernel
theorem dX1_soonestOf_82 : decode cX1_soonestOf 82 = .ok (.iload_n 2, 1) := by decide +kernel
theorem dX1_soonestOf_83 : decode cX1_soonestOf 83 = .ok (.baload, 1) := by decide +kernel
theorem dX1_soonestOf_84 : decode cX1_soonestOf 84 = .ok (.ifCond .eq 6, 3) := by decide +kernel
theorem dX1_soonestOf_87 : decode cX1_soonestOf 87 = .ok (.iload 4, 2) := by decide +kernel
theorem dX1_soonestOf_89 : decode cX1_soonestOf 89 = .ok (.ireturn, 1) := by decide +kernel
theorem dX1_soonestOf_90 : decode cX1_soonestOf 90 = .ok (.iinc 4 1, 3) := by decide +kernel
theorem dX1_soonestOf_93 : decode cX1_soonestOf 93 = .ok (.goto (-27), 3) := by decide +kernel
theorem dX1_soonestOf_96 : decode cX1_soonestOf 96 = .ok (.bipush (-4), 2) := by decide +kernel
theorem dX1_soonestOf_98 : decode cX1_soonestOf 98 = .ok (.ireturn, 1) := by decide +kernel
theorem dX1_spreadIn_0 : decode cX1_spreadIn 0 = .ok (.iconst 0, 1) := by decide +kernel
theorem dX1_spreadIn_1 : decode cX1_spreadIn 1 = .ok (.istore_n 2, 1) := by decide +kernel
theorem dX1_spreadIn_2 : decode cX1_spreadIn 2 = .ok (.iload_n 2, 1) := by decide +kernel
theorem dX1_spreadIn_3 : decode cX1_spreadIn 3 = .ok (.aload_n 0, 1) := by decide +kernel
theorem dX1_spreadIn_4 : decode cX1_spreadIn 4 = .ok (.getfield 29, 3) := by decide +kernel
theorem dX1_spreadIn_7 : decode cX1_spreadIn 7 = .ok (.getfield 50, 3) := by decide +kernel
theorem dX1_spreadIn_10 : decode cX1_spreadIn 10 = .ok (.if_icmp .ge 97, 3) := by decide +kernel
theorem dX1_spreadIn_13 : decode cX1_spreadIn 13 = .ok (.aload_n 0, 1) := by decide +kernel
theorem dX1_spreadIn_14 : decode cX1_spreadIn 14 = .ok (.getfield 29, 3) := by decide +kernel
theorem dX1_spreadIn_17 : decode cX1_spreadIn 17 = .ok (.iload_n 2, 1) := by decide +kernel
theorem dX1_spreadIn_18 : decode cX1_spreadIn 18 = .ok (.iload_n 1, 1) := by decide +kernel
theorem dX1_spreadIn_19 : decode cX1_spreadIn 19 = .ok (.aload_n 0, 1) := by decide +kernel
theorem dX1_spreadIn_20 : decode cX1_spreadIn 20 = .ok (.getfield 19, 3) := by decide +kernel
theorem dX1_spreadIn_23 : decode cX1_spreadIn 23 = .ok (.getfield 53, 3) := by decide +kernel
theorem dX1_spreadIn_26 : decode cX1_spreadIn 26 = .ok (.iconst 0, 1) := by decide +kernel
theorem dX1_spreadIn_27 : decode cX1_spreadIn 27 = .ok (.iaload, 1) := by decide +kernel
theorem dX1_spreadIn_28 : decode cX1_spreadIn 28 = .ok (.invokevirtual 56, 3) := by decide +kernel
theorem dX1_spreadIn_31 : decode cX1_spreadIn 31 = .ok (.ifCond .ne 6, 3) := by decide +kernel
theorem dX1_spreadIn_34 : decode cX1_spreadIn 34 = .ok (.goto 67, 3) := by decide +kernel
theorem dX1_spreadIn_37 : decode cX1_spreadIn 37 = .ok (.aload_n 0, 1) := by decide +kernel
theorem dX1_spreadIn_38 : decode cX1_spreadIn 38 = .ok (.getfield 29, 3) := by decide +kernel
theorem dX1_spreadIn_41 : decode cX1_spreadIn 41 = .ok (.iload_n 2, 1) := by decide +kernel
theorem dX1_spreadIn_42 : decode cX1_spreadIn 42 = .ok (.iconst 1, 1) := by decide +kernel
theorem dX1_spreadIn_43 : decode cX1_spreadIn 43 = .ok (.invokevirtual 60, 3) := by decide +kernel
theorem dX1_spreadIn_46 : decode cX1_spreadIn 46 = .ok (.istore_n 3, 1) := by decide +kernel
theorem dX1_spreadIn_47 : decode cX1_spreadIn 47 = .ok (.aload_n 0, 1) := by decide +kernel
theorem dX1_spreadIn_48 : decode cX1_spreadIn 48 = .ok (.getfield 29, 3) := by decide +kernel
theorem dX1_spreadIn_51 : decode cX1_spreadIn 51 = .ok (.iload_n 2, 1) := by decide +kernel
theorem dX1_spreadIn_52 : decode cX1_spreadIn 52 = .ok (.iconst 2, 1) := by decide +kernel
theorem dX1_spreadIn_53 : decode cX1_spreadIn 53 = .ok (.invokevirtual 60, 3) := by decide +kernel
theorem dX1_spreadIn_56 : decode cX1_spreadIn 56 = .ok (.istore 4, 2) := by decide +kernel
theorem dX1_spreadIn_58 : decode cX1_spreadIn 58 = .ok (.aload_n 0, 1) := by decide +kernel
theorem dX1_spreadIn_59 : decode cX1_spreadIn 59 = .ok (.getfield 15, 3) := by decide +kernel
theorem dX1_spreadIn_62 : decode cX1_spreadIn 62 = .ok (.iload_n 3, 1) := by decide +kernel
theorem dX1_spreadIn_63 : decode cX1_spreadIn 63 = .ok (.baload, 1) := by decide +kernel
theorem dX1_spreadIn_64 : decode cX1_spreadIn 64 = .ok (.ifCond .ne 13, 3) := by decide +kernel
theorem dX1_spreadIn_67 : decode cX1_spreadIn 67 = .ok (.aload_n 0, 1) := by decide +kernel
theorem dX1_spreadIn_68 : decode cX1_spreadIn 68 = .ok (.getfield 15, 3) := by decide +kernel
theorem dX1_spreadIn_71 : decode cX1_spreadIn 71 = .ok (.iload 4, 2) := by decide +kernel
theorem dX1_spreadIn_73 : decode cX1_spreadIn 73 = .ok (.baload, 1) := by decide +kernel
theorem dX1_spreadIn_74 : decode cX1_spreadIn 74 = .ok (.ifCond .eq 7, 3) := by decide +kernel
theorem dX1_spreadIn_77 : decode cX1_spreadIn 77 = .ok (.iconst 1, 1) := by decide +kernel
theorem dX1_spreadIn_78 : decode cX1_spreadIn 78 = .ok (.goto 4, 3) := by decide +kernel
theorem dX1_spreadIn_81 : decode cX1_spreadIn 81 = .ok (.iconst 0, 1) := by decide +kernel
theorem dX1_spreadIn_82 : decode cX1_spreadIn 82 = .ok (.istore 5, 2) := by decide +kernel
theorem dX1_spreadIn_84 : decode cX1_spreadIn 84 = .ok (.aload_n 0, 1) := by decide +kernel
theorem dX1_spreadIn_85 : decode cX1_spreadIn 85 = .ok (.getfield 15, 3) := by decide +kernel
theorem dX1_spreadIn_88 : decode cX1_spreadIn 88 = .ok (.iload_n 3, 1) := by decide +kernel
theorem dX1_spreadIn_89 : decode cX1_spreadIn 89 = .ok (.iload 5, 2) := by decide +kernel
theorem dX1_spreadIn_91 : decode cX1_spreadIn 91 = .ok (.bastore, 1) := by decide +kernel
theorem dX1_spreadIn_92 : decode cX1_spreadIn 92 = .ok (.aload_n 0, 1) := by decide +kernel
theorem dX1_spreadIn_93 : decode cX1_spreadIn 93 = .ok (.getfield 15, 3) := by decide +kernel
theorem dX1_spreadIn_96 : decode cX1_spreadIn 96 = .ok (.iload 4, 2) := by decide +kernel
theorem dX1_spreadIn_98 : decode cX1_spreadIn 98 = .ok (.iload 5, 2) := by decide +kernel
theorem dX1_spreadIn_100 : decode cX1_spreadIn 100 = .ok (.bastore, 1) := by decide +kernel
theorem dX1_spreadIn_101 : decode cX1_spreadIn 101 = .ok (.iinc 2 1, 3) := by decide +kernel
theorem dX1_spreadIn_104 : decode cX1_spreadIn 104 = .ok (.goto (-102), 3) := by decide +kernel
theorem dX1_spreadIn_107 : decode cX1_spreadIn 107 = .ok (.return_, 1) := by decide +kernel
theorem dX2_init_0 : decode cX2_init 0 = .ok (.aload_n 0, 1) := by decide +kernel
theorem dX2_init_1 : decode cX2_init 1 = .ok (.invokespecial 3, 3) := by decide +kernel
theorem dX2_init_4 : decode cX2_init 4 = .ok (.aload_n 0, 1) := by decide +kernel
theorem dX2_init_5 : decode cX2_init 5 = .ok (.new 9, 3) := by decide +kernel
theorem dX2_init_8 : decode cX2_init 8 = .ok (.dup, 1) := by decide +kernel
theorem dX2_init_9 : decode cX2_init 9 = .ok (.invokespecial 11, 3) := by decide +kernel
theorem dX2_init_12 : decode cX2_init 12 = .ok (.putfield 12, 3) := by decide +kernel
theorem dX2_init_15 : decode cX2_init 15 = .ok (.aload_n 0, 1) := by decide +kernel
theorem dX2_init_16 : decode cX2_init 16 = .ok (.bipush 6, 2) := by decide +kernel
theorem dX2_init_18 : decode cX2_init 18 = .ok (.newarray .int, 2) := by decide +kernel
theorem dX2_init_20 : decode cX2_init 20 = .ok (.putfield 18, 3) := by decide +kernel
theorem dX2_init_23 : decode cX2_init 23 = .ok (.aload_n 0, 1) := by decide +kernel
theorem dX2_init_24 : decode cX2_init 24 = .ok (.aload_n 1, 1) := by decide +kernel
theorem dX2_init_25 : decode cX2_init 25 = .ok (.putfield 22, 3) := by decide +kernel
theorem dX2_init_28 : decode cX2_init 28 = .ok (.return_, 1) := by decide +kernel
theorem dX2_readAll_0 : decode cX2_readAll 0 = .ok (.aload_n 0, 1) := by decide +kernel
theorem dX2_readAll_1 : decode cX2_readAll 1 = .ok (.getfield 12, 3) := by decide +kernel
theorem dX2_readAll_4 : decode cX2_readAll 4 = .ok (.invokevirtual 26, 3) := by decide +kernel
theorem dX2_readAll_7 : decode cX2_readAll 7 = .ok (.aload_n 0, 1) := by decide +kernel
theorem dX2_readAll_8 : decode cX2_readAll 8 = .ok (.iconst 0, 1) := by decide +kernel
theorem dX2_readAll_9 : decode cX2_readAll 9 = .ok (.putfield 29, 3) := by decide +kernel
theorem dX2_readAll_12 : decode cX2_readAll 12 = .ok (.aload_n 0, 1) := by decide +kernel
theorem dX2_readAll_13 : decode cX2_readAll 13 = .ok (.iconst 0, 1) := by decide +kernel
theorem dX2_readAll_14 : decode cX2_readAll 14 = .ok (.putfield 33, 3) := by decide +kernel
theorem dX2_readAll_17 : decode cX2_readAll 17 = .ok (.aload_n 0, 1) := by decide +kernel
theorem dX2_readAll_18 : decode cX2_readAll 18 = .ok (.iconst 0, 1) := by decide +kernel
theorem dX2_readAll_19 : decode cX2_readAll 19 = .ok (.putfield 36, 3) := by decide +kernel
theorem dX2_readAll_22 : decode cX2_readAll 22 = .ok (.iconst 0, 1) := by decide +kernel
theorem dX2_readAll_23 : decode cX2_readAll 23 = .ok (.istore_n 1, 1) := by decide +kernel
theorem dX2_readAll_24 : decode cX2_readAll 24 = .ok (.iconst 0, 1) := by decide +kernel
theorem dX2_readAll_25 : decode cX2_readAll 25 = .ok (.istore_n 2, 1) := by decide +kernel
theorem dX2_readAll_26 : decode cX2_readAll 26 = .ok (.iload_n 2, 1) := by decide +kernel
theorem dX2_readAll_27 : decode cX2_readAll 27 = .ok (.sipush 300, 3) := by decide +kernel
theorem dX2_readAll_30 : decode cX2_readAll 30 = .ok (.if_icmp .gt 47, 3) := by decide +kernel
theorem dX2_readAll_33 : decode cX2_readAll 33 = .ok (.aload_n 0, 1) := by decide +kernel
theorem dX2_readAll_34 : decode cX2_readAll 34 = .ok (.invokevirtual 39, 3) := by decide +kernel
theorem dX2_readAll_37 : decode cX2_readAll 37 = .ok (.aload_n 0, 1) := by decide +kernel
theorem dX2_readAll_38 : decode cX2_readAll 38 = .ok (.getfield 33, 3) := by decide +kernel
theorem dX2_readAll_41 : decode cX2_readAll 41 = .ok (.ifCond .ne 36, 3) := by decide +kernel
theorem dX2_readAll_44 : decode cX2_readAll 44 = .ok (.aload_n 0, 1) := by decide +kernel
theorem dX2_readAll_45 : decode cX2_readAll 45 = .ok (.getfield 42, 3) := by decide +kernel
theorem dX2_readAll_48 : decode cX2_readAll 48 = .ok (.ifCond .ne 6, 3) := by decide +kernel
theorem dX2_readAll_51 : decode cX2_readAll 51 = .ok (.goto 26, 3) := by decide +kernel
theorem dX2_readAll_54 : decode cX2_readAll 54 = .ok (.aload_n 0, 1) := by decide +kernel
theorem dX2_readAll_55 : decode cX2_readAll 55 = .ok (.invokevirtual 45, 3) := by decide +kernel
theorem dX2_readAll_58 : decode cX2_readAll 58 = .ok (.aload_n 0, 1) := by decide +kernel
theorem dX2_readAll_59 : decode cX2_readAll 59 = .ok (.getfield 33, 3) := by decide +kernel
theorem dX2_readAll_62 : decode cX2_readAll 62 = .ok (.ifCond .eq 6, 3) := by decide +kernel
theorem dX2_readAll_65 : decode cX2_readAll 65 = .ok (.goto 12, 3) := by decide +kernel
theorem dX2_readAll_68 : decode cX2_readAll 68 = .ok (.iinc 1 1, 3) := by decide +kernel
theorem dX2_readAll_71 : decode cX2_readAll 71 = .ok (.iinc 2 1, 3) := by decide +kernel
theorem dX2_readAll_74 : decode cX2_readAll 74 = .ok (.goto (-48), 3) := by decide +kernel
theorem dX2_readAll_77 : decode cX2_readAll 77 = .ok (.aload_n 0, 1) := by decide +kernel
theorem dX2_readAll_78 : decode cX2_readAll 78 = .ok (.getfield 33, 3) := by decide +kernel
theorem dX2_readAll_81 : decode cX2_readAll 81 = .ok (.ifCond .ne 26, 3) := by decide +kernel
theorem dX2_readAll_84 : decode cX2_readAll 84 = .ok (.aload_n 0, 1) := by decide +kernel
theorem dX2_readAll_85 : decode cX2_readAll 85 = .ok (.getfield 12, 3) := by decide +kernel
theorem dX2_readAll_88 : decode cX2_readAll 88 = .ok (.invokevirtual 48, 3) := by decide +kernel
theorem dX2_readAll_91 : decode cX2_readAll 91 = .ok (.ifCond .ne 16, 3) := by decide +kernel
theorem dX2_readAll_94 : decode cX2_readAll 94 = .ok (.aload_n 0, 1) := by decide +kernel
theorem dX2_readAll_95 : decode cX2_readAll 95 = .ok (.bipush 6, 2) := by decide +kernel
theorem dX2_readAll_97 : decode cX2_readAll 97 = .ok (.aload_n 0, 1) := by decide +kernel
theorem dX2_readAll_98 : decode cX2_readAll 98 = .ok (.getfield 22, 3) := by decide +kernel
theorem dX2_readAll_101 : decode cX2_readAll 101 = .ok (.getfield 52, 3) := by decide +kernel
theorem dX2_readAll_104 : decode cX2_readAll 104 = .ok (.invokevirtual 57, 3) := by decide +kernel
theorem dX2_readAll_107 : decode cX2_readAll 107 = .ok (.iload_n 1, 1) := by decide +kernel
theorem dX2_readAll_108 : decode cX2_readAll 108 = .ok (.ireturn, 1) := by decide +kernel
theorem dX2_readLine_0 : decode cX2_readLine 0 = .ok (.aload_n 0, 1) := by decide +kernel
theorem dX2_readLine_1 : decode cX2_readLine 1 = .ok (.invokevirtual 61, 3) := by decide +kernel
theorem dX2_readLine_4 : decode cX2_readLine 4 = .ok (.istore_n 1, 1) := by decide +kernel
theorem dX2_readLine_5 : decode cX2_readLine 5 = .ok (.iload_n 1, 1) := by decide +kernel
theorem dX2_readLine_6 : decode cX2_readLine 6 = .ok (.iconst (-1), 1) := by decide +kernel
theorem dX2_readLine_7 : decode cX2_readLine 7 = .ok (.if_icmp .ne 13, 3) := by decide +kernel
theorem dX2_readLine_10 : decode cX2_readLine 10 = .ok (.aload_n 0, 1) := by decide +kernel
theorem dX2_readLine_11 : decode cX2_readLine 11 = .ok (.iconst 2, 1) := by decide +kernel
theorem dX2_readLine_12 : decode cX2_readLine 12 = .ok (.aload_n 0, 1) := by decide +kernel
theorem dX2_readLine_13 : decode cX2_readLine 13 = .ok (.getfield 65, 3) := by decide +kernel
theorem dX2_readLine_16 : decode cX2_readLine 16 = .ok (.invokevirtual 57, 3) := by decide +kernel
theorem dX2_readLine_19 : decode cX2_readLine 19 = .ok (.return_, 1) := by decide +kernel
theorem dX2_readLine_20 : decode cX2_readLine 20 = .ok (.aload_n 0, 1) := by decide +kernel
theorem dX2_readLine_21 : decode cX2_readLine 21 = .ok (.iload_n 1, 1) := by decide +kernel
theorem dX2_readLine_22 : decode cX2_readLine 22 = .ok (.invokevirtual 68, 3) := by decide +kernel
theorem dX2_readLine_25 : decode cX2_readLine 25 = .ok (.ifCond .eq 13, 3) := by decide +kernel
theorem dX2_readLine_28 : decode cX2_readLine 28 = .ok (.aload_n 0, 1) := by decide +kernel
theorem dX2_readLine_29 : decode cX2_readLine 29 = .ok (.iconst 4, 1) := by decide +kernel
theorem dX2_readLine_30 : decode cX2_readLine 30 = .ok (.aload_n 0, 1) := by decide +kernel
theorem dX2_readLine_31 : decode cX2_readLine 31 = .ok (.getfield 65, 3) := by decide +kernel
theorem dX2_readLine_34 : decode cX2_readLine 34 = .ok (.invokevirtual 57, 3) := by decide +kernel
theorem dX2_readLine_37 : decode cX2_readLine 37 = .ok (.return_, 1) := by decide +kernel
theorem dX2_readLine_38 : decode cX2_readLine 38 = .ok (.aload_n 0, 1) := by decide +kernel
theorem dX2_readLine_39 : decode cX2_readLine 39 = .ok (.iload_n 1, 1) := by decide +kernel
theorem dX2_readLine_40 : decode cX2_readLine 40 = .ok (.invokevirtual 72, 3) := by decide +kernel
theorem dX2_readLine_43 : decode cX2_readLine 43 = .ok (.aload_n 0, 1) := by decide +kernel
theorem dX2_readLine_44 : decode cX2_readLine 44 = .ok (.getfield 33, 3) := by decide +kernel
theorem dX2_readLine_47 : decode cX2_readLine 47 = .ok (.ifCond .eq 4, 3) := by decide +kernel
theorem dX2_readLine_50 : decode cX2_readLine 50 = .ok (.return_, 1) := by decide +kernel
theorem dX2_readLine_51 : decode cX2_readLine 51 = .ok (.aload_n 0, 1) := by decide +kernel
theorem dX2_readLine_52 : decode cX2_readLine 52 = .ok (.invokevirtual 39, 3) := by decide +kernel
theorem dX2_readLine_55 : decode cX2_readLine 55 = .ok (.aload_n 0, 1) := by decide +kernel
theorem dX2_readLine_56 : decode cX2_readLine 56 = .ok (.getfield 33, 3) := by decide +kernel
theorem dX2_readLine_59 : decode cX2_readLine 59 = .ok (.ifCond .eq 4, 3) := by decide +kernel
theorem dX2_readLine_62 : decode cX2_readLine 62 = .ok (.return_, 1) := by decide +kernel
theorem dX2_readLine_63 : decode cX2_readLine 63 = .ok (.aload_n 0, 1) := by decide +kernel
theorem dX2_readLine_64 : decode cX2_readLine 64 = .ok (.getfield 42, 3) := by decide +kernel
theorem dX2_readLine_67 : decode cX2_readLine 67 = .ok (.iconst 3, 1) := by decide +kernel
theorem dX2_readLine_68 : decode cX2_readLine 68 = .ok (.if_icmp .eq 13, 3) := by decide +kernel
theorem dX2_readLine_71 : decode cX2_readLine 71 = .ok (.aload_n 0, 1) := by decide +kernel
theorem dX2_readLine_72 : decode cX2_readLine 72 = .ok (.iconst 2, 1) := by decide +kernel
theorem dX2_readLine_73 : decode cX2_readLine 73 = .ok (.aload_n 0, 1) := by decide +kernel
theorem dX2_readLine_74 : decode cX2_readLine 74 = .ok (.getfield 65, 3) := by decide +kernel
theorem dX2_readLine_77 : decode cX2_readLine 77 = .ok (.invokevirtual 57, 3) := by decide +kernel
theorem dX2_readLine_80 : decode cX2_readLine 80 = .ok (.return_, 1) := by decide +kernel
theorem dX2_readLine_81 : decode cX2_readLine 81 = .ok (.aload_n 0, 1) := by decide +kernel
theorem dX2_readLine_82 : decode cX2_readLine 82 = .ok (.iload_n 1, 1) := by decide +kernel
theorem dX2_readLine_83 : decode cX2_readLine 83 = .ok (.invokevirtual 76, 3) := by decide +kernel
theorem dX2_readLine_86 : decode cX2_readLine 86 = .ok (.return_, 1) := by decide +kernel
theorem dX2_lineBegun_0 : decode cX2_lineBegun 0 = .ok (.aload_n 0, 1) := by decide +kernel
theorem dX2_lineBegun_1 : decode cX2_lineBegun 1 = .ok (.getfield 42, 3) := by decide +kernel
theorem dX2_lineBegun_4 : decode cX2_lineBegun 4 = .ok (.iconst 1, 1) := by decide +kernel
theorem dX2_lineBegun_5 : decode cX2_lineBegun 5 = .ok (.if_icmp .eq 5, 3) := by decide +kernel
theorem dX2_lineBegun_8 : decode cX2_lineBegun 8 = .ok (.iconst (-1), 1) := by decide +kernel
theorem dX2_lineBegun_9 : decode cX2_lineBegun 9 = .ok (.ireturn, 1) := by decide +kernel
theorem dX2_lineBegun_10 : decode cX2_lineBegun 10 = .ok (.aload_n 0, 1) := by decide +kernel
theorem dX2_lineBegun_11 : decode cX2_lineBegun 11 = .ok (.ldc 79, 2) := by decide +kernel
theorem dX2_lineBegun_13 : decode cX2_lineBegun 13 = .ok (.invokevirtual 81, 3) := by decide +kernel
theorem dX2_lineBegun_16 : decode cX2_lineBegun 16 = .ok (.ifCond .eq 5, 3) := by decide +kernel
theorem dX2_lineBegun_19 : decode cX2_lineBegun 19 = .ok (.iconst 0, 1) := by decide +kernel
theorem dX2_lineBegun_20 : decode cX2_lineBegun 20 = .ok (.ireturn, 1) := by decide +kernel
theorem dX2_lineBegun_21 : decode cX2_lineBegun 21 = .ok (.aload_n 0, 1) := by decide +kernel
theorem dX2_lineBegun_22 : decode cX2_lineBegun 22 = .ok (.ldc 85, 2) := by decide +kernel
theorem dX2_lineBegun_24 : decode cX2_lineBegun 24 = .ok (.invokevirtual 81, 3) := by decide +kernel
theorem dX2_lineBegun_27 : decode cX2_lineBegun 27 = .ok (.ifCond .eq 5, 3) := by decide +kernel
theorem dX2_lineBegun_30 : decode cX2_lineBegun 30 = .ok (.iconst 1, 1) := by decide +kernel
theorem dX2_lineBegun_31 : decode cX2_lineBegun 31 = .ok (.ireturn, 1) := by decide +kernel
theorem dX2_lineBegun_32 : decode cX2_lineBegun 32 = .ok (.aload_n 0, 1) := by decide +kernel
theorem dX2_lineBegun_33 : decode cX2_lineBegun 33 = .ok (.ldc 87, 2) := by decide +kernel
theorem dX2_lineBegun_35 : decode cX2_lineBegun 35 = .ok (.invokevirtual 81, 3) := by decide +kernel
theorem dX2_lineBegun_38 : decode cX2_lineBegun 38 = .ok (.ifCond .eq 7, 3) := by decide +kernel
theorem dX2_lineBegun_41 : decode cX2_lineBegun 41 = .ok (.iconst 2, 1) := by decide +kernel
theorem dX2_lineBegun_42 : decode cX2_lineBegun 42 = .ok (.goto 4, 3) := by decide +kernel
theorem dX2_lineBegun_45 : decode cX2_lineBegun 45 = .ok (.iconst (-1), 1) := by decide +kernel
theorem dX2_lineBegun_46 : decode cX2_lineBegun 46 = .ok (.ireturn, 1) := by decide +kernel
theorem dX2_isFull_0 : decode cX2_isFull 0 = .ok (.iload_n 1, 1) := by decide +kernel
theorem dX2_isFull_1 : decode cX2_isFull 1 = .ok (.lookupswitch 63 #[(0, 27), (1, 45)], 27) := by decide +kernel
theorem dX2_isFull_28 : decode cX2_isFull 28 = .ok (.aload_n 0, 1) := by decide +kernel
theorem dX2_isFull_29 : decode cX2_isFull 29 = .ok (.getfield 12, 3) := by decide +kernel
theorem dX2_isFull_32 : decode cX2_isFull 32 = .ok (.getfield 89, 3) := by decide +kernel
theorem dX2_isFull_35 : decode cX2_isFull 35 = .ok (.bipush 8, 2) := by decide +kernel
theorem dX2_isFull_37 : decode cX2_isFull 37 = .ok (.if_icmp .lt 7, 3) := by decide +kernel
theorem dX2_isFull_40 : decode cX2_isFull 40 = .ok (.iconst 1, 1) := by decide +kernel
theorem dX2_isFull_41 : decode cX2_isFull 41 = .ok (.goto 4, 3) := by decide +kernel
theorem dX2_isFull_44 : decode cX2_isFull 44 = .ok (.iconst 0, 1) := by decide +kernel
theorem dX2_isFull_45 : decode cX2_isFull 45 = .ok (.ireturn, 1) := by decide +kernel
theorem dX2_isFull_46 : decode cX2_isFull 46 = .ok (.aload_n 0, 1) := by decide +kernel
theorem dX2_isFull_47 : decode cX2_isFull 47 = .ok (.getfield 12, 3) := by decide +kernel
theorem dX2_isFull_50 : decode cX2_isFull 50 = .ok (.getfield 92, 3) := by decide +kernel
theorem dX2_isFull_53 : decode cX2_isFull 53 = .ok (.bipush 24, 2) := by decide +kernel
theorem dX2_isFull_55 : decode cX2_isFull 55 = .ok (.if_icmp .lt 7, 3) := by decide +kernel
theorem dX2_isFull_58 : decode cX2_isFull 58 = .ok (.iconst 1, 1) := by decide +kernel
theorem dX2_isFull_59 : decode cX2_isFull 59 = .ok (.goto 4, 3) := by decide +kernel
theorem dX2_isFull_62 : decode cX2_isFull 62 = .ok (.iconst 0, 1) := by decide +kernel
theorem dX2_isFull_63 : decode cX2_isFull 63 = .ok (.ireturn, 1) := by decide +kernel
theorem dX2_isFull_64 : decode cX2_isFull 64 = .ok (.aload_n 0, 1) := by decide +kernel
theorem dX2_isFull_65 : decode cX2_isFull 65 = .ok (.getfield 12, 3) := by decide +kernel
theorem dX2_isFull_68 : decode cX2_isFull 68 = .ok (.getfield 95, 3) := by decide +kernel
theorem dX2_isFull_71 : decode cX2_isFull 71 = .ok (.bipush 16, 2) := by decide +kernel
theorem dX2_isFull_73 : decode cX2_isFull 73 = .ok (.if_icmp .lt 7, 3) := by decide +kernel
theorem dX2_isFull_76 : decode cX2_isFull 76 = .ok (.iconst 1, 1) := by decide +kernel
theorem dX2_isFull_77 : decode cX2_isFull 77 = .ok (.goto 4, 3) := by decide +kernel
theorem dX2_isFull_80 : decode cX2_isFull 80 = .ok (.iconst 0, 1) := by decide +kernel
theorem dX2_isFull_81 : decode cX2_isFull 81 = .ok (.ireturn, 1) := by decide +kernel
theorem dX2_readNumbers_0 : decode cX2_readNumbers 0 = .ok (.iload_n 1, 1) := by decide +kernel
theorem dX2_readNumbers_1 : decode cX2_readNumbers 1 = .ok (.lookupswitch 53 #[(0, 27), (1, 40)], 27) := by decide +kernel
theorem dX2_readNumbers_28 : decode cX2_readNumbers 28 = .ok (.aload_n 0, 1) := by decide +kernel
theorem dX2_readNumbers_29 : decode cX2_readNumbers 29 = .ok (.getstatic 98, 3) := by decide +kernel
theorem dX2_readNumbers_32 : decode cX2_readNumbers 32 = .ok (.getstatic 101, 3) := by decide +kernel
theorem dX2_readNumbers_35 : decode cX2_readNumbers 35 = .ok (.invokevirtual 104, 3) := by decide +kernel
theorem dX2_readNumbers_38 : decode cX2_readNumbers 38 = .ok (.goto 26, 3) := by decide +kernel
theorem dX2_readNumbers_41 : decode cX2_readNumbers 41 = .ok (.aload_n 0, 1) := by decide +kernel
theorem dX2_readNumbers_42 : decode cX2_readNumbers 42 = .ok (.getstatic 108, 3) := by decide +kernel
theorem dX2_readNumbers_45 : decode cX2_readNumbers 45 = .ok (.getstatic 111, 3) := by decide +kernel
theorem dX2_readNumbers_48 : decode cX2_readNumbers 48 = .ok (.invokevirtual 104, 3) := by decide +kernel
theorem dX2_readNumbers_51 : decode cX2_readNumbers 51 = .ok (.goto 13, 3) := by decide +kernel
theorem dX2_readNumbers_54 : decode cX2_readNumbers 54 = .ok (.aload_n 0, 1) := by decide +kernel
theorem dX2_readNumbers_55 : decode cX2_readNumbers 55 = .ok (.getstatic 114, 3) := by decide +kernel
theorem dX2_readNumbers_58 : decode cX2_readNumbers 58 = .ok (.getstatic 117, 3) := by decide +kernel
theorem dX2_readNumbers_61 : decode cX2_readNumbers 61 = .ok (.invokevirtual 104, 3) := by decide +kernel
theorem dX2_readNumbers_64 : decode cX2_readNumbers 64 = .ok (.return_, 1) := by decide +kernel
theorem dX2_readNumbersWithin_0 : decode cX2_readNumbersWithin 0 = .ok (.iconst 0, 1) := by decide +kernel
theorem dX2_readNumbersWithin_1 : decode cX2_readNumbersWithin 1 = .ok (.istore_n 3, 1) := by decide +kernel
theorem dX2_readNumbersWithin_2 : decode cX2_readNumbersWithin 2 = .ok (.iload_n 3, 1) := by decide +kernel
theorem dX2_readNumbersWithin_3 : decode cX2_readNumbersWithin 3 = .ok (.aload_n 1, 1) := by decide +kernel
theorem dX2_readNumbersWithin_4 : decode cX2_readNumbersWithin 4 = .ok (.arraylength, 1) := by decide +kernel
theorem dX2_readNumbersWithin_5 : decode cX2_readNumbersWithin 5 = .ok (.if_icmp .ge 117, 3) := by decide +kernel
theorem dX2_readNumbersWithin_8 : decode cX2_readNumbersWithin 8 = .ok (.iload_n 3, 1) := by decide +kernel
theorem dX2_readNumbersWithin_9 : decode cX2_readNumbersWithin 9 = .ok (.aload_n 2, 1) := by decide +kernel
theorem dX2_readNumbersWithin_10 : decode cX2_readNumbersWithin 10 = .ok (.arraylength, 1) := by decide +kernel
theorem dX2_readNumbersWithin_11 : decode cX2_readNumbersWithin 11 = .ok (.if_icmp .ge 111, 3) := by decide +kernel
theorem dX2_readNumbersWithin_14 : decode cX2_readNumbersWithin 14 = .ok (.iload_n 3, 1) := by decide +kernel
theorem dX2_readNumbersWithin_15 : decode cX2_readNumbersWithin 15 = .ok (.bipush 6, 2) := by decide +kernel
theorem dX2_readNumbersWithin_17 : decode cX2_readNumbersWithin 17 = .ok (.if_icmp .ge 105, 3) := by decide +kernel
theorem dX2_readNumbersWithin_20 : decode cX2_readNumbersWithin 20 = .ok (.aload_n 0, 1) := by decide +kernel
theorem dX2_readNumbersWithin_21 : decode cX2_readNumbersWithin 21 = .ok (.invokevirtual 39, 3) := by decide +kernel
theorem dX2_readNumbersWithin_24 : decode cX2_readNumbersWithin 24 = .ok (.aload_n 0, 1) := by decide +kernel
theorem dX2_readNumbersWithin_25 : decode cX2_readNumbersWithin 25 = .ok (.getfield 33, 3) := by decide +kernel
theorem dX2_readNumbersWithin_28 : decode cX2_readNumbersWithin 28 = .ok (.ifCond .eq 4, 3) := by decide +kernel
theorem dX2_readNumbersWithin_31 : decode cX2_readNumbersWithin 31 = .ok (.return_, 1) := by decide +kernel
theorem dX2_readNumbersWithin_32 : decode cX2_readNumbersWithin 32 = .ok (.aload_n 0, 1) := by decide +kernel
theorem dX2_readNumbersWithin_33 : decode cX2_readNumbersWithin 33 = .ok (.getfield 42, 3) := by decide +kernel
theorem dX2_readNumbersWithin_36 : decode cX2_readNumbersWithin 36 = .ok (.iconst 2, 1) := by decide +kernel
theorem dX2_readNumbersWithin_37 : decode cX2_readNumbersWithin 37 = .ok (.if_icmp .eq 13, 3) := by decide +kernel
theorem dX2_readNumbersWithin_40 : decode cX2_readNumbersWithin 40 = .ok (.aload_n 0, 1) := by decide +kernel
theorem dX2_readNumbersWithin_41 : decode cX2_readNumbersWithin 41 = .ok (.iconst 2, 1) := by decide +kernel
theorem dX2_readNumbersWithin_42 : decode cX2_readNumbersWithin 42 = .ok (.aload_n 0, 1) := by decide +kernel
theorem dX2_readNumbersWithin_43 : decode cX2_readNumbersWithin 43 = .ok (.getfield 65, 3) := by decide +kernel
theorem dX2_readNumbersWithin_46 : decode cX2_readNumbersWithin 46 = .ok (.invokevirtual 57, 3) := by decide +kernel
theorem dX2_readNumbersWithin_49 : decode cX2_readNumbersWithin 49 = .ok (.return_, 1) := by decide +kernel
theorem dX2_readNumbersWithin_50 : decode cX2_readNumbersWithin 50 = .ok (.aload_n 0, 1) := by decide +kernel
theorem dX2_readNumbersWithin_51 : decode cX2_readNumbersWithin 51 = .ok (.invokevirtual 120, 3) := by decide +kernel
theorem dX2_readNumbersWithin_54 : decode cX2_readNumbersWithin 54 = .ok (.istore 4, 2) := by decide +kernel
theorem dX2_readNumbersWithin_56 : decode cX2_readNumbersWithin 56 = .ok (.iload 4, 2) := by decide +kernel
theorem dX2_readNumbersWithin_58 : decode cX2_readNumbersWithin 58 = .ok (.aload_n 1, 1) := by decide +kernel
theorem dX2_readNumbersWithin_59 : decode cX2_readNumbersWithin 59 = .ok (.iload_n 3, 1) := by decide +kernel
theorem dX2_readNumbersWithin_60 : decode cX2_readNumbersWithin 60 = .ok (.iaload, 1) := by decide +kernel
theorem dX2_readNumbersWithin_61 : decode cX2_readNumbersWithin 61 = .ok (.if_icmp .lt 11, 3) := by decide +kernel
theorem dX2_readNumbersWithin_64 : decode cX2_readNumbersWithin 64 = .ok (.iload 4, 2) := by decide +kernel
theorem dX2_readNumbersWithin_66 : decode cX2_readNumbersWithin 66 = .ok (.aload_n 2, 1) := by decide +kernel
theorem dX2_readNumbersWithin_67 : decode cX2_readNumbersWithin 67 = .ok (.iload_n 3, 1) := by decide +kernel
theorem dX2_readNumbersWithin_68 : decode cX2_readNumbersWithin 68 = .ok (.iaload, 1) := by decide +kernel
theorem dX2_readNumbersWithin_69 : decode cX2_readNumbersWithin 69 = .ok (.if_icmp .le 13, 3) := by decide +kernel
theorem dX2_readNumbersWithin_72 : decode cX2_readNumbersWithin 72 = .ok (.aload_n 0, 1) := by decide +kernel
theorem dX2_readNumbersWithin_73 : decode cX2_readNumbersWithin 73 = .ok (.iconst 3, 1) := by decide +kernel
theorem dX2_readNumbersWithin_74 : decode cX2_readNumbersWithin 74 = .ok (.aload_n 0, 1) := by decide +kernel
theorem dX2_readNumbersWithin_75 : decode cX2_readNumbersWithin 75 = .ok (.getfield 65, 3) := by decide +kernel
theorem dX2_readNumbersWithin_78 : decode cX2_readNumbersWithin 78 = .ok (.invokevirtual 57, 3) := by decide +kernel
theorem dX2_readNumbersWithin_81 : decode cX2_readNumbersWithin 81 = .ok (.return_, 1) := by decide +kernel
theorem dX2_readNumbersWithin_82 : decode cX2_readNumbersWithin 82 = .ok (.iload_n 3, 1) := by decide +kernel
theorem dX2_readNumbersWithin_83 : decode cX2_readNumbersWithin 83 = .ok (.iconst 2, 1) := by decide +kernel
theorem dX2_readNumbersWithin_84 : decode cX2_readNumbersWithin 84 = .ok (.if_icmp .ne 24, 3) := by decide +kernel
theorem dX2_readNumbersWithin_87 : decode cX2_readNumbersWithin 87 = .ok (.iload 4, 2) := by decide +kernel
theorem dX2_readNumbersWithin_89 : decode cX2_readNumbersWithin 89 = .ok (.aload_n 0, 1) := by decide +kernel
theorem dX2_readNumbersWithin_90 : decode cX2_readNumbersWithin 90 = .ok (.getfield 18, 3) := by decide +kernel
theorem dX2_readNumbersWithin_93 : decode cX2_readNumbersWithin 93 = .ok (.iconst 1, 1) := by decide +kernel
theorem dX2_readNumbersWithin_94 : decode cX2_readNumbersWithin 94 = .ok (.iaload, 1) := by decide +kernel
theorem dX2_readNumbersWithin_95 : decode cX2_readNumbersWithin 95 = .ok (.if_icmp .ne 13, 3) := by decide +kernel
theorem dX2_readNumbersWithin_98 : decode cX2_readNumbersWithin 98 = .ok (.aload_n 0, 1) := by decide +kernel
theorem dX2_readNumbersWithin_99 : decode cX2_readNumbersWithin 99 = .ok (.iconst 5, 1) := by decide +kernel
theorem dX2_readNumbersWithin_100 : decode cX2_readNumbersWithin 100 = .ok (.aload_n 0, 1) := by decide +kernel
theorem dX2_readNumbersWithin_101 : decode cX2_readNumbersWithin 101 = .ok (.getfield 65, 3) := by decide +kernel
theorem dX2_readNumbersWithin_104 : decode cX2_readNumbersWithin 104 = .ok (.invokevirtual 57, 3) := by decide +kernel
theorem dX2_readNumbersWithin_107 : decode cX2_readNumbersWithin 107 = .ok (.return_, 1) := by decide +kernel
theorem dX2_readNumbersWithin_108 : decode cX2_readNumbersWithin 108 = .ok (.aload_n 0, 1) := by decide +kernel
theorem dX2_readNumbersWithin_109 : decode cX2_readNumbersWithin 109 = .ok (.getfield 18, 3) := by decide +kernel
theorem dX2_readNumbersWithin_112 : decode cX2_readNumbersWithin 112 = .ok (.iload_n 3, 1) := by decide +kernel
theorem dX2_readNumbersWithin_113 : decode cX2_readNumbersWithin 113 = .ok (.iload 4, 2) := by decide +kernel
theorem dX2_readNumbersWithin_115 : decode cX2_readNumbersWithin 115 = .ok (.iastore, 1) := by decide +kernel
theorem dX2_readNumbersWithin_116 : decode cX2_readNumbersWithin 116 = .ok (.iinc 3 1, 3) := by decide +kernel
theorem dX2_readNumbersWithin_119 : decode cX2_readNumbersWithin 119 = .ok (.goto (-117), 3) := by decide +kernel
theorem dX2_readNumbersWithin_122 : decode cX2_readNumbersWithin 122 = .ok (.return_, 1) := by decide +kernel
theorem dX2_takeLine_0 : decode cX2_takeLine 0 = .ok (.aload_n 0, 1) := by decide +kernel
theorem dX2_takeLine_1 : decode cX2_takeLine 1 = .ok (.getfield 18, 3) := by decide +kernel
theorem dX2_takeLine_4 : decode cX2_takeLine 4 = .ok (.astore_n 2, 1) := by decide +kernel
theorem dX2_takeLine_5 : decode cX2_takeLine 5 = .ok (.iload_n 1, 1) := by decide +kernel
theorem dX2_takeLine_6 : decode cX2_takeLine 6 = .ok (.lookupswitch 61 #[(0, 26), (1, 39)], 26) := by decide +kernel
theorem dX2_takeLine_32 : decode cX2_takeLine 32 = .ok (.aload_n 0, 1) := by decide +kernel
theorem dX2_takeLine_33 : decode cX2_takeLine 33 = .ok (.getfield 12, 3) := by decide +kernel
theorem dX2_takeLine_36 : decode cX2_takeLine 36 = .ok (.aload_n 2, 1) := by decide +kernel
theorem dX2_takeLine_37 : decode cX2_takeLine 37 = .ok (.iconst 0, 1) := by decide +kernel
theorem dX2_takeLine_38 : decode cX2_takeLine 38 = .ok (.iaload, 1) := by decide +kernel
theorem dX2_takeLine_39 : decode cX2_takeLine 39 = .ok (.invokevirtual 123, 3) := by decide +kernel
theorem dX2_takeLine_42 : decode cX2_takeLine 42 = .ok (.goto 50, 3) := by decide +kernel
theorem dX2_takeLine_45 : decode cX2_takeLine 45 = .ok (.aload_n 0, 1) := by decide +kernel
theorem dX2_takeLine_46 : decode cX2_takeLine 46 = .ok (.getfield 12, 3) := by decide +kernel
theorem dX2_takeLine_49 : decode cX2_takeLine 49 = .ok (.aload_n 2, 1) := by decide +kernel
theorem dX2_takeLine_50 : decode cX2_takeLine 50 = .ok (.iconst 0, 1) := by decide +kernel
theorem dX2_takeLine_51 : decode cX2_takeLine 51 = .ok (.iaload, 1) := by decide +kernel
theorem dX2_takeLine_52 : decode cX2_takeLine 52 = .ok (.aload_n 2, 1) := by decide +kernel
theorem dX2_takeLine_53 : decode cX2_takeLine 53 = .ok (.iconst 1, 1) := by decide +kernel
theorem dX2_takeLine_54 : decode cX2_takeLine 54 = .ok (.iaload, 1) := by decide +kernel
theorem dX2_takeLine_55 : decode cX2_takeLine 55 = .ok (.aload_n 2, 1) := by decide +kernel
theorem dX2_takeLine_56 : decode cX2_takeLine 56 = .ok (.iconst 2, 1) := by decide +kernel
theorem dX2_takeLine_57 : decode cX2_takeLine 57 = .ok (.iaload, 1) := by decide +kernel
theorem dX2_takeLine_58 : decode cX2_takeLine 58 = .ok (.aload_n 2, 1) := by decide +kernel
theorem dX2_takeLine_59 : decode cX2_takeLine 59 = .ok (.iconst 3, 1) := by decide +kernel
theorem dX2_takeLine_60 : decode cX2_takeLine 60 = .ok (.iaload, 1) := by decide +kernel
theorem dX2_takeLine_61 : decode cX2_takeLine 61 = .ok (.invokevirtual 126, 3) := by decide +kernel
theorem dX2_takeLine_64 : decode cX2_takeLine 64 = .ok (.goto 28, 3) := by decide +kernel
theorem dX2_takeLine_67 : decode cX2_takeLine 67 = .ok (.aload_n 0, 1) := by decide +kernel
theorem dX2_takeLine_68 : decode cX2_takeLine 68 = .ok (.getfield 12, 3) := by decide +kernel
theorem dX2_takeLine_71 : decode cX2_takeLine 71 = .ok (.aload_n 2, 1) := by decide +kernel
theorem dX2_takeLine_72 : decode cX2_takeLine 72 = .ok (.iconst 0, 1) := by decide +kernel
theorem dX2_takeLine_73 : decode cX2_takeLine 73 = .ok (.iaload, 1) := by decide +kernel
theorem dX2_takeLine_74 : decode cX2_takeLine 74 = .ok (.aload_n 2, 1) := by decide +kernel
theorem dX2_takeLine_75 : decode cX2_takeLine 75 = .ok (.iconst 1, 1) := by decide +kernel
theorem dX2_takeLine_76 : decode cX2_takeLine 76 = .ok (.iaload, 1) := by decide +kernel
theorem dX2_takeLine_77 : decode cX2_takeLine 77 = .ok (.aload_n 2, 1) := by decide +kernel
theorem dX2_takeLine_78 : decode cX2_takeLine 78 = .ok (.iconst 2, 1) := by decide +kernel
theorem dX2_takeLine_79 : decode cX2_takeLine 79 = .ok (.iaload, 1) := by decide +kernel
theorem dX2_takeLine_80 : decode cX2_takeLine 80 = .ok (.aload_n 2, 1) := by decide +kernel
theorem dX2_takeLine_81 : decode cX2_takeLine 81 = .ok (.iconst 3, 1) := by decide +kernel
theorem dX2_takeLine_82 : decode cX2_takeLine 82 = .ok (.iaload, 1) := by decide +kernel
theorem dX2_takeLine_83 : decode cX2_takeLine 83 = .ok (.aload_n 2, 1) := by decide +kernel
theorem dX2_takeLine_84 : decode cX2_takeLine 84 = .ok (.iconst 4, 1) := by decide +kernel
theorem dX2_takeLine_85 : decode cX2_takeLine 85 = .ok (.iaload, 1) := by decide +kernel
theorem dX2_takeLine_86 : decode cX2_takeLine 86 = .ok (.aload_n 2, 1) := by decide +kernel
theorem dX2_takeLine_87 : decode cX2_takeLine 87 = .ok (.iconst 5, 1) := by decide +kernel
theorem dX2_takeLine_88 : decode cX2_takeLine 88 = .ok (.iaload, 1) := by decide +kernel
theorem dX2_takeLine_89 : decode cX2_takeLine 89 = .ok (.invokevirtual 130, 3) := by decide +kernel
theorem dX2_takeLine_92 : decode cX2_takeLine 92 = .ok (.return_, 1) := by decide +kernel
theorem dX2_readToken_0 : decode cX2_readToken 0 = .ok (.aload_n 0, 1) := by decide +kernel
theorem dX2_readToken_1 : decode cX2_readToken 1 = .ok (.getfield 29, 3) := by decide +kernel
theorem dX2_readToken_4 : decode cX2_readToken 4 = .ok (.aload_n 0, 1) := by decide +kernel
theorem dX2_readToken_5 : decode cX2_readToken 5 = .ok (.getfield 22, 3) := by decide +kernel
theorem dX2_readToken_8 : decode cX2_readToken 8 = .ok (.getfield 52, 3) := by decide +kernel
theorem dX2_readToken_11 : decode cX2_readToken 11 = .ok (.if_icmp .ge 29, 3) := by decide +kernel
theorem dX2_readToken_14 : decode cX2_readToken 14 = .ok (.aload_n 0, 1) := by decide +kernel
theorem dX2_readToken_15 : decode cX2_readToken 15 = .ok (.aload_n 0, 1) := by decide +kernel
theorem dX2_readToken_16 : decode cX2_readToken 16 = .ok (.getfield 29, 3) := by decide +kernel
theorem dX2_readToken_19 : decode cX2_readToken 19 = .ok (.invokevirtual 134, 3) := by decide +kernel
theorem dX2_readToken_22 : decode cX2_readToken 22 = .ok (.bipush 32, 2) := by decide +kernel
theorem dX2_readToken_24 : decode cX2_readToken 24 = .ok (.if_icmp .ne 16, 3) := by decide +kernel
theorem dX2_readToken_27 : decode cX2_readToken 27 = .ok (.aload_n 0, 1) := by decide +kernel
theorem dX2_readToken_28 : decode cX2_readToken 28 = .ok (.dup, 1) := by decide +kernel
theorem dX2_readToken_29 : decode cX2_readToken 29 = .ok (.getfield 29, 3) := by decide +kernel
theorem dX2_readToken_32 : decode cX2_readToken 32 = .ok (.iconst 1, 1) := by decide +kernel
theorem dX2_readToken_33 : decode cX2_readToken 33 = .ok (.iadd, 1) := by decide +kernel
theorem dX2_readToken_34 : decode cX2_readToken 34 = .ok (.putfield 29, 3) := by decide +kernel
theorem dX2_readToken_37 : decode cX2_readToken 37 = .ok (.goto (-37), 3) := by decide +kernel
theorem dX2_readToken_40 : decode cX2_readToken 40 = .ok (.aload_n 0, 1) := by decide +kernel
theorem dX2_readToken_41 : decode cX2_readToken 41 = .ok (.aload_n 0, 1) := by decide +kernel
theorem dX2_readToken_42 : decode cX2_readToken 42 = .ok (.getfield 29, 3) := by decide +kernel
theorem dX2_readToken_45 : decode cX2_readToken 45 = .ok (.putfield 65, 3) := by decide +kernel
theorem dX2_readToken_48 : decode cX2_readToken 48 = .ok (.aload_n 0, 1) := by decide +kernel
theorem dX2_readToken_49 : decode cX2_readToken 49 = .ok (.getfield 65, 3) := by decide +kernel
theorem dX2_readToken_52 : decode cX2_readToken 52 = .ok (.aload_n 0, 1) := by decide +kernel
theorem dX2_readToken_53 : decode cX2_readToken 53 = .ok (.getfield 22, 3) := by decide +kernel
theorem dX2_readToken_56 : decode cX2_readToken 56 = .ok (.getfield 52, 3) := by decide +kernel
theorem dX2_readToken_59 : decode cX2_readToken 59 = .ok (.if_icmp .lt 9, 3) := by decide +kernel
theorem dX2_readToken_62 : decode cX2_readToken 62 = .ok (.aload_n 0, 1) := by decide +kernel
theorem dX2_readToken_63 : decode cX2_readToken 63 = .ok (.iconst 0, 1) := by decide +kernel
theorem dX2_readToken_64 : decode cX2_readToken 64 = .ok (.putfield 42, 3) := by decide +kernel
theorem dX2_readToken_67 : decode cX2_readToken 67 = .ok (.return_, 1) := by decide +kernel
theorem dX2_readToken_68 : decode cX2_readToken 68 = .ok (.aload_n 0, 1) := by decide +kernel
theorem dX2_readToken_69 : decode cX2_readToken 69 = .ok (.aload_n 0, 1) := by decide +kernel
theorem dX2_readToken_70 : decode cX2_readToken 70 = .ok (.aload_n 0, 1) := by decide +kernel
theorem dX2_readToken_71 : decode cX2_readToken 71 = .ok (.getfield 65, 3) := by decide +kernel
theorem dX2_readToken_74 : decode cX2_readToken 74 = .ok (.invokevirtual 134, 3) := by decide +kernel
theorem dX2_readToken_77 : decode cX2_readToken 77 = .ok (.invokestatic 138, 3) := by decide +kernel
theorem dX2_readToken_80 : decode cX2_readToken 80 = .ok (.putfield 42, 3) := by decide +kernel
theorem dX2_readToken_83 : decode cX2_readToken 83 = .ok (.aload_n 0, 1) := by decide +kernel
theorem dX2_readToken_84 : decode cX2_readToken 84 = .ok (.dup, 1) := by decide +kernel
theorem dX2_readToken_85 : decode cX2_readToken 85 = .ok (.getfield 29, 3) := by decide +kernel
theorem dX2_readToken_88 : decode cX2_readToken 88 = .ok (.iconst 1, 1) := by decide +kernel
theorem dX2_readToken_89 : decode cX2_readToken 89 = .ok (.iadd, 1) := by decide +kernel
theorem dX2_readToken_90 : decode cX2_readToken 90 = .ok (.putfield 29, 3) := by decide +kernel
theorem dX2_readToken_93 : decode cX2_readToken 93 = .ok (.aload_n 0, 1) := by decide +kernel
theorem dX2_readToken_94 : decode cX2_readToken 94 = .ok (.getfield 42, 3) := by decide +kernel
theorem dX2_readToken_97 : decode cX2_readToken 97 = .ok (.iconst 1, 1) := by decide +kernel
theorem dX2_readToken_98 : decode cX2_readToken 98 = .ok (.if_icmp .eq 11, 3) := by decide +kernel
theorem dX2_readToken_101 : decode cX2_readToken 101 = .ok (.aload_n 0, 1) := by decide +kernel
theorem dX2_readToken_102 : decode cX2_readToken 102 = .ok (.getfield 42, 3) := by decide +kernel
theorem dX2_readToken_105 : decode cX2_readToken 105 = .ok (.iconst 2, 1) := by decide +kernel
theorem dX2_readToken_106 : decode cX2_readToken 106 = .ok (.if_icmp .ne 48, 3) := by decide +kernel
theorem dX2_readToken_109 : decode cX2_readToken 109 = .ok (.aload_n 0, 1) := by decide +kernel
theorem dX2_readToken_110 : decode cX2_readToken 110 = .ok (.getfield 29, 3) := by decide +kernel
theorem dX2_readToken_113 : decode cX2_readToken 113 = .ok (.aload_n 0, 1) := by decide +kernel
theorem dX2_readToken_114 : decode cX2_readToken 114 = .ok (.getfield 22, 3) := by decide +kernel
theorem dX2_readToken_117 : decode cX2_readToken 117 = .ok (.getfield 52, 3) := by decide +kernel
theorem dX2_readToken_120 : decode cX2_readToken 120 = .ok (.if_icmp .ge 34, 3) := by decide +kernel
theorem dX2_readToken_123 : decode cX2_readToken 123 = .ok (.aload_n 0, 1) := by decide +kernel
theorem dX2_readToken_124 : decode cX2_readToken 124 = .ok (.aload_n 0, 1) := by decide +kernel
theorem dX2_readToken_125 : decode cX2_readToken 125 = .ok (.getfield 29, 3) := by decide +kernel
theorem dX2_readToken_128 : decode cX2_readToken 128 = .ok (.invokevirtual 134, 3) := by decide +kernel
theorem dX2_readToken_131 : decode cX2_readToken 131 = .ok (.invokestatic 138, 3) := by decide +kernel
theorem dX2_readToken_134 : decode cX2_readToken 134 = .ok (.aload_n 0, 1) := by decide +kernel
theorem dX2_readToken_135 : decode cX2_readToken 135 = .ok (.getfield 42, 3) := by decide +kernel
theorem dX2_readToken_138 : decode cX2_readToken 138 = .ok (.if_icmp .ne 16, 3) := by decide +kernel
theorem dX2_readToken_141 : decode cX2_readToken 141 = .ok (.aload_n 0, 1) := by decide +kernel
theorem dX2_readToken_142 : decode cX2_readToken 142 = .ok (.dup, 1) := by decide +kernel
theorem dX2_readToken_143 : decode cX2_readToken 143 = .ok (.getfield 29, 3) := by decide +kernel
theorem dX2_readToken_146 : decode cX2_readToken 146 = .ok (.iconst 1, 1) := by decide +kernel
theorem dX2_readToken_147 : decode cX2_readToken 147 = .ok (.iadd, 1) := by decide +kernel
theorem dX2_readToken_148 : decode cX2_readToken 148 = .ok (.putfield 29, 3) := by decide +kernel
theorem dX2_readToken_151 : decode cX2_readToken 151 = .ok (.goto (-42), 3) := by decide +kernel
theorem dX2_readToken_154 : decode cX2_readToken 154 = .ok (.aload_n 0, 1) := by decide +kernel
theorem dX2_readToken_155 : decode cX2_readToken 155 = .ok (.getfield 42, 3) := by decide +kernel
theorem dX2_readToken_158 : decode cX2_readToken 158 = .ok (.iconst 4, 1) := by decide +kernel
theorem dX2_readToken_159 : decode cX2_readToken 159 = .ok (.if_icmp .eq 24, 3) := by decide +kernel
theorem dX2_readToken_162 : decode cX2_readToken 162 = .ok (.aload_n 0, 1) := by decide +kernel
theorem dX2_readToken_163 : decode cX2_readToken 163 = .ok (.getfield 42, 3) := by decide +kernel
theorem dX2_readToken_166 : decode cX2_readToken 166 = .ok (.iconst 2, 1) := by decide +kernel
theorem dX2_readToken_167 : decode cX2_readToken 167 = .ok (.if_icmp .ne 25, 3) := by decide +kernel
theorem dX2_readToken_170 : decode cX2_readToken 170 = .ok (.aload_n 0, 1) := by decide +kernel
theorem dX2_readToken_171 : decode cX2_readToken 171 = .ok (.getfield 29, 3) := by decide +kernel
theorem dX2_readToken_174 : decode cX2_readToken 174 = .ok (.aload_n 0, 1) := by decide +kernel
theorem dX2_readToken_175 : decode cX2_readToken 175 = .ok (.getfield 65, 3) := by decide +kernel
theorem dX2_readToken_178 : decode cX2_readToken 178 = .ok (.isub, 1) := by decide +kernel
theorem dX2_readToken_179 : decode cX2_readToken 179 = .ok (.iconst 2, 1) := by decide +kernel
theorem dX2_readToken_180 : decode cX2_readToken 180 = .ok (.if_icmp .le 12, 3) := by decide +kernel
theorem dX2_readToken_183 : decode cX2_readToken 183 = .ok (.aload_n 0, 1) := by decide +kernel
theorem dX2_readToken_184 : decode cX2_readToken 184 = .ok (.iconst 1, 1) := by decide +kernel
theorem dX2_readToken_185 : decode cX2_readToken 185 = .ok (.aload_n 0, 1) := by decide +kernel
theorem dX2_readToken_186 : decode cX2_readToken 186 = .ok (.getfield 65, 3) := by decide +kernel
theorem dX2_readToken_189 : decode cX2_readToken 189 = .ok (.invokevirtual 57, 3) := by decide +kernel
theorem dX2_readToken_192 : decode cX2_readToken 192 = .ok (.return_, 1) := by decide +kernel
theorem dX2_kindOf_0 : decode cX2_kindOf 0 = .ok (.iload_n 0, 1) := by decide +kernel
theorem dX2_kindOf_1 : decode cX2_kindOf 1 = .ok (.bipush 97, 2) := by decide +kernel
theorem dX2_kindOf_3 : decode cX2_kindOf 3 = .ok (.if_icmp .lt 11, 3) := by decide +kernel
theorem dX2_kindOf_6 : decode cX2_kindOf 6 = .ok (.iload_n 0, 1) := by decide +kernel
theorem dX2_kindOf_7 : decode cX2_kindOf 7 = .ok (.bipush 122, 2) := by decide +kernel
theorem dX2_kindOf_9 : decode cX2_kindOf 9 = .ok (.if_icmp .gt 5, 3) := by decide +kernel
theorem dX2_kindOf_12 : decode cX2_kindOf 12 = .ok (.iconst 1, 1) := by decide +kernel
theorem dX2_kindOf_13 : decode cX2_kindOf 13 = .ok (.ireturn, 1) := by decide +kernel
theorem dX2_kindOf_14 : decode cX2_kindOf 14 = .ok (.iload_n 0, 1) := by decide +kernel
theorem dX2_kindOf_15 : decode cX2_kindOf 15 = .ok (.bipush 48, 2) := by decide +kernel
theorem dX2_kindOf_17 : decode cX2_kindOf 17 = .ok (.if_icmp .lt 11, 3) := by decide +kernel
theorem dX2_kindOf_20 : decode cX2_kindOf 20 = .ok (.iload_n 0, 1) := by decide +kernel
theorem dX2_kindOf_21 : decode cX2_kindOf 21 = .ok (.bipush 57, 2) := by decide +kernel
theorem dX2_kindOf_23 : decode cX2_kindOf 23 = .ok (.if_icmp .gt 5, 3) := by decide +kernel
theorem dX2_kindOf_26 : decode cX2_kindOf 26 = .ok (.iconst 2, 1) := by decide +kernel
theorem dX2_kindOf_27 : decode cX2_kindOf 27 = .ok (.ireturn, 1) := by decide +kernel
theorem dX2_kindOf_28 : decode cX2_kindOf 28 = .ok (.iload_n 0, 1) := by decide +kernel
theorem dX2_kindOf_29 : decode cX2_kindOf 29 = .ok (.bipush 59, 2) := by decide +kernel
theorem dX2_kindOf_31 : decode cX2_kindOf 31 = .ok (.if_icmp .ne 7, 3) := by decide +kernel
theorem dX2_kindOf_34 : decode cX2_kindOf 34 = .ok (.iconst 3, 1) := by decide +kernel
theorem dX2_kindOf_35 : decode cX2_kindOf 35 = .ok (.goto 4, 3) := by decide +kernel
theorem dX2_kindOf_38 : decode cX2_kindOf 38 = .ok (.iconst 4, 1) := by decide +kernel
theorem dX2_kindOf_39 : decode cX2_kindOf 39 = .ok (.ireturn, 1) := by decide +kernel
theorem dX2_byteAt_0 : decode cX2_byteAt 0 = .ok (.iload_n 1, 1) := by decide +kernel
theorem dX2_byteAt_1 : decode cX2_byteAt 1 = .ok (.ifCond .lt 22, 3) := by decide +kernel
theorem dX2_byteAt_4 : decode cX2_byteAt 4 = .ok (.iload_n 1, 1) := by decide +kernel
theorem dX2_byteAt_5 : decode cX2_byteAt 5 = .ok (.sipush 300, 3) := by decide +kernel
theorem dX2_byteAt_8 : decode cX2_byteAt 8 = .ok (.if_icmp .ge 15, 3) := by decide +kernel
theorem dX2_byteAt_11 : decode cX2_byteAt 11 = .ok (.aload_n 0, 1) := by decide +kernel
theorem dX2_byteAt_12 : decode cX2_byteAt 12 = .ok (.getfield 22, 3) := by decide +kernel
theorem dX2_byteAt_15 : decode cX2_byteAt 15 = .ok (.getfield 141, 3) := by decide +kernel
theorem dX2_byteAt_18 : decode cX2_byteAt 18 = .ok (.iload_n 1, 1) := by decide +kernel
theorem dX2_byteAt_19 : decode cX2_byteAt 19 = .ok (.baload, 1) := by decide +kernel
theorem dX2_byteAt_20 : decode cX2_byteAt 20 = .ok (.goto 4, 3) := by decide +kernel
theorem dX2_byteAt_23 : decode cX2_byteAt 23 = .ok (.iconst 0, 1) := by decide +kernel
theorem dX2_byteAt_24 : decode cX2_byteAt 24 = .ok (.ireturn, 1) := by decide +kernel
theorem dX2_isWord_0 : decode cX2_isWord 0 = .ok (.aload_n 0, 1) := by decide +kernel
theorem dX2_isWord_1 : decode cX2_isWord 1 = .ok (.getfield 29, 3) := by decide +kernel
theorem dX2_isWord_4 : decode cX2_isWord 4 = .ok (.aload_n 0, 1) := by decide +kernel
theorem dX2_isWord_5 : decode cX2_isWord 5 = .ok (.getfield 65, 3) := by decide +kernel
theorem dX2_isWord_8 : decode cX2_isWord 8 = .ok (.isub, 1) := by decide +kernel
theorem dX2_isWord_9 : decode cX2_isWord 9 = .ok (.aload_n 1, 1) := by decide +kernel
theorem dX2_isWord_10 : decode cX2_isWord 10 = .ok (.invokevirtual 145, 3) := by decide +kernel
theorem dX2_isWord_13 : decode cX2_isWord 13 = .ok (.if_icmp .eq 5, 3) := by decide +kernel
theorem dX2_isWord_16 : decode cX2_isWord 16 = .ok (.iconst 0, 1) := by decide +kernel
theorem dX2_isWord_17 : decode cX2_isWord 17 = .ok (.ireturn, 1) := by decide +kernel
theorem dX2_isWord_18 : decode cX2_isWord 18 = .ok (.iconst 0, 1) := by decide +kernel
theorem dX2_isWord_19 : decode cX2_isWord 19 = .ok (.istore_n 2, 1) := by decide +kernel
theorem dX2_isWord_20 : decode cX2_isWord 20 = .ok (.iload_n 2, 1) := by decide +kernel
theorem dX2_isWord_21 : decode cX2_isWord 21 = .ok (.aload_n 1, 1) := by decide +kernel
theorem dX2_isWord_22 : decode cX2_isWord 22 = .ok (.invokevirtual 145, 3) := by decide +kernel
theorem dX2_isWord_25 : decode cX2_isWord 25 = .ok (.if_icmp .ge 29, 3) := by decide +kernel
theorem dX2_isWord_28 : decode cX2_isWord 28 = .ok (.aload_n 0, 1) := by decide +kernel
theorem dX2_isWord_29 : decode cX2_isWord 29 = .ok (.aload_n 0, 1) := by decide +kernel
theorem dX2_isWord_30 : decode cX2_isWord 30 = .ok (.getfield 65, 3) := by decide +kernel
theorem dX2_isWord_33 : decode cX2_isWord 33 = .ok (.iload_n 2, 1) := by decide +kernel
theorem dX2_isWord_34 : decode cX2_isWord 34 = .ok (.iadd, 1) := by decide +kernel
theorem dX2_isWord_35 : decode cX2_isWord 35 = .ok (.invokevirtual 134, 3) := by decide +kernel
theorem dX2_isWord_38 : decode cX2_isWord 38 = .ok (.aload_n 1, 1) := by decide +kernel
theorem dX2_isWord_39 : decode cX2_isWord 39 = .ok (.iload_n 2, 1) := by decide +kernel
theorem dX2_isWord_40 : decode cX2_isWord 40 = .ok (.invokevirtual 149, 3) := by decide +kernel
theorem dX2_isWord_43 : decode cX2_isWord 43 = .ok (.if_icmp .eq 5, 3) := by decide +kernel
theorem dX2_isWord_46 : decode cX2_isWord 46 = .ok (.iconst 0, 1) := by decide +kernel
theorem dX2_isWord_47 : decode cX2_isWord 47 = .ok (.ireturn, 1) := by decide +kernel
theorem dX2_isWord_48 : decode cX2_isWord 48 = .ok (.iinc 2 1, 3) := by decide +kernel
theorem dX2_isWord_51 : decode cX2_isWord 51 = .ok (.goto (-31), 3) := by decide +kernel
theorem dX2_isWord_54 : decode cX2_isWord 54 = .ok (.iconst 1, 1) := by decide +kernel
theorem dX2_isWord_55 : decode cX2_isWord 55 = .ok (.ireturn, 1) := by decide +kernel
theorem dX2_numberRead_0 : decode cX2_numberRead 0 = .ok (.iconst 0, 1) := by decide +kernel
theorem dX2_numberRead_1 : decode cX2_numberRead 1 = .ok (.istore_n 1, 1) := by decide +kernel
theorem dX2_numberRead_2 : decode cX2_numberRead 2 = .ok (.aload_n 0, 1) := by decide +kernel
theorem dX2_numberRead_3 : decode cX2_numberRead 3 = .ok (.getfield 65, 3) := by decide +kernel
theorem dX2_numberRead_6 : decode cX2_numberRead 6 = .ok (.istore_n 2, 1) := by decide +kernel
theorem dX2_numberRead_7 : decode cX2_numberRead 7 = .ok (.iload_n 2, 1) := by decide +kernel
theorem dX2_numberRead_8 : decode cX2_numberRead 8 = .ok (.aload_n 0, 1) := by decide +kernel
theorem dX2_numberRead_9 : decode cX2_numberRead 9 = .ok (.getfield 29, 3) := by decide +kernel
theorem dX2_numberRead_12 : decode cX2_numberRead 12 = .ok (.if_icmp .ge 23, 3) := by decide +kernel
theorem dX2_numberRead_15 : decode cX2_numberRead 15 = .ok (.iload_n 1, 1) := by decide +kernel
theorem dX2_numberRead_16 : decode cX2_numberRead 16 = .ok (.bipush 10, 2) := by decide +kernel
theorem dX2_numberRead_18 : decode cX2_numberRead 18 = .ok (.imul, 1) := by decide +kernel
theorem dX2_numberRead_19 : decode cX2_numberRead 19 = .ok (.aload_n 0, 1) := by decide +kernel
theorem dX2_numberRead_20 : decode cX2_numberRead 20 = .ok (.iload_n 2, 1) := by decide +kernel
theorem dX2_numberRead_21 : decode cX2_numberRead 21 = .ok (.invokevirtual 134, 3) := by decide +kernel
theorem dX2_numberRead_24 : decode cX2_numberRead 24 = .ok (.iadd, 1) := by decide +kernel
theorem dX2_numberRead_25 : decode cX2_numberRead 25 = .ok (.bipush 48, 2) := by decide +kernel
theorem dX2_numberRead_27 : decode cX2_numberRead 27 = .ok (.isub, 1) := by decide +kernel
theorem dX2_numberRead_28 : decode cX2_numberRead 28 = .ok (.istore_n 1, 1) := by decide +kernel
theorem dX2_numberRead_29 : decode cX2_numberRead 29 = .ok (.iinc 2 1, 3) := by decide +kernel
theorem dX2_numberRead_32 : decode cX2_numberRead 32 = .ok (.goto (-25), 3) := by decide +kernel
theorem dX2_numberRead_35 : decode cX2_numberRead 35 = .ok (.iload_n 1, 1) := by decide +kernel
theorem dX2_numberRead_36 : decode cX2_numberRead 36 = .ok (.ireturn, 1) := by decide +kernel
theorem dX2_refuse_0 : decode cX2_refuse 0 = .ok (.aload_n 0, 1) := by decide +kernel
theorem dX2_refuse_1 : decode cX2_refuse 1 = .ok (.iload_n 1, 1) := by decide +kernel
theorem dX2_refuse_2 : decode cX2_refuse 2 = .ok (.putfield 33, 3) := by decide +kernel
theorem dX2_refuse_5 : decode cX2_refuse 5 = .ok (.aload_n 0, 1) := by decide +kernel
theorem dX2_refuse_6 : decode cX2_refuse 6 = .ok (.iload_n 2, 1) := by decide +kernel
theorem dX2_refuse_7 : decode cX2_refuse 7 = .ok (.putfield 36, 3) := by decide +kernel
theorem dX2_refuse_10 : decode cX2_refuse 10 = .ok (.return_, 1) := by decide +kernel
theorem dX3_init_0 : decode cX3_init 0 = .ok (.aload_n 0, 1) := by decide +kernel
theorem dX3_init_1 : decode cX3_init 1 = .ok (.invokespecial 3, 3) := by decide +kernel
theorem dX3_init_4 : decode cX3_init 4 = .ok (.aload_n 0, 1) := by decide +kernel
theorem dX3_init_5 : decode cX3_init 5 = .ok (.sipush 300, 3) := by decide +kernel
theorem dX3_init_8 : decode cX3_init 8 = .ok (.newarray .byte, 2) := by decide +kernel
theorem dX3_init_10 : decode cX3_init 10 = .ok (.putfield 9, 3) := by decide +kernel
theorem dX3_init_13 : decode cX3_init 13 = .ok (.return_, 1) := by decide +kernel
theorem dX4_init_0 : decode cX4_init 0 = .ok (.aload_n 0, 1) := by decide +kernel
theorem dX4_init_1 : decode cX4_init 1 = .ok (.invokespecial 3, 3) := by decide +kernel
theorem dX4_init_4 : decode cX4_init 4 = .ok (.aload_n 0, 1) := by decide +kernel
theorem dX4_init_5 : decode cX4_init 5 = .ok (.new 9, 3) := by decide +kernel
theorem dX4_init_8 : decode cX4_init 8 = .ok (.dup, 1) := by decide +kernel
theorem dX4_init_9 : decode cX4_init 9 = .ok (.invokespecial 11, 3) := by decide +kernel
theorem dX4_init_12 : decode cX4_init 12 = .ok (.putfield 12, 3) := by decide +kernel
theorem dX4_init_15 : decode cX4_init 15 = .ok (.aload_n 0, 1) := by decide +kernel
theorem dX4_init_16 : decode cX4_init 16 = .ok (.iconst 4, 1) := by decide +kernel
theorem dX4_init_17 : decode cX4_init 17 = .ok (.newarray .int, 2) := by decide +kernel
theorem dX4_init_19 : decode cX4_init 19 = .ok (.dup, 1) := by decide +kernel
theorem dX4_init_20 : decode cX4_init 20 = .ok (.iconst 0, 1) := by decide +kernel
theorem dX4_init_21 : decode cX4_init 21 = .ok (.iconst 0, 1) := by decide +kernel
theorem dX4_init_22 : decode cX4_init 22 = .ok (.iastore, 1) := by decide +kernel
theorem dX4_init_23 : decode cX4_init 23 = .ok (.dup, 1) := by decide +kernel
theorem dX4_init_24 : decode cX4_init 24 = .ok (.iconst 1, 1) := by decide +kernel
theorem dX4_init_25 : decode cX4_init 25 = .ok (.iconst 1, 1) := by decide +kernel
theorem dX4_init_26 : decode cX4_init 26 = .ok (.iastore, 1) := by decide +kernel
theorem dX4_init_27 : decode cX4_init 27 = .ok (.dup, 1) := by decide +kernel
theorem dX4_init_28 : decode cX4_init 28 = .ok (.iconst 2, 1) := by decide +kernel
theorem dX4_init_29 : decode cX4_init 29 = .ok (.iconst 1, 1) := by decide +kernel
theorem dX4_init_30 : decode cX4_init 30 = .ok (.iastore, 1) := by decide +kernel
theorem dX4_init_31 : decode cX4_init 31 = .ok (.dup, 1) := by decide +kernel
theorem dX4_init_32 : decode cX4_init 32 = .ok (.iconst 3, 1) := by decide +kernel
theorem dX4_init_33 : decode cX4_init 33 = .ok (.iconst 0, 1) := by decide +kernel
theorem dX4_init_34 : decode cX4_init 34 = .ok (.iastore, 1) := by decide +kernel
theorem dX4_init_35 : decode cX4_init 35 = .ok (.putfield 18, 3) := by decide +kernel
theorem dX4_init_38 : decode cX4_init 38 = .ok (.aload_n 0, 1) := by decide +kernel
theorem dX4_init_39 : decode cX4_init 39 = .ok (.bipush 8, 2) := by decide +kernel
theorem dX4_init_41 : decode cX4_init 41 = .ok (.newarray .int, 2) := by decide +kernel
theorem dX4_init_43 : decode cX4_init 43 = .ok (.putfield 22, 3) := by decide +kernel
theorem dX4_init_46 : decode cX4_init 46 = .ok (.aload_n 0, 1) := by decide +kernel
theorem dX4_init_47 : decode cX4_init 47 = .ok (.bipush 6, 2) := by decide +kernel
theorem dX4_init_49 : decode cX4_init 49 = .ok (.newarray .int, 2) := by decide +kernel
theorem dX4_init_51 : decode cX4_init 51 = .ok (.putfield 25, 3) := by decide +kernel
theorem dX4_init_54 : decode cX4_init 54 = .ok (.aload_n 0, 1) := by decide +kernel
theorem dX4_init_55 : decode cX4_init 55 = .ok (.sipush 128, 3) := by decide +kernel
theorem dX4_init_58 : decode cX4_init 58 = .ok (.newarray .int, 2) := by decide +kernel
theorem dX4_init_60 : decode cX4_init 60 = .ok (.putfield 28, 3) := by decide +kernel
theorem dX4_init_63 : decode cX4_init 63 = .ok (.aload_n 0, 1) := by decide +kernel
theorem dX4_init_64 : decode cX4_init 64 = .ok (.sipush 128, 3) := by decide +kernel
theorem dX4_init_67 : decode cX4_init 67 = .ok (.newarray .int, 2) := by decide +kernel
theorem dX4_init_69 : decode cX4_init 69 = .ok (.putfield 31, 3) := by decide +kernel
theorem dX4_init_72 : decode cX4_init 72 = .ok (.aload_n 0, 1) := by decide +kernel
theorem dX4_init_73 : decode cX4_init 73 = .ok (.sipush 128, 3) := by decide +kernel
theorem dX4_init_76 : decode cX4_init 76 = .ok (.newarray .int, 2) := by decide +kernel
theorem dX4_init_78 : decode cX4_init 78 = .ok (.putfield 34, 3) := by decide +kernel
theorem dX4_init_81 : decode cX4_init 81 = .ok (.aload_n 0, 1) := by decide +kernel
theorem dX4_init_82 : decode cX4_init 82 = .ok (.bipush 8, 2) := by decide +kernel
theorem dX4_init_84 : decode cX4_init 84 = .ok (.newarray .int, 2) := by decide +kernel
theorem dX4_init_86 : decode cX4_init 86 = .ok (.putfield 37, 3) := by decide +kernel
theorem dX4_init_89 : decode cX4_init 89 = .ok (.aload_n 0, 1) := by decide +kernel
theorem dX4_init_90 : decode cX4_init 90 = .ok (.bipush 64, 2) := by decide +kernel
theorem dX4_init_92 : decode cX4_init 92 = .ok (.newarray .int, 2) := by decide +kernel
theorem dX4_init_94 : decode cX4_init 94 = .ok (.putfield 40, 3) := by decide +kernel
theorem dX4_init_97 : decode cX4_init 97 = .ok (.aload_n 0, 1) := by decide +kernel
theorem dX4_init_98 : decode cX4_init 98 = .ok (.bipush 16, 2) := by decide +kernel
theorem dX4_init_100 : decode cX4_init 100 = .ok (.newarray .int, 2) := by decide +kernel
theorem dX4_init_102 : decode cX4_init 102 = .ok (.putfield 43, 3) := by decide +kernel
theorem dX4_init_105 : decode cX4_init 105 = .ok (.aload_n 0, 1) := by decide +kernel
theorem dX4_init_106 : decode cX4_init 106 = .ok (.bipush 16, 2) := by decide +kernel
theorem dX4_init_108 : decode cX4_init 108 = .ok (.newarray .int, 2) := by decide +kernel
theorem dX4_init_110 : decode cX4_init 110 = .ok (.putfield 46, 3) := by decide +kernel
theorem dX4_init_113 : decode cX4_init 113 = .ok (.aload_n 0, 1) := by decide +kernel
theorem dX4_init_114 : decode cX4_init 114 = .ok (.invokevirtual 49, 3) := by decide +kernel
theorem dX4_init_117 : decode cX4_init 117 = .ok (.return_, 1) := by decide +kernel
theorem dX4_place_0 : decode cX4_place 0 = .ok (.iload_n 0, 1) := by decide +kernel
theorem dX4_place_1 : decode cX4_place 1 = .ok (.bipush 16, 2) := by decide +kernel
theorem dX4_place_3 : decode cX4_place 3 = .ok (.imul, 1) := by decide +kernel
theorem dX4_place_4 : decode cX4_place 4 = .ok (.iload_n 1, 1) := by decide +kernel
theorem dX4_place_5 : decode cX4_place 5 = .ok (.iadd, 1) := by decide +kernel
theorem dX4_place_6 : decode cX4_place 6 = .ok (.ireturn, 1) := by decide +kernel
theorem dX4_beginAnew_0 : decode cX4_beginAnew 0 = .ok (.aload_n 0, 1) := by decide +kernel
theorem dX4_beginAnew_1 : decode cX4_beginAnew 1 = .ok (.iconst 0, 1) := by decide +kernel
theorem dX4_beginAnew_2 : decode cX4_beginAnew 2 = .ok (.putfield 52, 3) := by decide +kernel
theorem dX4_beginAnew_5 : decode cX4_beginAnew 5 = .ok (.aload_n 0, 1) := by decide +kernel
theorem dX4_beginAnew_6 : decode cX4_beginAnew 6 = .ok (.getfield 22, 3) := by decide +kernel
theorem dX4_beginAnew_9 : decode cX4_beginAnew 9 = .ok (.iconst 0, 1) := by decide +kernel
theorem dX4_beginAnew_10 : decode cX4_beginAnew 10 = .ok (.invokestatic 56, 3) := by decide +kernel
theorem dX4_beginAnew_13 : decode cX4_beginAnew 13 = .ok (.aload_n 0, 1) := by decide +kernel
theorem dX4_beginAnew_14 : decode cX4_beginAnew 14 = .ok (.getfield 25, 3) := by decide +kernel
theorem dX4_beginAnew_17 : decode cX4_beginAnew 17 = .ok (.iconst 0, 1) := by decide +kernel
theorem dX4_beginAnew_18 : decode cX4_beginAnew 18 = .ok (.invokestatic 56, 3) := by decide +kernel
theorem dX4_beginAnew_21 : decode cX4_beginAnew 21 = .ok (.aload_n 0, 1) := by decide +kernel
theorem dX4_beginAnew_22 : decode cX4_beginAnew 22 = .ok (.getfield 28, 3) := by decide +kernel
theorem dX4_beginAnew_25 : decode cX4_beginAnew 25 = .ok (.iconst 0, 1) := by decide +kernel
theorem dX4_beginAnew_26 : decode cX4_beginAnew 26 = .ok (.invokestatic 56, 3) := by decide +kernel
theorem dX4_beginAnew_29 : decode cX4_beginAnew 29 = .ok (.aload_n 0, 1) := by decide +kernel
theorem dX4_beginAnew_30 : decode cX4_beginAnew 30 = .ok (.getfield 37, 3) := by decide +kernel
theorem dX4_beginAnew_33 : decode cX4_beginAnew 33 = .ok (.iconst 0, 1) := by decide +kernel
theorem dX4_beginAnew_34 : decode cX4_beginAnew 34 = .ok (.invokestatic 56, 3) := by decide +kernel
theorem dX4_beginAnew_37 : decode cX4_beginAnew 37 = .ok (.aload_n 0, 1) := by decide +kernel
theorem dX4_beginAnew_38 : decode cX4_beginAnew 38 = .ok (.getfield 40, 3) := by decide +kernel
theorem dX4_beginAnew_41 : decode cX4_beginAnew 41 = .ok (.iconst (-1), 1) := by decide +kernel
theorem dX4_beginAnew_42 : decode cX4_beginAnew 42 = .ok (.invokestatic 56, 3) := by decide +kernel
theorem dX4_beginAnew_45 : decode cX4_beginAnew 45 = .ok (.aload_n 0, 1) := by decide +kernel
theorem dX4_beginAnew_46 : decode cX4_beginAnew 46 = .ok (.getfield 43, 3) := by decide +kernel
theorem dX4_beginAnew_49 : decode cX4_beginAnew 49 = .ok (.bipush (-4), 2) := by decide +kernel
theorem dX4_beginAnew_51 : decode cX4_beginAnew 51 = .ok (.invokestatic 56, 3) := by decide +kernel
theorem dX4_beginAnew_54 : decode cX4_beginAnew 54 = .ok (.aload_n 0, 1) := by decide +kernel
theorem dX4_beginAnew_55 : decode cX4_beginAnew 55 = .ok (.getfield 46, 3) := by decide +kernel
theorem dX4_beginAnew_58 : decode cX4_beginAnew 58 = .ok (.bipush (-4), 2) := by decide +kernel
theorem dX4_beginAnew_60 : decode cX4_beginAnew 60 = .ok (.invokestatic 56, 3) := by decide +kernel
theorem dX4_beginAnew_63 : decode cX4_beginAnew 63 = .ok (.return_, 1) := by decide +kernel
theorem dX4_fill_0 : decode cX4_fill 0 = .ok (.iconst 0, 1) := by decide +kernel
theorem dX4_fill_1 : decode cX4_fill 1 = .ok (.istore_n 2, 1) := by decide +kernel
theorem dX4_fill_2 : decode cX4_fill 2 = .ok (.iload_n 2, 1) := by decide +kernel
theorem dX4_fill_3 : decode cX4_fill 3 = .ok (.aload_n 0, 1) := by decide +kernel
theorem dX4_fill_4 : decode cX4_fill 4 = .ok (.arraylength, 1) := by decide +kernel
theorem dX4_fill_5 : decode cX4_fill 5 = .ok (.if_icmp .ge 13, 3) := by decide +kernel
theorem dX4_fill_8 : decode cX4_fill 8 = .ok (.aload_n 0, 1) := by decide +kernel
theorem dX4_fill_9 : decode cX4_fill 9 = .ok (.iload_n 2, 1) := by decide +kernel
theorem dX4_fill_10 : decode cX4_fill 10 = .ok (.iload_n 1, 1) := by decide +kernel
theorem dX4_fill_11 : decode cX4_fill 11 = .ok (.iastore, 1) := by decide +kernel
theorem dX4_fill_12 : decode cX4_fill 12 = .ok (.iinc 2 1, 3) := by decide +kernel
theorem dX4_fill_15 : decode cX4_fill 15 = .ok (.goto (-13), 3) := by decide +kernel
theorem dX4_fill_18 : decode cX4_fill 18 = .ok (.return_, 1) := by decide +kernel
theorem dX4_copyFrom_0 : decode cX4_copyFrom 0 = .ok (.aload_n 0, 1) := by decide +kernel
theorem dX4_copyFrom_1 : decode cX4_copyFrom 1 = .ok (.getfield 12, 3) := by decide +kernel
theorem dX4_copyFrom_4 : decode cX4_copyFrom 4 = .ok (.aload_n 1, 1) := by decide +kernel
theorem dX4_copyFrom_5 : decode cX4_copyFrom 5 = .ok (.getfield 12, 3) := by decide +kernel
theorem dX4_copyFrom_8 : decode cX4_copyFrom 8 = .ok (.invokevirtual 60, 3) := by decide +kernel
theorem dX4_copyFrom_11 : decode cX4_copyFrom 11 = .ok (.aload_n 1, 1) := by decide +kernel
theorem dX4_copyFrom_12 : decode cX4_copyFrom 12 = .ok (.getfield 18, 3) := by decide +kernel
theorem dX4_copyFrom_15 : decode cX4_copyFrom 15 = .ok (.aload_n 0, 1) := by decide +kernel
theorem dX4_copyFrom_16 : decode cX4_copyFrom 16 = .ok (.getfield 18, 3) := by decide +kernel
theorem dX4_copyFrom_19 : decode cX4_copyFrom 19 = .ok (.invokestatic 64, 3) := by decide +kernel
theorem dX4_copyFrom_22 : decode cX4_copyFrom 22 = .ok (.aload_n 1, 1) := by decide +kernel
theorem dX4_copyFrom_23 : decode cX4_copyFrom 23 = .ok (.getfield 22, 3) := by decide +kernel
theorem dX4_copyFrom_26 : decode cX4_copyFrom 26 = .ok (.aload_n 0, 1) := by decide +kernel
theorem dX4_copyFrom_27 : decode cX4_copyFrom 27 = .ok (.getfield 22, 3) := by decide +kernel
theorem dX4_copyFrom_30 : decode cX4_copyFrom 30 = .ok (.invokestatic 64, 3) := by decide +kernel
theorem dX4_copyFrom_33 : decode cX4_copyFrom 33 = .ok (.aload_n 1, 1) := by decide +kernel
theorem dX4_copyFrom_34 : decode cX4_copyFrom 34 = .ok (.getfield 25, 3) := by decide +kernel
theorem dX4_copyFrom_37 : decode cX4_copyFrom 37 = .ok (.aload_n 0, 1) := by decide +kernel
theorem dX4_copyFrom_38 : decode cX4_copyFrom 38 = .ok (.getfield 25, 3) := by decide +kernel
theorem dX4_copyFrom_41 : decode cX4_copyFrom 41 = .ok (.invokestatic 64, 3) := by decide +kernel
theorem dX4_copyFrom_44 : decode cX4_copyFrom 44 = .ok (.aload_n 1, 1) := by decide +kernel
theorem dX4_copyFrom_45 : decode cX4_copyFrom 45 = .ok (.getfield 28, 3) := by decide +kernel
theorem dX4_copyFrom_48 : decode cX4_copyFrom 48 = .ok (.aload_n 0, 1) := by decide +kernel
theorem dX4_copyFrom_49 : decode cX4_copyFrom 49 = .ok (.getfield 28, 3) := by decide +kernel
theorem dX4_copyFrom_52 : decode cX4_copyFrom 52 = .ok (.invokestatic 64, 3) := by decide +kernel
theorem dX4_copyFrom_55 : decode cX4_copyFrom 55 = .ok (.aload_n 1, 1) := by decide +kernel
theorem dX4_copyFrom_56 : decode cX4_copyFrom 56 = .ok (.getfield 31, 3) := by decide +kernel
theorem dX4_copyFrom_59 : decode cX4_copyFrom 59 = .ok (.aload_n 0, 1) := by decide +kernel
theorem dX4_copyFrom_60 : decode cX4_copyFrom 60 = .ok (.getfield 31, 3) := by decide +kernel
theorem dX4_copyFrom_63 : decode cX4_copyFrom 63 = .ok (.invokestatic 64, 3) := by decide +kernel
theorem dX4_copyFrom_66 : decode cX4_copyFrom 66 = .ok (.aload_n 1, 1) := by decide +kernel
theorem dX4_copyFrom_67 : decode cX4_copyFrom 67 = .ok (.getfield 34, 3) := by decide +kernel
theorem dX4_copyFrom_70 : decode cX4_copyFrom 70 = .ok (.aload_n 0, 1) := by decide +kernel
theorem dX4_copyFrom_71 : decode cX4_copyFrom 71 = .ok (.getfield 34, 3) := by decide +kernel
theorem dX4_copyFrom_74 : decode cX4_copyFrom 74 = .ok (.invokestatic 64, 3) := by decide +kernel
theorem dX4_copyFrom_77 : decode cX4_copyFrom 77 = .ok (.aload_n 1, 1) := by decide +kernel
theorem dX4_copyFrom_78 : decode cX4_copyFrom 78 = .ok (.getfield 37, 3) := by decide +kernel
theorem dX4_copyFrom_81 : decode cX4_copyFrom 81 = .ok (.aload_n 0, 1) := by decide +kernel
theorem dX4_copyFrom_82 : decode cX4_copyFrom 82 = .ok (.getfield 37, 3) := by decide +kernel
theorem dX4_copyFrom_85 : decode cX4_copyFrom 85 = .ok (.invokestatic 64, 3) := by decide +kernel
theorem dX4_copyFrom_88 : decode cX4_copyFrom 88 = .ok (.aload_n 1, 1) := by decide +kernel
theorem dX4_copyFrom_89 : decode cX4_copyFrom 89 = .ok (.getfield 40, 3) := by decide +kernel
theorem dX4_copyFrom_92 : decode cX4_copyFrom 92 = .ok (.aload_n 0, 1) := by decide +kernel
theorem dX4_copyFrom_93 : decode cX4_copyFrom 93 = .ok (.getfield 40, 3) := by decide +kernel
theorem dX4_copyFrom_96 : decode cX4_copyFrom 96 = .ok (.invokestatic 64, 3) := by decide +kernel
theorem dX4_copyFrom_99 : decode cX4_copyFrom 99 = .ok (.aload_n 1, 1) := by decide +kernel
theorem dX4_copyFrom_100 : decode cX4_copyFrom 100 = .ok (.getfield 43, 3) := by decide +kernel
theorem dX4_copyFrom_103 : decode cX4_copyFrom 103 = .ok (.aload_n 0, 1) := by decide +kernel
theorem dX4_copyFrom_104 : decode cX4_copyFrom 104 = .ok (.getfield 43, 3) := by decide +kernel
theorem dX4_copyFrom_107 : decode cX4_copyFrom 107 = .ok (.invokestatic 64, 3) := by decide +kernel
theorem dX4_copyFrom_110 : decode cX4_copyFrom 110 = .ok (.aload_n 1, 1) := by decide +kernel
theorem dX4_copyFrom_111 : decode cX4_copyFrom 111 = .ok (.getfield 46, 3) := by decide +kernel
theorem dX4_copyFrom_114 : decode cX4_copyFrom 114 = .ok (.aload_n 0, 1) := by decide +kernel
theorem dX4_copyFrom_115 : decode cX4_copyFrom 115 = .ok (.getfield 46, 3) := by decide +kernel
theorem dX4_copyFrom_118 : decode cX4_copyFrom 118 = .ok (.invokestatic 64, 3) := by decide +kernel
theorem dX4_copyFrom_121 : decode cX4_copyFrom 121 = .ok (.aload_n 0, 1) := by decide +kernel
theorem dX4_copyFrom_122 : decode cX4_copyFrom 122 = .ok (.aload_n 1, 1) := by decide +kernel
theorem dX4_copyFrom_123 : decode cX4_copyFrom 123 = .ok (.getfield 52, 3) := by decide +kernel
theorem dX4_copyFrom_126 : decode cX4_copyFrom 126 = .ok (.putfield 52, 3) := by decide +kernel
theorem dX4_copyFrom_129 : decode cX4_copyFrom 129 = .ok (.return_, 1) := by decide +kernel
theorem dX4_take_0 : decode cX4_take 0 = .ok (.aload_n 0, 1) := by decide +kernel
theorem dX4_take_1 : decode cX4_take 1 = .ok (.iconst 0, 1) := by decide +kernel
theorem dX4_take_2 : decode cX4_take 2 = .ok (.aload_n 1, 1) := by decide +kernel
theorem dX4_take_3 : decode cX4_take 3 = .ok (.iconst 0, 1) := by decide +kernel
theorem dX4_take_4 : decode cX4_take 4 = .ok (.aload_n 0, 1) := by decide +kernel
theorem dX4_take_5 : decode cX4_take 5 = .ok (.arraylength, 1) := by decide +kernel
theorem dX4_take_6 : decode cX4_take 6 = .ok (.aload_n 1, 1) := by decide +kernel
theorem dX4_take_7 : decode cX4_take 7 = .ok (.arraylength, 1) := by decide +kernel
theorem dX4_take_8 : decode cX4_take 8 = .ok (.invokestatic 68, 3) := by decide +kernel
theorem dX4_take_11 : decode cX4_take 11 = .ok (.invokestatic 74, 3) := by decide +kernel
theorem dX4_take_14 : decode cX4_take 14 = .ok (.return_, 1) := by decide +kernel
theorem dX4_hasCopy_0 : decode cX4_hasCopy 0 = .ok (.aload_n 0, 1) := by decide +kernel
theorem dX4_hasCopy_1 : decode cX4_hasCopy 1 = .ok (.getfield 28, 3) := by decide +kernel
theorem dX4_hasCopy_4 : decode cX4_hasCopy 4 = .ok (.iload_n 1, 1) := by decide +kernel
theorem dX4_hasCopy_5 : decode cX4_hasCopy 5 = .ok (.bipush 16, 2) := by decide +kernel
theorem dX4_hasCopy_7 : decode cX4_hasCopy 7 = .ok (.imul, 1) := by decide +kernel
theorem dX4_hasCopy_8 : decode cX4_hasCopy 8 = .ok (.iload_n 2, 1) := by decide +kernel
theorem dX4_hasCopy_9 : decode cX4_hasCopy 9 = .ok (.iadd, 1) := by decide +kernel
theorem dX4_hasCopy_10 : decode cX4_hasCopy 10 = .ok (.iaload, 1) := by decide +kernel
theorem dX4_hasCopy_11 : decode cX4_hasCopy 11 = .ok (.ifCond .le 7, 3) := by decide +kernel
theorem dX4_hasCopy_14 : decode cX4_hasCopy 14 = .ok (.iconst 1, 1) := by decide +kernel
theorem dX4_hasCopy_15 : decode cX4_hasCopy 15 = .ok (.goto 4, 3) := by decide +kernel
theorem dX4_hasCopy_18 : decode cX4_hasCopy 18 = .ok (.iconst 0, 1) := by decide +kernel
theorem dX4_hasCopy_19 : decode cX4_hasCopy 19 = .ok (.ireturn, 1) := by decide +kernel
theorem dX4_copiesIn_0 : decode cX4_copiesIn 0 = .ok (.iconst 0, 1) := by decide +kernel
theorem dX4_copiesIn_1 : decode cX4_copiesIn 1 = .ok (.istore_n 2, 1) := by decide +kernel
theorem dX4_copiesIn_2 : decode cX4_copiesIn 2 = .ok (.iconst 0, 1) := by decide +kernel
theorem dX4_copiesIn_3 : decode cX4_copiesIn 3 = .ok (.istore_n 3, 1) := by decide +kernel
theorem dX4_copiesIn_4 : decode cX4_copiesIn 4 = .ok (.iload_n 3, 1) := by decide +kernel
theorem dX4_copiesIn_5 : decode cX4_copiesIn 5 = .ok (.aload_n 0, 1) := by decide +kernel
theorem dX4_copiesIn_6 : decode cX4_copiesIn 6 = .ok (.getfield 12, 3) := by decide +kernel
theorem dX4_copiesIn_9 : decode cX4_copiesIn 9 = .ok (.getfield 80, 3) := by decide +kernel
theorem dX4_copiesIn_12 : decode cX4_copiesIn 12 = .ok (.if_icmp .ge 21, 3) := by decide +kernel
theorem dX4_copiesIn_15 : decode cX4_copiesIn 15 = .ok (.aload_n 0, 1) := by decide +kernel
theorem dX4_copiesIn_16 : decode cX4_copiesIn 16 = .ok (.iload_n 1, 1) := by decide +kernel
theorem dX4_copiesIn_17 : decode cX4_copiesIn 17 = .ok (.iload_n 3, 1) := by decide +kernel
theorem dX4_copiesIn_18 : decode cX4_copiesIn 18 = .ok (.invokevirtual 83, 3) := by decide +kernel
theorem dX4_copiesIn_21 : decode cX4_copiesIn 21 = .ok (.ifCond .eq 6, 3) := by decide +kernel
theorem dX4_copiesIn_24 : decode cX4_copiesIn 24 = .ok (.iinc 2 1, 3) := by decide +kernel
theorem dX4_copiesIn_27 : decode cX4_copiesIn 27 = .ok (.iinc 3 1, 3) := by decide +kernel
theorem dX4_copiesIn_30 : decode cX4_copiesIn 30 = .ok (.goto (-26), 3) := by decide +kernel
theorem dX4_copiesIn_33 : decode cX4_copiesIn 33 = .ok (.iload_n 2, 1) := by decide +kernel
theorem dX4_copiesIn_34 : decode cX4_copiesIn 34 = .ok (.ireturn, 1) := by decide +kernel
theorem dX4_copiesOf_0 : decode cX4_copiesOf 0 = .ok (.iconst 0, 1) := by decide +kernel
theorem dX4_copiesOf_1 : decode cX4_copiesOf 1 = .ok (.istore_n 2, 1) := by decide +kernel
theorem dX4_copiesOf_2 : decode cX4_copiesOf 2 = .ok (.iconst 0, 1) := by decide +kernel
theorem dX4_copiesOf_3 : decode cX4_copiesOf 3 = .ok (.istore_n 3, 1) := by decide +kernel
theorem dX4_copiesOf_4 : decode cX4_copiesOf 4 = .ok (.iload_n 3, 1) := by decide +kernel
theorem dX4_copiesOf_5 : decode cX4_copiesOf 5 = .ok (.aload_n 0, 1) := by decide +kernel
theorem dX4_copiesOf_6 : decode cX4_copiesOf 6 = .ok (.getfield 12, 3) := by decide +kernel
theorem dX4_copiesOf_9 : decode cX4_copiesOf 9 = .ok (.getfield 87, 3) := by decide +kernel
theorem dX4_copiesOf_12 : decode cX4_copiesOf 12 = .ok (.if_icmp .ge 21, 3) := by decide +kernel
theorem dX4_copiesOf_15 : decode cX4_copiesOf 15 = .ok (.aload_n 0, 1) := by decide +kernel
theorem dX4_copiesOf_16 : decode cX4_copiesOf 16 = .ok (.iload_n 3, 1) := by decide +kernel
theorem dX4_copiesOf_17 : decode cX4_copiesOf 17 = .ok (.iload_n 1, 1) := by decide +kernel
theorem dX4_copiesOf_18 : decode cX4_copiesOf 18 = .ok (.invokevirtual 83, 3) := by decide +kernel
theorem dX4_copiesOf_21 : decode cX4_copiesOf 21 = .ok (.ifCond .eq 6, 3) := by decide +kernel
theorem dX4_copiesOf_24 : decode cX4_copiesOf 24 = .ok (.iinc 2 1, 3) := by decide +kernel
theorem dX4_copiesOf_27 : decode cX4_copiesOf 27 = .ok (.iinc 3 1, 3) := by decide +kernel
theorem dX4_copiesOf_30 : decode cX4_copiesOf 30 = .ok (.goto (-26), 3) := by decide +kernel
theorem dX4_copiesOf_33 : decode cX4_copiesOf 33 = .ok (.iload_n 2, 1) := by decide +kernel
theorem dX4_copiesOf_34 : decode cX4_copiesOf 34 = .ok (.ireturn, 1) := by decide +kernel
theorem dX4_copiesInAll_0 : decode cX4_copiesInAll 0 = .ok (.iconst 0, 1) := by decide +kernel
theorem dX4_copiesInAll_1 : decode cX4_copiesInAll 1 = .ok (.istore_n 1, 1) := by decide +kernel
theorem dX4_copiesInAll_2 : decode cX4_copiesInAll 2 = .ok (.iconst 0, 1) := by decide +kernel
theorem dX4_copiesInAll_3 : decode cX4_copiesInAll 3 = .ok (.istore_n 2, 1) := by decide +kernel
theorem dX4_copiesInAll_4 : decode cX4_copiesInAll 4 = .ok (.iload_n 2, 1) := by decide +kernel
theorem dX4_copiesInAll_5 : decode cX4_copiesInAll 5 = .ok (.aload_n 0, 1) := by decide +kernel
theorem dX4_copiesInAll_6 : decode cX4_copiesInAll 6 = .ok (.getfield 12, 3) := by decide +kernel
theorem dX4_copiesInAll_9 : decode cX4_copiesInAll 9 = .ok (.getfield 87, 3) := by decide +kernel
theorem dX4_copiesInAll_12 : decode cX4_copiesInAll 12 = .ok (.if_icmp .ge 17, 3) := by decide +kernel
theorem dX4_copiesInAll_15 : decode cX4_copiesInAll 15 = .ok (.iload_n 1, 1) := by decide +kernel
theorem dX4_copiesInAll_16 : decode cX4_copiesInAll 16 = .ok (.aload_n 0, 1) := by decide +kernel
theorem dX4_copiesInAll_17 : decode cX4_copiesInAll 17 = .ok (.iload_n 2, 1) := by decide +kernel
theorem dX4_copiesInAll_18 : decode cX4_copiesInAll 18 = .ok (.invokevirtual 90, 3) := by decide +kernel
theorem dX4_copiesInAll_21 : decode cX4_copiesInAll 21 = .ok (.iadd, 1) := by decide +kernel
theorem dX4_copiesInAll_22 : decode cX4_copiesInAll 22 = .ok (.istore_n 1, 1) := by decide +kernel
theorem dX4_copiesInAll_23 : decode cX4_copiesInAll 23 = .ok (.iinc 2 1, 3) := by decide +kernel
theorem dX4_copiesInAll_26 : decode cX4_copiesInAll 26 = .ok (.goto (-22), 3) := by decide +kernel
theorem dX4_copiesInAll_29 : decode cX4_copiesInAll 29 = .ok (.iload_n 1, 1) := by decide +kernel
theorem dX4_copiesInAll_30 : decode cX4_copiesInAll 30 = .ok (.ireturn, 1) := by decide +kernel
theorem dX4_tokensOf_0 : decode cX4_tokensOf 0 = .ok (.iconst 0, 1) := by decide +kernel
theorem dX4_tokensOf_1 : decode cX4_tokensOf 1 = .ok (.istore_n 2, 1) := by decide +kernel
theorem dX4_tokensOf_2 : decode cX4_tokensOf 2 = .ok (.iconst 0, 1) := by decide +kernel
theorem dX4_tokensOf_3 : decode cX4_tokensOf 3 = .ok (.istore_n 3, 1) := by decide +kernel
theorem dX4_tokensOf_4 : decode cX4_tokensOf 4 = .ok (.iload_n 3, 1) := by decide +kernel
theorem dX4_tokensOf_5 : decode cX4_tokensOf 5 = .ok (.aload_n 0, 1) := by decide +kernel
theorem dX4_tokensOf_6 : decode cX4_tokensOf 6 = .ok (.getfield 12, 3) := by decide +kernel
theorem dX4_tokensOf_9 : decode cX4_tokensOf 9 = .ok (.getfield 87, 3) := by decide +kernel
theorem dX4_tokensOf_12 : decode cX4_tokensOf 12 = .ok (.if_icmp .ge 22, 3) := by decide +kernel
theorem dX4_tokensOf_15 : decode cX4_tokensOf 15 = .ok (.iload_n 2, 1) := by decide +kernel
theorem dX4_tokensOf_16 : decode cX4_tokensOf 16 = .ok (.aload_n 0, 1) := by decide +kernel
theorem dX4_tokensOf_17 : decode cX4_tokensOf 17 = .ok (.getfield 28, 3) := by decide +kernel
theorem dX4_tokensOf_20 : decode cX4_tokensOf 20 = .ok (.iload_n 3, 1) := by decide +kernel
theorem dX4_tokensOf_21 : decode cX4_tokensOf 21 = .ok (.iload_n 1, 1) := by decide +kernel
theorem dX4_tokensOf_22 : decode cX4_tokensOf 22 = .ok (.invokestatic 94, 3) := by decide +kernel
theorem dX4_tokensOf_25 : decode cX4_tokensOf 25 = .ok (.iaload, 1) := by decide +kernel
theorem dX4_tokensOf_26 : decode cX4_tokensOf 26 = .ok (.iadd, 1) := by decide +kernel
theorem dX4_tokensOf_27 : decode cX4_tokensOf 27 = .ok (.istore_n 2, 1) := by decide +kernel
theorem dX4_tokensOf_28 : decode cX4_tokensOf 28 = .ok (.iinc 3 1, 3) := by decide +kernel
theorem dX4_tokensOf_31 : decode cX4_tokensOf 31 = .ok (.goto (-27), 3) := by decide +kernel
theorem dX4_tokensOf_34 : decode cX4_tokensOf 34 = .ok (.iload_n 2, 1) := by decide +kernel
theorem dX4_tokensOf_35 : decode cX4_tokensOf 35 = .ok (.ireturn, 1) := by decide +kernel
theorem dX4_loadOf_0 : decode cX4_loadOf 0 = .ok (.iconst 0, 1) := by decide +kernel
theorem dX4_loadOf_1 : decode cX4_loadOf 1 = .ok (.istore_n 2, 1) := by decide +kernel
theorem dX4_loadOf_2 : decode cX4_loadOf 2 = .ok (.iconst 0, 1) := by decide +kernel
theorem dX4_loadOf_3 : decode cX4_loadOf 3 = .ok (.istore_n 3, 1) := by decide +kernel
theorem dX4_loadOf_4 : decode cX4_loadOf 4 = .ok (.iload_n 3, 1) := by decide +kernel
theorem dX4_loadOf_5 : decode cX4_loadOf 5 = .ok (.aload_n 0, 1) := by decide +kernel
theorem dX4_loadOf_6 : decode cX4_loadOf 6 = .ok (.getfield 12, 3) := by decide +kernel
theorem dX4_loadOf_9 : decode cX4_loadOf 9 = .ok (.getfield 80, 3) := by decide +kernel
theorem dX4_loadOf_12 : decode cX4_loadOf 12 = .ok (.if_icmp .ge 30, 3) := by decide +kernel
theorem dX4_loadOf_15 : decode cX4_loadOf 15 = .ok (.aload_n 0, 1) := by decide +kernel
theorem dX4_loadOf_16 : decode cX4_loadOf 16 = .ok (.iload_n 1, 1) := by decide +kernel
theorem dX4_loadOf_17 : decode cX4_loadOf 17 = .ok (.iload_n 3, 1) := by decide +kernel
theorem dX4_loadOf_18 : decode cX4_loadOf 18 = .ok (.invokevirtual 83, 3) := by decide +kernel
theorem dX4_loadOf_21 : decode cX4_loadOf 21 = .ok (.ifCond .eq 15, 3) := by decide +kernel
theorem dX4_loadOf_24 : decode cX4_loadOf 24 = .ok (.iload_n 2, 1) := by decide +kernel
theorem dX4_loadOf_25 : decode cX4_loadOf 25 = .ok (.aload_n 0, 1) := by decide +kernel
theorem dX4_loadOf_26 : decode cX4_loadOf 26 = .ok (.getfield 12, 3) := by decide +kernel
theorem dX4_loadOf_29 : decode cX4_loadOf 29 = .ok (.iload_n 3, 1) := by decide +kernel
theorem dX4_loadOf_30 : decode cX4_loadOf 30 = .ok (.iconst 3, 1) := by decide +kernel
theorem dX4_loadOf_31 : decode cX4_loadOf 31 = .ok (.invokevirtual 97, 3) := by decide +kernel
theorem dX4_loadOf_34 : decode cX4_loadOf 34 = .ok (.iadd, 1) := by decide +kernel
theorem dX4_loadOf_35 : decode cX4_loadOf 35 = .ok (.istore_n 2, 1) := by decide +kernel
theorem dX4_loadOf_36 : decode cX4_loadOf 36 = .ok (.iinc 3 1, 3) := by decide +kernel
theorem dX4_loadOf_39 : decode cX4_loadOf 39 = .ok (.goto (-35), 3) := by decide +kernel
theorem dX4_loadOf_42 : decode cX4_loadOf 42 = .ok (.iload_n 2, 1) := by decide +kernel
theorem dX4_loadOf_43 : decode cX4_loadOf 43 = .ok (.ireturn, 1) := by decide +kernel
theorem dX4_ownLoadOf_0 : decode cX4_ownLoadOf 0 = .ok (.iconst 0, 1) := by decide +kernel
theorem dX4_ownLoadOf_1 : decode cX4_ownLoadOf 1 = .ok (.istore_n 2, 1) := by decide +kernel
theorem dX4_ownLoadOf_2 : decode cX4_ownLoadOf 2 = .ok (.iconst 0, 1) := by decide +kernel
theorem dX4_ownLoadOf_3 : decode cX4_ownLoadOf 3 = .ok (.istore_n 3, 1) := by decide +kernel
theorem dX4_ownLoadOf_4 : decode cX4_ownLoadOf 4 = .ok (.iload_n 3, 1) := by decide +kernel
theorem dX4_ownLoadOf_5 : decode cX4_ownLoadOf 5 = .ok (.aload_n 0, 1) := by decide +kernel
theorem dX4_ownLoadOf_6 : decode cX4_ownLoadOf 6 = .ok (.getfield 12, 3) := by decide +kernel
theorem dX4_ownLoadOf_9 : decode cX4_ownLoadOf 9 = .ok (.getfield 80, 3) := by decide +kernel
theorem dX4_ownLoadOf_12 : decode cX4_ownLoadOf 12 = .ok (.if_icmp .ge 43, 3) := by decide +kernel
theorem dX4_ownLoadOf_15 : decode cX4_ownLoadOf 15 = .ok (.aload_n 0, 1) := by decide +kernel
theorem dX4_ownLoadOf_16 : decode cX4_ownLoadOf 16 = .ok (.iload_n 1, 1) := by decide +kernel
theorem dX4_ownLoadOf_17 : decode cX4_ownLoadOf 17 = .ok (.iload_n 3, 1) := by decide +kernel
theorem dX4_ownLoadOf_18 : decode cX4_ownLoadOf 18 = .ok (.invokevirtual 83, 3) := by decide +kernel
theorem dX4_ownLoadOf_21 : decode cX4_ownLoadOf 21 = .ok (.ifCond .eq 28, 3) := by decide +kernel
theorem dX4_ownLoadOf_24 : decode cX4_ownLoadOf 24 = .ok (.aload_n 0, 1) := by decide +kernel
theorem dX4_ownLoadOf_25 : decode cX4_ownLoadOf 25 = .ok (.getfield 12, 3) := by decide +kernel
theorem dX4_ownLoadOf_28 : decode cX4_ownLoadOf 28 = .ok (.iload_n 3, 1) := by decide +kernel
theorem dX4_ownLoadOf_29 : decode cX4_ownLoadOf 29 = .ok (.iconst 1, 1) := by decide +kernel
theorem dX4_ownLoadOf_30 : decode cX4_ownLoadOf 30 = .ok (.invokevirtual 97, 3) := by decide +kernel
theorem dX4_ownLoadOf_33 : decode cX4_ownLoadOf 33 = .ok (.iload_n 1, 1) := by decide +kernel
theorem dX4_ownLoadOf_34 : decode cX4_ownLoadOf 34 = .ok (.if_icmp .ne 15, 3) := by decide +kernel
theorem dX4_ownLoadOf_37 : decode cX4_ownLoadOf 37 = .ok (.iload_n 2, 1) := by decide +kernel
theorem dX4_ownLoadOf_38 : decode cX4_ownLoadOf 38 = .ok (.aload_n 0, 1) := by decide +kernel
theorem dX4_ownLoadOf_39 : decode cX4_ownLoadOf 39 = .ok (.getfield 12, 3) := by decide +kernel
theorem dX4_ownLoadOf_42 : decode cX4_ownLoadOf 42 = .ok (.iload_n 3, 1) := by decide +kernel
theorem dX4_ownLoadOf_43 : decode cX4_ownLoadOf 43 = .ok (.iconst 3, 1) := by decide +kernel
theorem dX4_ownLoadOf_44 : decode cX4_ownLoadOf 44 = .ok (.invokevirtual 97, 3) := by decide +kernel
theorem dX4_ownLoadOf_47 : decode cX4_ownLoadOf 47 = .ok (.iadd, 1) := by decide +kernel
theorem dX4_ownLoadOf_48 : decode cX4_ownLoadOf 48 = .ok (.istore_n 2, 1) := by decide +kernel
theorem dX4_ownLoadOf_49 : decode cX4_ownLoadOf 49 = .ok (.iinc 3 1, 3) := by decide +kernel
theorem dX4_ownLoadOf_52 : decode cX4_ownLoadOf 52 = .ok (.goto (-48), 3) := by decide +kernel
theorem dX4_ownLoadOf_55 : decode cX4_ownLoadOf 55 = .ok (.iload_n 2, 1) := by decide +kernel
theorem dX4_ownLoadOf_56 : decode cX4_ownLoadOf 56 = .ok (.ireturn, 1) := by decide +kernel
theorem dX4_lastOf_0 : decode cX4_lastOf 0 = .ok (.aload_n 0, 1) := by decide +kernel
theorem dX4_lastOf_1 : decode cX4_lastOf 1 = .ok (.getfield 40, 3) := by decide +kernel
theorem dX4_lastOf_4 : decode cX4_lastOf 4 = .ok (.iload_n 1, 1) := by decide +kernel
theorem dX4_lastOf_5 : decode cX4_lastOf 5 = .ok (.bipush 8, 2) := by decide +kernel
theorem dX4_lastOf_7 : decode cX4_lastOf 7 = .ok (.imul, 1) := by decide +kernel
theorem dX4_lastOf_8 : decode cX4_lastOf 8 = .ok (.iload_n 2, 1) := by decide +kernel
theorem dX4_lastOf_9 : decode cX4_lastOf 9 = .ok (.iadd, 1) := by decide +kernel
theorem dX4_lastOf_10 : decode cX4_lastOf 10 = .ok (.iaload, 1) := by decide +kernel
theorem dX4_lastOf_11 : decode cX4_lastOf 11 = .ok (.ireturn, 1) := by decide +kernel
theorem dX4_noteMet_0 : decode cX4_noteMet 0 = .ok (.aload_n 0, 1) := by decide +kernel
theorem dX4_noteMet_1 : decode cX4_noteMet 1 = .ok (.getfield 40, 3) := by decide +kernel
theorem dX4_noteMet_4 : decode cX4_noteMet 4 = .ok (.iload_n 1, 1) := by decide +kernel
theorem dX4_noteMet_5 : decode cX4_noteMet 5 = .ok (.bipush 8, 2) := by decide +kernel
theorem dX4_noteMet_7 : decode cX4_noteMet 7 = .ok (.imul, 1) := by decide +kernel
theorem dX4_noteMet_8 : decode cX4_noteMet 8 = .ok (.iload_n 2, 1) := by decide +kernel
theorem dX4_noteMet_9 : decode cX4_noteMet 9 = .ok (.iadd, 1) := by decide +kernel
theorem dX4_noteMet_10 : decode cX4_noteMet 10 = .ok (.aload_n 0, 1) := by decide +kernel
theorem dX4_noteMet_11 : decode cX4_noteMet 11 = .ok (.getfield 52, 3) := by decide +kernel
theorem dX4_noteMet_14 : decode cX4_noteMet 14 = .ok (.iastore, 1) := by decide +kernel
theorem dX4_noteMet_15 : decode cX4_noteMet 15 = .ok (.aload_n 0, 1) := by decide +kernel
theorem dX4_noteMet_16 : decode cX4_noteMet 16 = .ok (.getfield 40, 3) := by decide +kernel
theorem dX4_noteMet_19 : decode cX4_noteMet 19 = .ok (.iload_n 2, 1) := by decide +kernel
theorem dX4_noteMet_20 : decode cX4_noteMet 20 = .ok (.bipush 8, 2) := by decide +kernel
theorem dX4_noteMet_22 : decode cX4_noteMet 22 = .ok (.imul, 1) := by decide +kernel
theorem dX4_noteMet_23 : decode cX4_noteMet 23 = .ok (.iload_n 1, 1) := by decide +kernel
theorem dX4_noteMet_24 : decode cX4_noteMet 24 = .ok (.iadd, 1) := by decide +kernel
theorem dX4_noteMet_25 : decode cX4_noteMet 25 = .ok (.aload_n 0, 1) := by decide +kernel
theorem dX4_noteMet_26 : decode cX4_noteMet 26 = .ok (.getfield 52, 3) := by decide +kernel
theorem dX4_noteMet_29 : decode cX4_noteMet 29 = .ok (.iastore, 1) := by decide +kernel
theorem dX4_noteMet_30 : decode cX4_noteMet 30 = .ok (.return_, 1) := by decide +kernel
theorem dX4_othersMet_0 : decode cX4_othersMet 0 = .ok (.iconst 0, 1) := by decide +kernel
theorem dX4_othersMet_1 : decode cX4_othersMet 1 = .ok (.istore_n 2, 1) := by decide +kernel
theorem dX4_othersMet_2 : decode cX4_othersMet 2 = .ok (.iconst 0, 1) := by decide +kernel
theorem dX4_othersMet_3 : decode cX4_othersMet 3 = .ok (.istore_n 3, 1) := by decide +kernel
theorem dX4_othersMet_4 : decode cX4_othersMet 4 = .ok (.iload_n 3, 1) := by decide +kernel
theorem dX4_othersMet_5 : decode cX4_othersMet 5 = .ok (.aload_n 0, 1) := by decide +kernel
theorem dX4_othersMet_6 : decode cX4_othersMet 6 = .ok (.getfield 12, 3) := by decide +kernel
theorem dX4_othersMet_9 : decode cX4_othersMet 9 = .ok (.getfield 87, 3) := by decide +kernel
theorem dX4_othersMet_12 : decode cX4_othersMet 12 = .ok (.if_icmp .ge 22, 3) := by decide +kernel
theorem dX4_othersMet_15 : decode cX4_othersMet 15 = .ok (.aload_n 0, 1) := by decide +kernel
theorem dX4_othersMet_16 : decode cX4_othersMet 16 = .ok (.iload_n 1, 1) := by decide +kernel
theorem dX4_othersMet_17 : decode cX4_othersMet 17 = .ok (.iload_n 3, 1) := by decide +kernel
theorem dX4_othersMet_18 : decode cX4_othersMet 18 = .ok (.invokevirtual 100, 3) := by decide +kernel
theorem dX4_othersMet_21 : decode cX4_othersMet 21 = .ok (.iconst (-1), 1) := by decide +kernel
theorem dX4_othersMet_22 : decode cX4_othersMet 22 = .ok (.if_icmp .eq 6, 3) := by decide +kernel
theorem dX4_othersMet_25 : decode cX4_othersMet 25 = .ok (.iinc 2 1, 3) := by decide +kernel
theorem dX4_othersMet_28 : decode cX4_othersMet 28 = .ok (.iinc 3 1, 3) := by decide +kernel
theorem dX4_othersMet_31 : decode cX4_othersMet 31 = .ok (.goto (-27), 3) := by decide +kernel
theorem dX4_othersMet_34 : decode cX4_othersMet 34 = .ok (.iload_n 2, 1) := by decide +kernel
theorem dX4_othersMet_35 : decode cX4_othersMet 35 = .ok (.ireturn, 1) := by decide +kernel
theorem dX4_stateOf_0 : decode cX4_stateOf 0 = .ok (.aload_n 0, 1) := by decide +kernel
theorem dX4_stateOf_1 : decode cX4_stateOf 1 = .ok (.getfield 12, 3) := by decide +kernel
theorem dX4_stateOf_4 : decode cX4_stateOf 4 = .ok (.iload_n 1, 1) := by decide +kernel
theorem dX4_stateOf_5 : decode cX4_stateOf 5 = .ok (.iconst 0, 1) := by decide +kernel
theorem dX4_stateOf_6 : decode cX4_stateOf 6 = .ok (.invokevirtual 97, 3) := by decide +kernel
theorem dX4_stateOf_9 : decode cX4_stateOf 9 = .ok (.aload_n 0, 1) := by decide +kernel
theorem dX4_stateOf_10 : decode cX4_stateOf 10 = .ok (.getfield 52, 3) := by decide +kernel
theorem dX4_stateOf_13 : decode cX4_stateOf 13 = .ok (.if_icmp .le 5, 3) := by decide +kernel
theorem dX4_stateOf_16 : decode cX4_stateOf 16 = .ok (.iconst 0, 1) := by decide +kernel
theorem dX4_stateOf_17 : decode cX4_stateOf 17 = .ok (.ireturn, 1) := by decide +kernel
theorem dX4_stateOf_18 : decode cX4_stateOf 18 = .ok (.aload_n 0, 1) := by decide +kernel
theorem dX4_stateOf_19 : decode cX4_stateOf 19 = .ok (.getfield 43, 3) := by decide +kernel
theorem dX4_stateOf_22 : decode cX4_stateOf 22 = .ok (.iload_n 1, 1) := by decide +kernel
theorem dX4_stateOf_23 : decode cX4_stateOf 23 = .ok (.iaload, 1) := by decide +kernel
theorem dX4_stateOf_24 : decode cX4_stateOf 24 = .ok (.bipush (-4), 2) := by decide +kernel
theorem dX4_stateOf_26 : decode cX4_stateOf 26 = .ok (.if_icmp .eq 5, 3) := by decide +kernel
theorem dX4_stateOf_29 : decode cX4_stateOf 29 = .ok (.iconst 2, 1) := by decide +kernel
theorem dX4_stateOf_30 : decode cX4_stateOf 30 = .ok (.ireturn, 1) := by decide +kernel
theorem dX4_stateOf_31 : decode cX4_stateOf 31 = .ok (.aload_n 0, 1) := by decide +kernel
theorem dX4_stateOf_32 : decode cX4_stateOf 32 = .ok (.iload_n 1, 1) := by decide +kernel
theorem dX4_stateOf_33 : decode cX4_stateOf 33 = .ok (.invokevirtual 103, 3) := by decide +kernel
theorem dX4_stateOf_36 : decode cX4_stateOf 36 = .ok (.ifCond .le 7, 3) := by decide +kernel
theorem dX4_stateOf_39 : decode cX4_stateOf 39 = .ok (.iconst 1, 1) := by decide +kernel
theorem dX4_stateOf_40 : decode cX4_stateOf 40 = .ok (.goto 4, 3) := by decide +kernel
theorem dX4_stateOf_43 : decode cX4_stateOf 43 = .ok (.iconst 3, 1) := by decide +kernel
theorem dX4_stateOf_44 : decode cX4_stateOf 44 = .ok (.ireturn, 1) := by decide +kernel
theorem dX4_putCopy_0 : decode cX4_putCopy 0 = .ok (.iload_n 1, 1) := by decide +kernel
theorem dX4_putCopy_1 : decode cX4_putCopy 1 = .ok (.iload_n 2, 1) := by decide +kernel
theorem dX4_putCopy_2 : decode cX4_putCopy 2 = .ok (.invokestatic 94, 3) := by decide +kernel
theorem dX4_putCopy_5 : decode cX4_putCopy 5 = .ok (.istore 5, 2) := by decide +kernel
theorem dX4_putCopy_7 : decode cX4_putCopy 7 = .ok (.aload_n 0, 1) := by decide +kernel
theorem dX4_putCopy_8 : decode cX4_putCopy 8 = .ok (.getfield 28, 3) := by decide +kernel
theorem dX4_putCopy_11 : decode cX4_putCopy 11 = .ok (.iload 5, 2) := by decide +kernel
theorem dX4_putCopy_13 : decode cX4_putCopy 13 = .ok (.iload_n 3, 1) := by decide +kernel
theorem dX4_putCopy_14 : decode cX4_putCopy 14 = .ok (.iastore, 1) := by decide +kernel
theorem dX4_putCopy_15 : decode cX4_putCopy 15 = .ok (.aload_n 0, 1) := by decide +kernel
theorem dX4_putCopy_16 : decode cX4_putCopy 16 = .ok (.getfield 31, 3) := by decide +kernel
theorem dX4_putCopy_19 : decode cX4_putCopy 19 = .ok (.iload 5, 2) := by decide +kernel
theorem dX4_putCopy_21 : decode cX4_putCopy 21 = .ok (.iload 4, 2) := by decide +kernel
theorem dX4_putCopy_23 : decode cX4_putCopy 23 = .ok (.iastore, 1) := by decide +kernel
theorem dX4_putCopy_24 : decode cX4_putCopy 24 = .ok (.aload_n 0, 1) := by decide +kernel
theorem dX4_putCopy_25 : decode cX4_putCopy 25 = .ok (.getfield 34, 3) := by decide +kernel
theorem dX4_putCopy_28 : decode cX4_putCopy 28 = .ok (.iload 5, 2) := by decide +kernel
theorem dX4_putCopy_30 : decode cX4_putCopy 30 = .ok (.aload_n 0, 1) := by decide +kernel
theorem dX4_putCopy_31 : decode cX4_putCopy 31 = .ok (.getfield 52, 3) := by decide +kernel
theorem dX4_putCopy_34 : decode cX4_putCopy 34 = .ok (.iastore, 1) := by decide +kernel
theorem dX4_putCopy_35 : decode cX4_putCopy 35 = .ok (.return_, 1) := by decide +kernel
theorem dX4_removeCopy_0 : decode cX4_removeCopy 0 = .ok (.aload_n 0, 1) := by decide +kernel
theorem dX4_removeCopy_1 : decode cX4_removeCopy 1 = .ok (.getfield 28, 3) := by decide +kernel
theorem dX4_removeCopy_4 : decode cX4_removeCopy 4 = .ok (.iload_n 1, 1) := by decide +kernel
theorem dX4_removeCopy_5 : decode cX4_removeCopy 5 = .ok (.iload_n 2, 1) := by decide +kernel
theorem dX4_removeCopy_6 : decode cX4_removeCopy 6 = .ok (.invokestatic 94, 3) := by decide +kernel
theorem dX4_removeCopy_9 : decode cX4_removeCopy 9 = .ok (.iconst 0, 1) := by decide +kernel
theorem dX4_removeCopy_10 : decode cX4_removeCopy 10 = .ok (.iastore, 1) := by decide +kernel
theorem dX4_removeCopy_11 : decode cX4_removeCopy 11 = .ok (.return_, 1) := by decide +kernel
theorem dX5_init_0 : decode cX5_init 0 = .ok (.aload_n 0, 1) := by decide +kernel
theorem dX5_init_1 : decode cX5_init 1 = .ok (.invokespecial 1, 3) := by decide +kernel
theorem dX5_init_4 : decode cX5_init 4 = .ok (.aload_n 0, 1) := by decide +kernel
theorem dX5_init_5 : decode cX5_init 5 = .ok (.new 7, 3) := by decide +kernel
theorem dX5_init_8 : decode cX5_init 8 = .ok (.dup, 1) := by decide +kernel
theorem dX5_init_9 : decode cX5_init 9 = .ok (.invokespecial 9, 3) := by decide +kernel
theorem dX5_init_12 : decode cX5_init 12 = .ok (.putfield 10, 3) := by decide +kernel
theorem dX5_init_15 : decode cX5_init 15 = .ok (.aload_n 0, 1) := by decide +kernel
theorem dX5_init_16 : decode cX5_init 16 = .ok (.new 16, 3) := by decide +kernel
theorem dX5_init_19 : decode cX5_init 19 = .ok (.dup, 1) := by decide +kernel
theorem dX5_init_20 : decode cX5_init 20 = .ok (.aload_n 0, 1) := by decide +kernel
theorem dX5_init_21 : decode cX5_init 21 = .ok (.getfield 10, 3) := by decide +kernel
theorem dX5_init_24 : decode cX5_init 24 = .ok (.invokespecial 18, 3) := by decide +kernel
theorem dX5_init_27 : decode cX5_init 27 = .ok (.putfield 21, 3) := by decide +kernel
theorem dX5_init_30 : decode cX5_init 30 = .ok (.aload_n 0, 1) := by decide +kernel
theorem dX5_init_31 : decode cX5_init 31 = .ok (.new 25, 3) := by decide +kernel
theorem dX5_init_34 : decode cX5_init 34 = .ok (.dup, 1) := by decide +kernel
theorem dX5_init_35 : decode cX5_init 35 = .ok (.invokespecial 27, 3) := by decide +kernel
theorem dX5_init_38 : decode cX5_init 38 = .ok (.putfield 28, 3) := by decide +kernel
theorem dX5_init_41 : decode cX5_init 41 = .ok (.aload_n 0, 1) := by decide +kernel
theorem dX5_init_42 : decode cX5_init 42 = .ok (.new 32, 3) := by decide +kernel
theorem dX5_init_45 : decode cX5_init 45 = .ok (.dup, 1) := by decide +kernel
theorem dX5_init_46 : decode cX5_init 46 = .ok (.aload_n 0, 1) := by decide +kernel
theorem dX5_init_47 : decode cX5_init 47 = .ok (.getfield 28, 3) := by decide +kernel
theorem dX5_init_50 : decode cX5_init 50 = .ok (.invokespecial 34, 3) := by decide +kernel
theorem dX5_init_53 : decode cX5_init 53 = .ok (.putfield 37, 3) := by decide +kernel
theorem dX5_init_56 : decode cX5_init 56 = .ok (.aload_n 0, 1) := by decide +kernel
theorem dX5_init_57 : decode cX5_init 57 = .ok (.iconst 2, 1) := by decide +kernel
theorem dX5_init_58 : decode cX5_init 58 = .ok (.anewarray 25, 3) := by decide +kernel
theorem dX5_init_61 : decode cX5_init 61 = .ok (.putfield 41, 3) := by decide +kernel
theorem dX5_init_64 : decode cX5_init 64 = .ok (.iconst 0, 1) := by decide +kernel
theorem dX5_init_65 : decode cX5_init 65 = .ok (.istore_n 1, 1) := by decide +kernel
theorem dX5_init_66 : decode cX5_init 66 = .ok (.iload_n 1, 1) := by decide +kernel
theorem dX5_init_67 : decode cX5_init 67 = .ok (.iconst 2, 1) := by decide +kernel
theorem dX5_init_68 : decode cX5_init 68 = .ok (.if_icmp .ge 22, 3) := by decide +kernel
theorem dX5_init_71 : decode cX5_init 71 = .ok (.aload_n 0, 1) := by decide +kernel
theorem dX5_init_72 : decode cX5_init 72 = .ok (.getfield 41, 3) := by decide +kernel
theorem dX5_init_75 : decode cX5_init 75 = .ok (.iload_n 1, 1) := by decide +kernel
theorem dX5_init_76 : decode cX5_init 76 = .ok (.new 25, 3) := by decide +kernel
theorem dX5_init_79 : decode cX5_init 79 = .ok (.dup, 1) := by decide +kernel
theorem dX5_init_80 : decode cX5_init 80 = .ok (.invokespecial 27, 3) := by decide +kernel
theorem dX5_init_83 : decode cX5_init 83 = .ok (.aastore, 1) := by decide +kernel
theorem dX5_init_84 : decode cX5_init 84 = .ok (.iinc 1 1, 3) := by decide +kernel
theorem dX5_init_87 : decode cX5_init 87 = .ok (.goto (-21), 3) := by decide +kernel
theorem dX5_init_90 : decode cX5_init 90 = .ok (.aload_n 0, 1) := by decide +kernel
theorem dX5_init_91 : decode cX5_init 91 = .ok (.iconst 2, 1) := by decide +kernel
theorem dX5_init_92 : decode cX5_init 92 = .ok (.newarray .boolean, 2) := by decide +kernel
theorem dX5_init_94 : decode cX5_init 94 = .ok (.putfield 45, 3) := by decide +kernel
theorem dX5_init_97 : decode cX5_init 97 = .ok (.return_, 1) := by decide +kernel
theorem dX5_feed_0 : decode cX5_feed 0 = .ok (.iload_n 1, 1) := by decide +kernel
theorem dX5_feed_1 : decode cX5_feed 1 = .ok (.ifCond .lt 9, 3) := by decide +kernel
theorem dX5_feed_4 : decode cX5_feed 4 = .ok (.iload_n 1, 1) := by decide +kernel
theorem dX5_feed_5 : decode cX5_feed 5 = .ok (.bipush 127, 2) := by decide +kernel
theorem dX5_feed_7 : decode cX5_feed 7 = .ok (.if_icmp .le 5, 3) := by decide +kernel
theorem dX5_feed_10 : decode cX5_feed 10 = .ok (.iconst (-1), 1) := by decide +kernel
theorem dX5_feed_11 : decode cX5_feed 11 = .ok (.ireturn, 1) := by decide +kernel
theorem dX5_feed_12 : decode cX5_feed 12 = .ok (.aload_n 0, 1) := by decide +kernel
theorem dX5_feed_13 : decode cX5_feed 13 = .ok (.getfield 10, 3) := by decide +kernel
theorem dX5_feed_16 : decode cX5_feed 16 = .ok (.getfield 49, 3) := by decide +kernel
theorem dX5_feed_19 : decode cX5_feed 19 = .ok (.sipush 300, 3) := by decide +kernel
theorem dX5_feed_22 : decode cX5_feed 22 = .ok (.if_icmp .lt 6, 3) := by decide +kernel
theorem dX5_feed_25 : decode cX5_feed 25 = .ok (.bipush (-3), 2) := by decide +kernel
theorem dX5_feed_27 : decode cX5_feed 27 = .ok (.ireturn, 1) := by decide +kernel
theorem dX5_feed_28 : decode cX5_feed 28 = .ok (.aload_n 0, 1) := by decide +kernel
theorem dX5_feed_29 : decode cX5_feed 29 = .ok (.getfield 10, 3) := by decide +kernel
theorem dX5_feed_32 : decode cX5_feed 32 = .ok (.getfield 53, 3) := by decide +kernel
theorem dX5_feed_35 : decode cX5_feed 35 = .ok (.aload_n 0, 1) := by decide +kernel
theorem dX5_feed_36 : decode cX5_feed 36 = .ok (.getfield 10, 3) := by decide +kernel
theorem dX5_feed_39 : decode cX5_feed 39 = .ok (.getfield 49, 3) := by decide +kernel
theorem dX5_feed_42 : decode cX5_feed 42 = .ok (.iload_n 1, 1) := by decide +kernel
theorem dX5_feed_43 : decode cX5_feed 43 = .ok (.i2b, 1) := by decide +kernel
theorem dX5_feed_44 : decode cX5_feed 44 = .ok (.bastore, 1) := by decide +kernel
theorem dX5_feed_45 : decode cX5_feed 45 = .ok (.aload_n 0, 1) := by decide +kernel
theorem dX5_feed_46 : decode cX5_feed 46 = .ok (.getfield 10, 3) := by decide +kernel
theorem dX5_feed_49 : decode cX5_feed 49 = .ok (.dup, 1) := by decide +kernel
theorem dX5_feed_50 : decode cX5_feed 50 = .ok (.getfield 49, 3) := by decide +kernel
theorem dX5_feed_53 : decode cX5_feed 53 = .ok (.iconst 1, 1) := by decide +kernel
theorem dX5_feed_54 : decode cX5_feed 54 = .ok (.iadd, 1) := by decide +kernel
theorem dX5_feed_55 : decode cX5_feed 55 = .ok (.putfield 49, 3) := by decide +kernel
theorem dX5_feed_58 : decode cX5_feed 58 = .ok (.aload_n 0, 1) := by decide +kernel
theorem dX5_feed_59 : decode cX5_feed 59 = .ok (.getfield 10, 3) := by decide +kernel
theorem dX5_feed_62 : decode cX5_feed 62 = .ok (.getfield 49, 3) := by decide +kernel
theorem dX5_feed_65 : decode cX5_feed 65 = .ok (.ireturn, 1) := by decide +kernel
theorem dX5_end_0 : decode cX5_end 0 = .ok (.iload_n 1, 1) := by decide +kernel
theorem dX5_end_1 : decode cX5_end 1 = .ok (.ifCond .lt 14, 3) := by decide +kernel
theorem dX5_end_4 : decode cX5_end 4 = .ok (.iload_n 1, 1) := by decide +kernel
theorem dX5_end_5 : decode cX5_end 5 = .ok (.aload_n 0, 1) := by decide +kernel
theorem dX5_end_6 : decode cX5_end 6 = .ok (.getfield 10, 3) := by decide +kernel
theorem dX5_end_9 : decode cX5_end 9 = .ok (.getfield 49, 3) := by decide +kernel
theorem dX5_end_12 : decode cX5_end 12 = .ok (.if_icmp .le 5, 3) := by decide +kernel
theorem dX5_end_15 : decode cX5_end 15 = .ok (.iconst (-1), 1) := by decide +kernel
theorem dX5_end_16 : decode cX5_end 16 = .ok (.ireturn, 1) := by decide +kernel
theorem dX5_end_17 : decode cX5_end 17 = .ok (.aload_n 0, 1) := by decide +kernel
theorem dX5_end_18 : decode cX5_end 18 = .ok (.getfield 10, 3) := by decide +kernel
theorem dX5_end_21 : decode cX5_end 21 = .ok (.getfield 49, 3) := by decide +kernel
theorem dX5_end_24 : decode cX5_end 24 = .ok (.istore_n 2, 1) := by decide +kernel
theorem dX5_end_25 : decode cX5_end 25 = .ok (.aload_n 0, 1) := by decide +kernel
theorem dX5_end_26 : decode cX5_end 26 = .ok (.getfield 10, 3) := by decide +kernel
theorem dX5_end_29 : decode cX5_end 29 = .ok (.iload_n 1, 1) := by decide +kernel
theorem dX5_end_30 : decode cX5_end 30 = .ok (.putfield 49, 3) := by decide +kernel
theorem dX5_end_33 : decode cX5_end 33 = .ok (.iload_n 2, 1) := by decide +kernel
theorem dX5_end_34 : decode cX5_end 34 = .ok (.ireturn, 1) := by decide +kernel
theorem dX5_text_0 : decode cX5_text 0 = .ok (.aload_n 0, 1) := by decide +kernel
theorem dX5_text_1 : decode cX5_text 1 = .ok (.getfield 21, 3) := by decide +kernel
theorem dX5_text_4 : decode cX5_text 4 = .ok (.invokevirtual 57, 3) := by decide +kernel
theorem dX5_text_7 : decode cX5_text 7 = .ok (.istore_n 1, 1) := by decide +kernel
theorem dX5_text_8 : decode cX5_text 8 = .ok (.aload_n 0, 1) := by decide +kernel
theorem dX5_text_9 : decode cX5_text 9 = .ok (.getfield 10, 3) := by decide +kernel
theorem dX5_text_12 : decode cX5_text 12 = .ok (.iconst 0, 1) := by decide +kernel
