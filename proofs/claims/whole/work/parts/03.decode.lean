theorem dX0_init_0 : decode cX0_init 0 = .ok (.aload_n 0, 1) := by decide +kernel
theorem dX0_init_1 : decode cX0_init 1 = .ok (.invokespecial 3, 3) := by decide +kernel
theorem dX0_init_4 : decode cX0_init 4 = .ok (.aload_n 0, 1) := by decide +kernel
theorem dX0_init_5 : decode cX0_init 5 = .ok (.iconst 0, 1) := by decide +kernel
theorem dX0_init_6 : decode cX0_init 6 = .ok (.putfield 9, 3) := by decide +kernel
theorem dX0_init_9 : decode cX0_init 9 = .ok (.aload_n 0, 1) := by decide +kernel
theorem dX0_init_10 : decode cX0_init 10 = .ok (.iconst 0, 1) := by decide +kernel
theorem dX0_init_11 : decode cX0_init 11 = .ok (.putfield 15, 3) := by decide +kernel
theorem dX0_init_14 : decode cX0_init 14 = .ok (.aload_n 0, 1) := by decide +kernel
theorem dX0_init_15 : decode cX0_init 15 = .ok (.bipush 7, 2) := by decide +kernel
theorem dX0_init_17 : decode cX0_init 17 = .ok (.newarray .int, 2) := by decide +kernel
theorem dX0_init_19 : decode cX0_init 19 = .ok (.putfield 18, 3) := by decide +kernel
theorem dX0_init_22 : decode cX0_init 22 = .ok (.aload_n 0, 1) := by decide +kernel
theorem dX0_init_23 : decode cX0_init 23 = .ok (.bipush 7, 2) := by decide +kernel
theorem dX0_init_25 : decode cX0_init 25 = .ok (.newarray .int, 2) := by decide +kernel
theorem dX0_init_27 : decode cX0_init 27 = .ok (.putfield 22, 3) := by decide +kernel
theorem dX0_init_30 : decode cX0_init 30 = .ok (.aload_n 0, 1) := by decide +kernel
theorem dX0_init_31 : decode cX0_init 31 = .ok (.bipush 7, 2) := by decide +kernel
theorem dX0_init_33 : decode cX0_init 33 = .ok (.newarray .int, 2) := by decide +kernel
theorem dX0_init_35 : decode cX0_init 35 = .ok (.putfield 25, 3) := by decide +kernel
theorem dX0_init_38 : decode cX0_init 38 = .ok (.aload_n 0, 1) := by decide +kernel
theorem dX0_init_39 : decode cX0_init 39 = .ok (.bipush 20, 2) := by decide +kernel
theorem dX0_init_41 : decode cX0_init 41 = .ok (.newarray .int, 2) := by decide +kernel
theorem dX0_init_43 : decode cX0_init 43 = .ok (.putfield 28, 3) := by decide +kernel
theorem dX0_init_46 : decode cX0_init 46 = .ok (.aload_n 0, 1) := by decide +kernel
theorem dX0_init_47 : decode cX0_init 47 = .ok (.iconst 0, 1) := by decide +kernel
theorem dX0_init_48 : decode cX0_init 48 = .ok (.putfield 31, 3) := by decide +kernel
theorem dX0_init_51 : decode cX0_init 51 = .ok (.aload_n 0, 1) := by decide +kernel
theorem dX0_init_52 : decode cX0_init 52 = .ok (.iconst 0, 1) := by decide +kernel
theorem dX0_init_53 : decode cX0_init 53 = .ok (.putfield 34, 3) := by decide +kernel
theorem dX0_init_56 : decode cX0_init 56 = .ok (.aload_n 0, 1) := by decide +kernel
theorem dX0_init_57 : decode cX0_init 57 = .ok (.iconst 0, 1) := by decide +kernel
theorem dX0_init_58 : decode cX0_init 58 = .ok (.putfield 37, 3) := by decide +kernel
theorem dX0_init_61 : decode cX0_init 61 = .ok (.aload_n 0, 1) := by decide +kernel
theorem dX0_init_62 : decode cX0_init 62 = .ok (.getfield 28, 3) := by decide +kernel
theorem dX0_init_65 : decode cX0_init 65 = .ok (.iconst 1, 1) := by decide +kernel
theorem dX0_init_66 : decode cX0_init 66 = .ok (.invokestatic 40, 3) := by decide +kernel
theorem dX0_init_69 : decode cX0_init 69 = .ok (.return_, 1) := by decide +kernel
theorem dX0_restart_0 : decode cX0_restart 0 = .ok (.aload_n 0, 1) := by decide +kernel
theorem dX0_restart_1 : decode cX0_restart 1 = .ok (.iload_n 1, 1) := by decide +kernel
theorem dX0_restart_2 : decode cX0_restart 2 = .ok (.putfield 9, 3) := by decide +kernel
theorem dX0_restart_5 : decode cX0_restart 5 = .ok (.aload_n 0, 1) := by decide +kernel
theorem dX0_restart_6 : decode cX0_restart 6 = .ok (.iconst 0, 1) := by decide +kernel
theorem dX0_restart_7 : decode cX0_restart 7 = .ok (.putfield 15, 3) := by decide +kernel
theorem dX0_restart_10 : decode cX0_restart 10 = .ok (.aload_n 0, 1) := by decide +kernel
theorem dX0_restart_11 : decode cX0_restart 11 = .ok (.getfield 28, 3) := by decide +kernel
theorem dX0_restart_14 : decode cX0_restart 14 = .ok (.iconst 1, 1) := by decide +kernel
theorem dX0_restart_15 : decode cX0_restart 15 = .ok (.invokestatic 40, 3) := by decide +kernel
theorem dX0_restart_18 : decode cX0_restart 18 = .ok (.aload_n 0, 1) := by decide +kernel
theorem dX0_restart_19 : decode cX0_restart 19 = .ok (.iconst 0, 1) := by decide +kernel
theorem dX0_restart_20 : decode cX0_restart 20 = .ok (.putfield 31, 3) := by decide +kernel
theorem dX0_restart_23 : decode cX0_restart 23 = .ok (.aload_n 0, 1) := by decide +kernel
theorem dX0_restart_24 : decode cX0_restart 24 = .ok (.iconst 0, 1) := by decide +kernel
theorem dX0_restart_25 : decode cX0_restart 25 = .ok (.putfield 34, 3) := by decide +kernel
theorem dX0_restart_28 : decode cX0_restart 28 = .ok (.return_, 1) := by decide +kernel
theorem dX0_copyFrom_0 : decode cX0_copyFrom 0 = .ok (.aload_n 0, 1) := by decide +kernel
theorem dX0_copyFrom_1 : decode cX0_copyFrom 1 = .ok (.aload_n 1, 1) := by decide +kernel
theorem dX0_copyFrom_2 : decode cX0_copyFrom 2 = .ok (.getfield 9, 3) := by decide +kernel
theorem dX0_copyFrom_5 : decode cX0_copyFrom 5 = .ok (.putfield 9, 3) := by decide +kernel
theorem dX0_copyFrom_8 : decode cX0_copyFrom 8 = .ok (.aload_n 0, 1) := by decide +kernel
theorem dX0_copyFrom_9 : decode cX0_copyFrom 9 = .ok (.aload_n 1, 1) := by decide +kernel
theorem dX0_copyFrom_10 : decode cX0_copyFrom 10 = .ok (.getfield 15, 3) := by decide +kernel
theorem dX0_copyFrom_13 : decode cX0_copyFrom 13 = .ok (.putfield 15, 3) := by decide +kernel
theorem dX0_copyFrom_16 : decode cX0_copyFrom 16 = .ok (.aload_n 1, 1) := by decide +kernel
theorem dX0_copyFrom_17 : decode cX0_copyFrom 17 = .ok (.getfield 18, 3) := by decide +kernel
theorem dX0_copyFrom_20 : decode cX0_copyFrom 20 = .ok (.iconst 0, 1) := by decide +kernel
theorem dX0_copyFrom_21 : decode cX0_copyFrom 21 = .ok (.aload_n 0, 1) := by decide +kernel
theorem dX0_copyFrom_22 : decode cX0_copyFrom 22 = .ok (.getfield 18, 3) := by decide +kernel
theorem dX0_copyFrom_25 : decode cX0_copyFrom 25 = .ok (.iconst 0, 1) := by decide +kernel
theorem dX0_copyFrom_26 : decode cX0_copyFrom 26 = .ok (.bipush 7, 2) := by decide +kernel
theorem dX0_copyFrom_28 : decode cX0_copyFrom 28 = .ok (.invokestatic 46, 3) := by decide +kernel
theorem dX0_copyFrom_31 : decode cX0_copyFrom 31 = .ok (.aload_n 1, 1) := by decide +kernel
theorem dX0_copyFrom_32 : decode cX0_copyFrom 32 = .ok (.getfield 22, 3) := by decide +kernel
theorem dX0_copyFrom_35 : decode cX0_copyFrom 35 = .ok (.iconst 0, 1) := by decide +kernel
theorem dX0_copyFrom_36 : decode cX0_copyFrom 36 = .ok (.aload_n 0, 1) := by decide +kernel
theorem dX0_copyFrom_37 : decode cX0_copyFrom 37 = .ok (.getfield 22, 3) := by decide +kernel
theorem dX0_copyFrom_40 : decode cX0_copyFrom 40 = .ok (.iconst 0, 1) := by decide +kernel
theorem dX0_copyFrom_41 : decode cX0_copyFrom 41 = .ok (.bipush 7, 2) := by decide +kernel
theorem dX0_copyFrom_43 : decode cX0_copyFrom 43 = .ok (.invokestatic 46, 3) := by decide +kernel
theorem dX0_copyFrom_46 : decode cX0_copyFrom 46 = .ok (.aload_n 0, 1) := by decide +kernel
theorem dX0_copyFrom_47 : decode cX0_copyFrom 47 = .ok (.aload_n 1, 1) := by decide +kernel
theorem dX0_copyFrom_48 : decode cX0_copyFrom 48 = .ok (.invokevirtual 52, 3) := by decide +kernel
theorem dX0_copyFrom_51 : decode cX0_copyFrom 51 = .ok (.return_, 1) := by decide +kernel
theorem dX0_copyDaysFrom_0 : decode cX0_copyDaysFrom 0 = .ok (.aload_n 1, 1) := by decide +kernel
theorem dX0_copyDaysFrom_1 : decode cX0_copyDaysFrom 1 = .ok (.getfield 25, 3) := by decide +kernel
theorem dX0_copyDaysFrom_4 : decode cX0_copyDaysFrom 4 = .ok (.iconst 0, 1) := by decide +kernel
theorem dX0_copyDaysFrom_5 : decode cX0_copyDaysFrom 5 = .ok (.aload_n 0, 1) := by decide +kernel
theorem dX0_copyDaysFrom_6 : decode cX0_copyDaysFrom 6 = .ok (.getfield 25, 3) := by decide +kernel
theorem dX0_copyDaysFrom_9 : decode cX0_copyDaysFrom 9 = .ok (.iconst 0, 1) := by decide +kernel
theorem dX0_copyDaysFrom_10 : decode cX0_copyDaysFrom 10 = .ok (.bipush 7, 2) := by decide +kernel
theorem dX0_copyDaysFrom_12 : decode cX0_copyDaysFrom 12 = .ok (.invokestatic 46, 3) := by decide +kernel
theorem dX0_copyDaysFrom_15 : decode cX0_copyDaysFrom 15 = .ok (.aload_n 1, 1) := by decide +kernel
theorem dX0_copyDaysFrom_16 : decode cX0_copyDaysFrom 16 = .ok (.getfield 28, 3) := by decide +kernel
theorem dX0_copyDaysFrom_19 : decode cX0_copyDaysFrom 19 = .ok (.iconst 0, 1) := by decide +kernel
theorem dX0_copyDaysFrom_20 : decode cX0_copyDaysFrom 20 = .ok (.aload_n 0, 1) := by decide +kernel
theorem dX0_copyDaysFrom_21 : decode cX0_copyDaysFrom 21 = .ok (.getfield 28, 3) := by decide +kernel
theorem dX0_copyDaysFrom_24 : decode cX0_copyDaysFrom 24 = .ok (.iconst 0, 1) := by decide +kernel
theorem dX0_copyDaysFrom_25 : decode cX0_copyDaysFrom 25 = .ok (.bipush 20, 2) := by decide +kernel
theorem dX0_copyDaysFrom_27 : decode cX0_copyDaysFrom 27 = .ok (.invokestatic 46, 3) := by decide +kernel
theorem dX0_copyDaysFrom_30 : decode cX0_copyDaysFrom 30 = .ok (.aload_n 0, 1) := by decide +kernel
theorem dX0_copyDaysFrom_31 : decode cX0_copyDaysFrom 31 = .ok (.aload_n 1, 1) := by decide +kernel
theorem dX0_copyDaysFrom_32 : decode cX0_copyDaysFrom 32 = .ok (.getfield 31, 3) := by decide +kernel
theorem dX0_copyDaysFrom_35 : decode cX0_copyDaysFrom 35 = .ok (.putfield 31, 3) := by decide +kernel
theorem dX0_copyDaysFrom_38 : decode cX0_copyDaysFrom 38 = .ok (.aload_n 0, 1) := by decide +kernel
theorem dX0_copyDaysFrom_39 : decode cX0_copyDaysFrom 39 = .ok (.aload_n 1, 1) := by decide +kernel
theorem dX0_copyDaysFrom_40 : decode cX0_copyDaysFrom 40 = .ok (.getfield 34, 3) := by decide +kernel
theorem dX0_copyDaysFrom_43 : decode cX0_copyDaysFrom 43 = .ok (.putfield 34, 3) := by decide +kernel
theorem dX0_copyDaysFrom_46 : decode cX0_copyDaysFrom 46 = .ok (.return_, 1) := by decide +kernel
theorem dX0_isHill_0 : decode cX0_isHill 0 = .ok (.iload_n 1, 1) := by decide +kernel
theorem dX0_isHill_1 : decode cX0_isHill 1 = .ok (.iconst 0, 1) := by decide +kernel
theorem dX0_isHill_2 : decode cX0_isHill 2 = .ok (.aload_n 0, 1) := by decide +kernel
theorem dX0_isHill_3 : decode cX0_isHill 3 = .ok (.getfield 15, 3) := by decide +kernel
theorem dX0_isHill_6 : decode cX0_isHill 6 = .ok (.iconst 1, 1) := by decide +kernel
theorem dX0_isHill_7 : decode cX0_isHill 7 = .ok (.isub, 1) := by decide +kernel
theorem dX0_isHill_8 : decode cX0_isHill 8 = .ok (.invokestatic 56, 3) := by decide +kernel
theorem dX0_isHill_11 : decode cX0_isHill 11 = .ok (.ireturn, 1) := by decide +kernel
theorem dX0_mayVisit_0 : decode cX0_mayVisit 0 = .ok (.aload_n 0, 1) := by decide +kernel
theorem dX0_mayVisit_1 : decode cX0_mayVisit 1 = .ok (.iload_n 1, 1) := by decide +kernel
theorem dX0_mayVisit_2 : decode cX0_mayVisit 2 = .ok (.invokevirtual 60, 3) := by decide +kernel
theorem dX0_mayVisit_5 : decode cX0_mayVisit 5 = .ok (.ifCond .ne 9, 3) := by decide +kernel
theorem dX0_mayVisit_8 : decode cX0_mayVisit 8 = .ok (.iload_n 1, 1) := by decide +kernel
theorem dX0_mayVisit_9 : decode cX0_mayVisit 9 = .ok (.bipush 7, 2) := by decide +kernel
theorem dX0_mayVisit_11 : decode cX0_mayVisit 11 = .ok (.if_icmp .ne 7, 3) := by decide +kernel
theorem dX0_mayVisit_14 : decode cX0_mayVisit 14 = .ok (.iconst 1, 1) := by decide +kernel
theorem dX0_mayVisit_15 : decode cX0_mayVisit 15 = .ok (.goto 4, 3) := by decide +kernel
theorem dX0_mayVisit_18 : decode cX0_mayVisit 18 = .ok (.iconst 0, 1) := by decide +kernel
theorem dX0_mayVisit_19 : decode cX0_mayVisit 19 = .ok (.ireturn, 1) := by decide +kernel
theorem dX0_isTaken_0 : decode cX0_isTaken 0 = .ok (.iconst 0, 1) := by decide +kernel
theorem dX0_isTaken_1 : decode cX0_isTaken 1 = .ok (.istore_n 2, 1) := by decide +kernel
theorem dX0_isTaken_2 : decode cX0_isTaken 2 = .ok (.iload_n 2, 1) := by decide +kernel
theorem dX0_isTaken_3 : decode cX0_isTaken 3 = .ok (.aload_n 0, 1) := by decide +kernel
theorem dX0_isTaken_4 : decode cX0_isTaken 4 = .ok (.getfield 15, 3) := by decide +kernel
theorem dX0_isTaken_7 : decode cX0_isTaken 7 = .ok (.if_icmp .ge 21, 3) := by decide +kernel
theorem dX0_isTaken_10 : decode cX0_isTaken 10 = .ok (.aload_n 0, 1) := by decide +kernel
theorem dX0_isTaken_11 : decode cX0_isTaken 11 = .ok (.getfield 22, 3) := by decide +kernel
theorem dX0_isTaken_14 : decode cX0_isTaken 14 = .ok (.iload_n 2, 1) := by decide +kernel
theorem dX0_isTaken_15 : decode cX0_isTaken 15 = .ok (.iaload, 1) := by decide +kernel
theorem dX0_isTaken_16 : decode cX0_isTaken 16 = .ok (.iload_n 1, 1) := by decide +kernel
theorem dX0_isTaken_17 : decode cX0_isTaken 17 = .ok (.if_icmp .ne 5, 3) := by decide +kernel
theorem dX0_isTaken_20 : decode cX0_isTaken 20 = .ok (.iconst 1, 1) := by decide +kernel
theorem dX0_isTaken_21 : decode cX0_isTaken 21 = .ok (.ireturn, 1) := by decide +kernel
theorem dX0_isTaken_22 : decode cX0_isTaken 22 = .ok (.iinc 2 1, 3) := by decide +kernel
theorem dX0_isTaken_25 : decode cX0_isTaken 25 = .ok (.goto (-23), 3) := by decide +kernel
theorem dX0_isTaken_28 : decode cX0_isTaken 28 = .ok (.iconst 0, 1) := by decide +kernel
theorem dX0_isTaken_29 : decode cX0_isTaken 29 = .ok (.ireturn, 1) := by decide +kernel
theorem dX0_raise_0 : decode cX0_raise 0 = .ok (.aload_n 0, 1) := by decide +kernel
theorem dX0_raise_1 : decode cX0_raise 1 = .ok (.getfield 15, 3) := by decide +kernel
theorem dX0_raise_4 : decode cX0_raise 4 = .ok (.bipush 7, 2) := by decide +kernel
theorem dX0_raise_6 : decode cX0_raise 6 = .ok (.if_icmp .ge 43, 3) := by decide +kernel
theorem dX0_raise_9 : decode cX0_raise 9 = .ok (.aload_n 0, 1) := by decide +kernel
theorem dX0_raise_10 : decode cX0_raise 10 = .ok (.getfield 18, 3) := by decide +kernel
theorem dX0_raise_13 : decode cX0_raise 13 = .ok (.aload_n 0, 1) := by decide +kernel
theorem dX0_raise_14 : decode cX0_raise 14 = .ok (.getfield 15, 3) := by decide +kernel
theorem dX0_raise_17 : decode cX0_raise 17 = .ok (.iload_n 1, 1) := by decide +kernel
theorem dX0_raise_18 : decode cX0_raise 18 = .ok (.iastore, 1) := by decide +kernel
theorem dX0_raise_19 : decode cX0_raise 19 = .ok (.aload_n 0, 1) := by decide +kernel
theorem dX0_raise_20 : decode cX0_raise 20 = .ok (.getfield 22, 3) := by decide +kernel
theorem dX0_raise_23 : decode cX0_raise 23 = .ok (.aload_n 0, 1) := by decide +kernel
theorem dX0_raise_24 : decode cX0_raise 24 = .ok (.getfield 15, 3) := by decide +kernel
theorem dX0_raise_27 : decode cX0_raise 27 = .ok (.iload_n 2, 1) := by decide +kernel
theorem dX0_raise_28 : decode cX0_raise 28 = .ok (.iastore, 1) := by decide +kernel
theorem dX0_raise_29 : decode cX0_raise 29 = .ok (.aload_n 0, 1) := by decide +kernel
theorem dX0_raise_30 : decode cX0_raise 30 = .ok (.getfield 25, 3) := by decide +kernel
theorem dX0_raise_33 : decode cX0_raise 33 = .ok (.aload_n 0, 1) := by decide +kernel
theorem dX0_raise_34 : decode cX0_raise 34 = .ok (.getfield 15, 3) := by decide +kernel
theorem dX0_raise_37 : decode cX0_raise 37 = .ok (.iload_n 3, 1) := by decide +kernel
theorem dX0_raise_38 : decode cX0_raise 38 = .ok (.iastore, 1) := by decide +kernel
theorem dX0_raise_39 : decode cX0_raise 39 = .ok (.aload_n 0, 1) := by decide +kernel
theorem dX0_raise_40 : decode cX0_raise 40 = .ok (.dup, 1) := by decide +kernel
theorem dX0_raise_41 : decode cX0_raise 41 = .ok (.getfield 15, 3) := by decide +kernel
theorem dX0_raise_44 : decode cX0_raise 44 = .ok (.iconst 1, 1) := by decide +kernel
theorem dX0_raise_45 : decode cX0_raise 45 = .ok (.iadd, 1) := by decide +kernel
theorem dX0_raise_46 : decode cX0_raise 46 = .ok (.putfield 15, 3) := by decide +kernel
theorem dX0_raise_49 : decode cX0_raise 49 = .ok (.return_, 1) := by decide +kernel
theorem dX0_allVines_0 : decode cX0_allVines 0 = .ok (.iconst 0, 1) := by decide +kernel
theorem dX0_allVines_1 : decode cX0_allVines 1 = .ok (.istore_n 1, 1) := by decide +kernel
theorem dX0_allVines_2 : decode cX0_allVines 2 = .ok (.iconst 0, 1) := by decide +kernel
theorem dX0_allVines_3 : decode cX0_allVines 3 = .ok (.istore_n 2, 1) := by decide +kernel
theorem dX0_allVines_4 : decode cX0_allVines 4 = .ok (.iload_n 2, 1) := by decide +kernel
theorem dX0_allVines_5 : decode cX0_allVines 5 = .ok (.bipush 20, 2) := by decide +kernel
theorem dX0_allVines_7 : decode cX0_allVines 7 = .ok (.if_icmp .ge 18, 3) := by decide +kernel
theorem dX0_allVines_10 : decode cX0_allVines 10 = .ok (.iload_n 1, 1) := by decide +kernel
theorem dX0_allVines_11 : decode cX0_allVines 11 = .ok (.aload_n 0, 1) := by decide +kernel
theorem dX0_allVines_12 : decode cX0_allVines 12 = .ok (.getfield 28, 3) := by decide +kernel
theorem dX0_allVines_15 : decode cX0_allVines 15 = .ok (.iload_n 2, 1) := by decide +kernel
theorem dX0_allVines_16 : decode cX0_allVines 16 = .ok (.iaload, 1) := by decide +kernel
theorem dX0_allVines_17 : decode cX0_allVines 17 = .ok (.iadd, 1) := by decide +kernel
theorem dX0_allVines_18 : decode cX0_allVines 18 = .ok (.istore_n 1, 1) := by decide +kernel
theorem dX0_allVines_19 : decode cX0_allVines 19 = .ok (.iinc 2 1, 3) := by decide +kernel
theorem dX0_allVines_22 : decode cX0_allVines 22 = .ok (.goto (-18), 3) := by decide +kernel
theorem dX0_allVines_25 : decode cX0_allVines 25 = .ok (.iload_n 1, 1) := by decide +kernel
theorem dX0_allVines_26 : decode cX0_allVines 26 = .ok (.ireturn, 1) := by decide +kernel
theorem dX0_allSizes_0 : decode cX0_allSizes 0 = .ok (.iconst 0, 1) := by decide +kernel
theorem dX0_allSizes_1 : decode cX0_allSizes 1 = .ok (.istore_n 1, 1) := by decide +kernel
theorem dX0_allSizes_2 : decode cX0_allSizes 2 = .ok (.iconst 0, 1) := by decide +kernel
theorem dX0_allSizes_3 : decode cX0_allSizes 3 = .ok (.istore_n 2, 1) := by decide +kernel
theorem dX0_allSizes_4 : decode cX0_allSizes 4 = .ok (.iload_n 2, 1) := by decide +kernel
theorem dX0_allSizes_5 : decode cX0_allSizes 5 = .ok (.aload_n 0, 1) := by decide +kernel
theorem dX0_allSizes_6 : decode cX0_allSizes 6 = .ok (.getfield 15, 3) := by decide +kernel
theorem dX0_allSizes_9 : decode cX0_allSizes 9 = .ok (.if_icmp .ge 18, 3) := by decide +kernel
theorem dX0_allSizes_12 : decode cX0_allSizes 12 = .ok (.iload_n 1, 1) := by decide +kernel
theorem dX0_allSizes_13 : decode cX0_allSizes 13 = .ok (.aload_n 0, 1) := by decide +kernel
theorem dX0_allSizes_14 : decode cX0_allSizes 14 = .ok (.getfield 25, 3) := by decide +kernel
theorem dX0_allSizes_17 : decode cX0_allSizes 17 = .ok (.iload_n 2, 1) := by decide +kernel
theorem dX0_allSizes_18 : decode cX0_allSizes 18 = .ok (.iaload, 1) := by decide +kernel
theorem dX0_allSizes_19 : decode cX0_allSizes 19 = .ok (.iadd, 1) := by decide +kernel
theorem dX0_allSizes_20 : decode cX0_allSizes 20 = .ok (.istore_n 1, 1) := by decide +kernel
theorem dX0_allSizes_21 : decode cX0_allSizes 21 = .ok (.iinc 2 1, 3) := by decide +kernel
theorem dX0_allSizes_24 : decode cX0_allSizes 24 = .ok (.goto (-20), 3) := by decide +kernel
theorem dX0_allSizes_27 : decode cX0_allSizes 27 = .ok (.iload_n 1, 1) := by decide +kernel
theorem dX0_allSizes_28 : decode cX0_allSizes 28 = .ok (.ireturn, 1) := by decide +kernel
theorem dX0_tallest_0 : decode cX0_tallest 0 = .ok (.bipush 7, 2) := by decide +kernel
theorem dX0_tallest_2 : decode cX0_tallest 2 = .ok (.istore_n 1, 1) := by decide +kernel
theorem dX0_tallest_3 : decode cX0_tallest 3 = .ok (.iconst (-1), 1) := by decide +kernel
theorem dX0_tallest_4 : decode cX0_tallest 4 = .ok (.istore_n 2, 1) := by decide +kernel
theorem dX0_tallest_5 : decode cX0_tallest 5 = .ok (.iconst 0, 1) := by decide +kernel
theorem dX0_tallest_6 : decode cX0_tallest 6 = .ok (.istore_n 3, 1) := by decide +kernel
theorem dX0_tallest_7 : decode cX0_tallest 7 = .ok (.iload_n 3, 1) := by decide +kernel
theorem dX0_tallest_8 : decode cX0_tallest 8 = .ok (.aload_n 0, 1) := by decide +kernel
theorem dX0_tallest_9 : decode cX0_tallest 9 = .ok (.getfield 15, 3) := by decide +kernel
theorem dX0_tallest_12 : decode cX0_tallest 12 = .ok (.if_icmp .ge 28, 3) := by decide +kernel
theorem dX0_tallest_15 : decode cX0_tallest 15 = .ok (.aload_n 0, 1) := by decide +kernel
theorem dX0_tallest_16 : decode cX0_tallest 16 = .ok (.getfield 25, 3) := by decide +kernel
theorem dX0_tallest_19 : decode cX0_tallest 19 = .ok (.iload_n 3, 1) := by decide +kernel
theorem dX0_tallest_20 : decode cX0_tallest 20 = .ok (.iaload, 1) := by decide +kernel
theorem dX0_tallest_21 : decode cX0_tallest 21 = .ok (.iload_n 2, 1) := by decide +kernel
theorem dX0_tallest_22 : decode cX0_tallest 22 = .ok (.if_icmp .le 12, 3) := by decide +kernel
theorem dX0_tallest_25 : decode cX0_tallest 25 = .ok (.aload_n 0, 1) := by decide +kernel
theorem dX0_tallest_26 : decode cX0_tallest 26 = .ok (.getfield 25, 3) := by decide +kernel
theorem dX0_tallest_29 : decode cX0_tallest 29 = .ok (.iload_n 3, 1) := by decide +kernel
theorem dX0_tallest_30 : decode cX0_tallest 30 = .ok (.iaload, 1) := by decide +kernel
theorem dX0_tallest_31 : decode cX0_tallest 31 = .ok (.istore_n 2, 1) := by decide +kernel
theorem dX0_tallest_32 : decode cX0_tallest 32 = .ok (.iload_n 3, 1) := by decide +kernel
theorem dX0_tallest_33 : decode cX0_tallest 33 = .ok (.istore_n 1, 1) := by decide +kernel
theorem dX0_tallest_34 : decode cX0_tallest 34 = .ok (.iinc 3 1, 3) := by decide +kernel
theorem dX0_tallest_37 : decode cX0_tallest 37 = .ok (.goto (-30), 3) := by decide +kernel
theorem dX0_tallest_40 : decode cX0_tallest 40 = .ok (.iload_n 1, 1) := by decide +kernel
theorem dX0_tallest_41 : decode cX0_tallest 41 = .ok (.ireturn, 1) := by decide +kernel
theorem dX0_pass_0 : decode cX0_pass 0 = .ok (.aload_n 0, 1) := by decide +kernel
theorem dX0_pass_1 : decode cX0_pass 1 = .ok (.dup, 1) := by decide +kernel
theorem dX0_pass_2 : decode cX0_pass 2 = .ok (.getfield 34, 3) := by decide +kernel
theorem dX0_pass_5 : decode cX0_pass 5 = .ok (.iconst 1, 1) := by decide +kernel
theorem dX0_pass_6 : decode cX0_pass 6 = .ok (.iadd, 1) := by decide +kernel
theorem dX0_pass_7 : decode cX0_pass 7 = .ok (.putfield 34, 3) := by decide +kernel
theorem dX0_pass_10 : decode cX0_pass 10 = .ok (.iconst 0, 1) := by decide +kernel
theorem dX0_pass_11 : decode cX0_pass 11 = .ok (.istore_n 2, 1) := by decide +kernel
theorem dX0_pass_12 : decode cX0_pass 12 = .ok (.iload_n 2, 1) := by decide +kernel
theorem dX0_pass_13 : decode cX0_pass 13 = .ok (.aload_n 0, 1) := by decide +kernel
theorem dX0_pass_14 : decode cX0_pass 14 = .ok (.getfield 15, 3) := by decide +kernel
theorem dX0_pass_17 : decode cX0_pass 17 = .ok (.if_icmp .ge 79, 3) := by decide +kernel
theorem dX0_pass_20 : decode cX0_pass 20 = .ok (.iload_n 2, 1) := by decide +kernel
theorem dX0_pass_21 : decode cX0_pass 21 = .ok (.iload_n 1, 1) := by decide +kernel
theorem dX0_pass_22 : decode cX0_pass 22 = .ok (.if_icmp .ne 40, 3) := by decide +kernel
theorem dX0_pass_25 : decode cX0_pass 25 = .ok (.aload_n 0, 1) := by decide +kernel
theorem dX0_pass_26 : decode cX0_pass 26 = .ok (.getfield 25, 3) := by decide +kernel
theorem dX0_pass_29 : decode cX0_pass 29 = .ok (.iload_n 2, 1) := by decide +kernel
theorem dX0_pass_30 : decode cX0_pass 30 = .ok (.iconst 0, 1) := by decide +kernel
theorem dX0_pass_31 : decode cX0_pass 31 = .ok (.aload_n 0, 1) := by decide +kernel
theorem dX0_pass_32 : decode cX0_pass 32 = .ok (.getfield 25, 3) := by decide +kernel
theorem dX0_pass_35 : decode cX0_pass 35 = .ok (.iload_n 2, 1) := by decide +kernel
theorem dX0_pass_36 : decode cX0_pass 36 = .ok (.iaload, 1) := by decide +kernel
theorem dX0_pass_37 : decode cX0_pass 37 = .ok (.aload_n 0, 1) := by decide +kernel
theorem dX0_pass_38 : decode cX0_pass 38 = .ok (.getfield 9, 3) := by decide +kernel
theorem dX0_pass_41 : decode cX0_pass 41 = .ok (.aload_n 0, 1) := by decide +kernel
theorem dX0_pass_42 : decode cX0_pass 42 = .ok (.getfield 25, 3) := by decide +kernel
theorem dX0_pass_45 : decode cX0_pass 45 = .ok (.iload_n 2, 1) := by decide +kernel
theorem dX0_pass_46 : decode cX0_pass 46 = .ok (.iaload, 1) := by decide +kernel
theorem dX0_pass_47 : decode cX0_pass 47 = .ok (.aload_n 0, 1) := by decide +kernel
theorem dX0_pass_48 : decode cX0_pass 48 = .ok (.getfield 34, 3) := by decide +kernel
theorem dX0_pass_51 : decode cX0_pass 51 = .ok (.invokestatic 64, 3) := by decide +kernel
theorem dX0_pass_54 : decode cX0_pass 54 = .ok (.isub, 1) := by decide +kernel
theorem dX0_pass_55 : decode cX0_pass 55 = .ok (.invokestatic 68, 3) := by decide +kernel
theorem dX0_pass_58 : decode cX0_pass 58 = .ok (.iastore, 1) := by decide +kernel
theorem dX0_pass_59 : decode cX0_pass 59 = .ok (.goto 31, 3) := by decide +kernel
theorem dX0_pass_62 : decode cX0_pass 62 = .ok (.aload_n 0, 1) := by decide +kernel
theorem dX0_pass_63 : decode cX0_pass 63 = .ok (.getfield 25, 3) := by decide +kernel
theorem dX0_pass_66 : decode cX0_pass 66 = .ok (.iload_n 2, 1) := by decide +kernel
theorem dX0_pass_67 : decode cX0_pass 67 = .ok (.dup2, 1) := by decide +kernel
theorem dX0_pass_68 : decode cX0_pass 68 = .ok (.iaload, 1) := by decide +kernel
theorem dX0_pass_69 : decode cX0_pass 69 = .ok (.aload_n 0, 1) := by decide +kernel
theorem dX0_pass_70 : decode cX0_pass 70 = .ok (.getfield 18, 3) := by decide +kernel
theorem dX0_pass_73 : decode cX0_pass 73 = .ok (.iload_n 2, 1) := by decide +kernel
theorem dX0_pass_74 : decode cX0_pass 74 = .ok (.iaload, 1) := by decide +kernel
theorem dX0_pass_75 : decode cX0_pass 75 = .ok (.aload_n 0, 1) := by decide +kernel
theorem dX0_pass_76 : decode cX0_pass 76 = .ok (.getfield 25, 3) := by decide +kernel
theorem dX0_pass_79 : decode cX0_pass 79 = .ok (.iload_n 2, 1) := by decide +kernel
theorem dX0_pass_80 : decode cX0_pass 80 = .ok (.iaload, 1) := by decide +kernel
theorem dX0_pass_81 : decode cX0_pass 81 = .ok (.aload_n 0, 1) := by decide +kernel
theorem dX0_pass_82 : decode cX0_pass 82 = .ok (.getfield 34, 3) := by decide +kernel
theorem dX0_pass_85 : decode cX0_pass 85 = .ok (.invokestatic 74, 3) := by decide +kernel
theorem dX0_pass_88 : decode cX0_pass 88 = .ok (.iadd, 1) := by decide +kernel
theorem dX0_pass_89 : decode cX0_pass 89 = .ok (.iastore, 1) := by decide +kernel
theorem dX0_pass_90 : decode cX0_pass 90 = .ok (.iinc 2 1, 3) := by decide +kernel
theorem dX0_pass_93 : decode cX0_pass 93 = .ok (.goto (-81), 3) := by decide +kernel
theorem dX0_pass_96 : decode cX0_pass 96 = .ok (.aload_n 0, 1) := by decide +kernel
theorem dX0_pass_97 : decode cX0_pass 97 = .ok (.invokevirtual 77, 3) := by decide +kernel
theorem dX0_pass_100 : decode cX0_pass 100 = .ok (.ireturn, 1) := by decide +kernel
theorem dX0_passAlone_0 : decode cX0_passAlone 0 = .ok (.iconst 0, 1) := by decide +kernel
theorem dX0_passAlone_1 : decode cX0_passAlone 1 = .ok (.istore_n 2, 1) := by decide +kernel
theorem dX0_passAlone_2 : decode cX0_passAlone 2 = .ok (.iconst 0, 1) := by decide +kernel
theorem dX0_passAlone_3 : decode cX0_passAlone 3 = .ok (.istore_n 3, 1) := by decide +kernel
theorem dX0_passAlone_4 : decode cX0_passAlone 4 = .ok (.iload_n 3, 1) := by decide +kernel
theorem dX0_passAlone_5 : decode cX0_passAlone 5 = .ok (.iload_n 1, 1) := by decide +kernel
theorem dX0_passAlone_6 : decode cX0_passAlone 6 = .ok (.if_icmp .ge 18, 3) := by decide +kernel
theorem dX0_passAlone_9 : decode cX0_passAlone 9 = .ok (.iload_n 2, 1) := by decide +kernel
theorem dX0_passAlone_10 : decode cX0_passAlone 10 = .ok (.aload_n 0, 1) := by decide +kernel
theorem dX0_passAlone_11 : decode cX0_passAlone 11 = .ok (.bipush 7, 2) := by decide +kernel
theorem dX0_passAlone_13 : decode cX0_passAlone 13 = .ok (.invokevirtual 81, 3) := by decide +kernel
theorem dX0_passAlone_16 : decode cX0_passAlone 16 = .ok (.iadd, 1) := by decide +kernel
theorem dX0_passAlone_17 : decode cX0_passAlone 17 = .ok (.istore_n 2, 1) := by decide +kernel
theorem dX0_passAlone_18 : decode cX0_passAlone 18 = .ok (.iinc 3 1, 3) := by decide +kernel
theorem dX0_passAlone_21 : decode cX0_passAlone 21 = .ok (.goto (-17), 3) := by decide +kernel
theorem dX0_passAlone_24 : decode cX0_passAlone 24 = .ok (.iload_n 2, 1) := by decide +kernel
theorem dX0_passAlone_25 : decode cX0_passAlone 25 = .ok (.ireturn, 1) := by decide +kernel
theorem dX0_passWithTallest_0 : decode cX0_passWithTallest 0 = .ok (.iconst 0, 1) := by decide +kernel
theorem dX0_passWithTallest_1 : decode cX0_passWithTallest 1 = .ok (.istore_n 2, 1) := by decide +kernel
theorem dX0_passWithTallest_2 : decode cX0_passWithTallest 2 = .ok (.iconst 0, 1) := by decide +kernel
theorem dX0_passWithTallest_3 : decode cX0_passWithTallest 3 = .ok (.istore_n 3, 1) := by decide +kernel
theorem dX0_passWithTallest_4 : decode cX0_passWithTallest 4 = .ok (.iload_n 3, 1) := by decide +kernel
theorem dX0_passWithTallest_5 : decode cX0_passWithTallest 5 = .ok (.iload_n 1, 1) := by decide +kernel
theorem dX0_passWithTallest_6 : decode cX0_passWithTallest 6 = .ok (.if_icmp .ge 20, 3) := by decide +kernel
theorem dX0_passWithTallest_9 : decode cX0_passWithTallest 9 = .ok (.iload_n 2, 1) := by decide +kernel
theorem dX0_passWithTallest_10 : decode cX0_passWithTallest 10 = .ok (.aload_n 0, 1) := by decide +kernel
theorem dX0_passWithTallest_11 : decode cX0_passWithTallest 11 = .ok (.aload_n 0, 1) := by decide +kernel
theorem dX0_passWithTallest_12 : decode cX0_passWithTallest 12 = .ok (.invokevirtual 85, 3) := by decide +kernel
theorem dX0_passWithTallest_15 : decode cX0_passWithTallest 15 = .ok (.invokevirtual 81, 3) := by decide +kernel
theorem dX0_passWithTallest_18 : decode cX0_passWithTallest 18 = .ok (.iadd, 1) := by decide +kernel
theorem dX0_passWithTallest_19 : decode cX0_passWithTallest 19 = .ok (.istore_n 2, 1) := by decide +kernel
theorem dX0_passWithTallest_20 : decode cX0_passWithTallest 20 = .ok (.iinc 3 1, 3) := by decide +kernel
theorem dX0_passWithTallest_23 : decode cX0_passWithTallest 23 = .ok (.goto (-19), 3) := by decide +kernel
theorem dX0_passWithTallest_26 : decode cX0_passWithTallest 26 = .ok (.iload_n 2, 1) := by decide +kernel
theorem dX0_passWithTallest_27 : decode cX0_passWithTallest 27 = .ok (.ireturn, 1) := by decide +kernel
theorem dX0_settle_0 : decode cX0_settle 0 = .ok (.aload_n 0, 1) := by decide +kernel
theorem dX0_settle_1 : decode cX0_settle 1 = .ok (.iconst 0, 1) := by decide +kernel
theorem dX0_settle_2 : decode cX0_settle 2 = .ok (.putfield 37, 3) := by decide +kernel
theorem dX0_settle_5 : decode cX0_settle 5 = .ok (.iconst 0, 1) := by decide +kernel
theorem dX0_settle_6 : decode cX0_settle 6 = .ok (.istore_n 1, 1) := by decide +kernel
theorem dX0_settle_7 : decode cX0_settle 7 = .ok (.iconst 0, 1) := by decide +kernel
theorem dX0_settle_8 : decode cX0_settle 8 = .ok (.istore_n 2, 1) := by decide +kernel
theorem dX0_settle_9 : decode cX0_settle 9 = .ok (.iload_n 2, 1) := by decide +kernel
theorem dX0_settle_10 : decode cX0_settle 10 = .ok (.aload_n 0, 1) := by decide +kernel
theorem dX0_settle_11 : decode cX0_settle 11 = .ok (.getfield 15, 3) := by decide +kernel
theorem dX0_settle_14 : decode cX0_settle 14 = .ok (.if_icmp .ge 64, 3) := by decide +kernel
theorem dX0_settle_17 : decode cX0_settle 17 = .ok (.aload_n 0, 1) := by decide +kernel
theorem dX0_settle_18 : decode cX0_settle 18 = .ok (.invokevirtual 88, 3) := by decide +kernel
theorem dX0_settle_21 : decode cX0_settle 21 = .ok (.istore_n 3, 1) := by decide +kernel
theorem dX0_settle_22 : decode cX0_settle 22 = .ok (.iload_n 3, 1) := by decide +kernel
theorem dX0_settle_23 : decode cX0_settle 23 = .ok (.iconst (-1), 1) := by decide +kernel
theorem dX0_settle_24 : decode cX0_settle 24 = .ok (.if_icmp .ne 6, 3) := by decide +kernel
theorem dX0_settle_27 : decode cX0_settle 27 = .ok (.goto 51, 3) := by decide +kernel
theorem dX0_settle_30 : decode cX0_settle 30 = .ok (.aload_n 0, 1) := by decide +kernel
theorem dX0_settle_31 : decode cX0_settle 31 = .ok (.getfield 25, 3) := by decide +kernel
theorem dX0_settle_34 : decode cX0_settle 34 = .ok (.iload_n 3, 1) := by decide +kernel
theorem dX0_settle_35 : decode cX0_settle 35 = .ok (.iconst 0, 1) := by decide +kernel
theorem dX0_settle_36 : decode cX0_settle 36 = .ok (.iastore, 1) := by decide +kernel
theorem dX0_settle_37 : decode cX0_settle 37 = .ok (.aload_n 0, 1) := by decide +kernel
theorem dX0_settle_38 : decode cX0_settle 38 = .ok (.dup, 1) := by decide +kernel
theorem dX0_settle_39 : decode cX0_settle 39 = .ok (.getfield 37, 3) := by decide +kernel
theorem dX0_settle_42 : decode cX0_settle 42 = .ok (.iconst 1, 1) := by decide +kernel
theorem dX0_settle_43 : decode cX0_settle 43 = .ok (.iload_n 3, 1) := by decide +kernel
theorem dX0_settle_44 : decode cX0_settle 44 = .ok (.ishl, 1) := by decide +kernel
theorem dX0_settle_45 : decode cX0_settle 45 = .ok (.ior, 1) := by decide +kernel
theorem dX0_settle_46 : decode cX0_settle 46 = .ok (.putfield 37, 3) := by decide +kernel
theorem dX0_settle_49 : decode cX0_settle 49 = .ok (.iload_n 1, 1) := by decide +kernel
theorem dX0_settle_50 : decode cX0_settle 50 = .ok (.aload_n 0, 1) := by decide +kernel
theorem dX0_settle_51 : decode cX0_settle 51 = .ok (.aload_n 0, 1) := by decide +kernel
theorem dX0_settle_52 : decode cX0_settle 52 = .ok (.getfield 22, 3) := by decide +kernel
theorem dX0_settle_55 : decode cX0_settle 55 = .ok (.iload_n 3, 1) := by decide +kernel
theorem dX0_settle_56 : decode cX0_settle 56 = .ok (.iaload, 1) := by decide +kernel
theorem dX0_settle_57 : decode cX0_settle 57 = .ok (.invokevirtual 91, 3) := by decide +kernel
theorem dX0_settle_60 : decode cX0_settle 60 = .ok (.iadd, 1) := by decide +kernel
theorem dX0_settle_61 : decode cX0_settle 61 = .ok (.istore_n 1, 1) := by decide +kernel
theorem dX0_settle_62 : decode cX0_settle 62 = .ok (.aload_n 0, 1) := by decide +kernel
theorem dX0_settle_63 : decode cX0_settle 63 = .ok (.aload_n 0, 1) := by decide +kernel
theorem dX0_settle_64 : decode cX0_settle 64 = .ok (.getfield 22, 3) := by decide +kernel
theorem dX0_settle_67 : decode cX0_settle 67 = .ok (.iload_n 3, 1) := by decide +kernel
theorem dX0_settle_68 : decode cX0_settle 68 = .ok (.iaload, 1) := by decide +kernel
theorem dX0_settle_69 : decode cX0_settle 69 = .ok (.invokevirtual 94, 3) := by decide +kernel
theorem dX0_settle_72 : decode cX0_settle 72 = .ok (.iinc 2 1, 3) := by decide +kernel
theorem dX0_settle_75 : decode cX0_settle 75 = .ok (.goto (-66), 3) := by decide +kernel
theorem dX0_settle_78 : decode cX0_settle 78 = .ok (.aload_n 0, 1) := by decide +kernel
theorem dX0_settle_79 : decode cX0_settle 79 = .ok (.dup, 1) := by decide +kernel
theorem dX0_settle_80 : decode cX0_settle 80 = .ok (.getfield 31, 3) := by decide +kernel
theorem dX0_settle_83 : decode cX0_settle 83 = .ok (.iload_n 1, 1) := by decide +kernel
theorem dX0_settle_84 : decode cX0_settle 84 = .ok (.iadd, 1) := by decide +kernel
theorem dX0_settle_85 : decode cX0_settle 85 = .ok (.putfield 31, 3) := by decide +kernel
theorem dX0_settle_88 : decode cX0_settle 88 = .ok (.iload_n 1, 1) := by decide +kernel
theorem dX0_settle_89 : decode cX0_settle 89 = .ok (.ireturn, 1) := by decide +kernel
theorem dX0_firstOver_0 : decode cX0_firstOver 0 = .ok (.iconst 0, 1) := by decide +kernel
theorem dX0_firstOver_1 : decode cX0_firstOver 1 = .ok (.istore_n 1, 1) := by decide +kernel
theorem dX0_firstOver_2 : decode cX0_firstOver 2 = .ok (.iload_n 1, 1) := by decide +kernel
theorem dX0_firstOver_3 : decode cX0_firstOver 3 = .ok (.aload_n 0, 1) := by decide +kernel
theorem dX0_firstOver_4 : decode cX0_firstOver 4 = .ok (.getfield 15, 3) := by decide +kernel
theorem dX0_firstOver_7 : decode cX0_firstOver 7 = .ok (.if_icmp .ge 22, 3) := by decide +kernel
theorem dX0_firstOver_10 : decode cX0_firstOver 10 = .ok (.aload_n 0, 1) := by decide +kernel
theorem dX0_firstOver_11 : decode cX0_firstOver 11 = .ok (.getfield 25, 3) := by decide +kernel
theorem dX0_firstOver_14 : decode cX0_firstOver 14 = .ok (.iload_n 1, 1) := by decide +kernel
theorem dX0_firstOver_15 : decode cX0_firstOver 15 = .ok (.iaload, 1) := by decide +kernel
theorem dX0_firstOver_16 : decode cX0_firstOver 16 = .ok (.bipush 59, 2) := by decide +kernel
theorem dX0_firstOver_18 : decode cX0_firstOver 18 = .ok (.if_icmp .le 5, 3) := by decide +kernel
theorem dX0_firstOver_21 : decode cX0_firstOver 21 = .ok (.iload_n 1, 1) := by decide +kernel
theorem dX0_firstOver_22 : decode cX0_firstOver 22 = .ok (.ireturn, 1) := by decide +kernel
theorem dX0_firstOver_23 : decode cX0_firstOver 23 = .ok (.iinc 1 1, 3) := by decide +kernel
theorem dX0_firstOver_26 : decode cX0_firstOver 26 = .ok (.goto (-24), 3) := by decide +kernel
theorem dX0_firstOver_29 : decode cX0_firstOver 29 = .ok (.iconst (-1), 1) := by decide +kernel
theorem dX0_firstOver_30 : decode cX0_firstOver 30 = .ok (.ireturn, 1) := by decide +kernel
theorem dX0_loseAround_0 : decode cX0_loseAround 0 = .ok (.iconst 0, 1) := by decide +kernel
theorem dX0_loseAround_1 : decode cX0_loseAround 1 = .ok (.istore_n 2, 1) := by decide +kernel
theorem dX0_loseAround_2 : decode cX0_loseAround 2 = .ok (.bipush 19, 2) := by decide +kernel
theorem dX0_loseAround_4 : decode cX0_loseAround 4 = .ok (.iload_n 1, 1) := by decide +kernel
theorem dX0_loseAround_5 : decode cX0_loseAround 5 = .ok (.iconst 2, 1) := by decide +kernel
theorem dX0_loseAround_6 : decode cX0_loseAround 6 = .ok (.iadd, 1) := by decide +kernel
theorem dX0_loseAround_7 : decode cX0_loseAround 7 = .ok (.invokestatic 98, 3) := by decide +kernel
theorem dX0_loseAround_10 : decode cX0_loseAround 10 = .ok (.istore_n 3, 1) := by decide +kernel
theorem dX0_loseAround_11 : decode cX0_loseAround 11 = .ok (.iconst 0, 1) := by decide +kernel
theorem dX0_loseAround_12 : decode cX0_loseAround 12 = .ok (.iload_n 1, 1) := by decide +kernel
theorem dX0_loseAround_13 : decode cX0_loseAround 13 = .ok (.iconst 2, 1) := by decide +kernel
theorem dX0_loseAround_14 : decode cX0_loseAround 14 = .ok (.isub, 1) := by decide +kernel
theorem dX0_loseAround_15 : decode cX0_loseAround 15 = .ok (.invokestatic 68, 3) := by decide +kernel
theorem dX0_loseAround_18 : decode cX0_loseAround 18 = .ok (.istore 4, 2) := by decide +kernel
theorem dX0_loseAround_20 : decode cX0_loseAround 20 = .ok (.iload 4, 2) := by decide +kernel
theorem dX0_loseAround_22 : decode cX0_loseAround 22 = .ok (.iload_n 3, 1) := by decide +kernel
theorem dX0_loseAround_23 : decode cX0_loseAround 23 = .ok (.if_icmp .gt 27, 3) := by decide +kernel
theorem dX0_loseAround_26 : decode cX0_loseAround 26 = .ok (.iload_n 2, 1) := by decide +kernel
theorem dX0_loseAround_27 : decode cX0_loseAround 27 = .ok (.aload_n 0, 1) := by decide +kernel
theorem dX0_loseAround_28 : decode cX0_loseAround 28 = .ok (.getfield 28, 3) := by decide +kernel
theorem dX0_loseAround_31 : decode cX0_loseAround 31 = .ok (.iload 4, 2) := by decide +kernel
theorem dX0_loseAround_33 : decode cX0_loseAround 33 = .ok (.iaload, 1) := by decide +kernel
theorem dX0_loseAround_34 : decode cX0_loseAround 34 = .ok (.iadd, 1) := by decide +kernel
theorem dX0_loseAround_35 : decode cX0_loseAround 35 = .ok (.istore_n 2, 1) := by decide +kernel
theorem dX0_loseAround_36 : decode cX0_loseAround 36 = .ok (.aload_n 0, 1) := by decide +kernel
theorem dX0_loseAround_37 : decode cX0_loseAround 37 = .ok (.getfield 28, 3) := by decide +kernel
theorem dX0_loseAround_40 : decode cX0_loseAround 40 = .ok (.iload 4, 2) := by decide +kernel
theorem dX0_loseAround_42 : decode cX0_loseAround 42 = .ok (.iconst 0, 1) := by decide +kernel
theorem dX0_loseAround_43 : decode cX0_loseAround 43 = .ok (.iastore, 1) := by decide +kernel
theorem dX0_loseAround_44 : decode cX0_loseAround 44 = .ok (.iinc 4 1, 3) := by decide +kernel
theorem dX0_loseAround_47 : decode cX0_loseAround 47 = .ok (.goto (-27), 3) := by decide +kernel
theorem dX0_loseAround_50 : decode cX0_loseAround 50 = .ok (.iload_n 2, 1) := by decide +kernel
theorem dX0_loseAround_51 : decode cX0_loseAround 51 = .ok (.ireturn, 1) := by decide +kernel
theorem dX0_spreadAround_0 : decode cX0_spreadAround 0 = .ok (.iconst 0, 1) := by decide +kernel
theorem dX0_spreadAround_1 : decode cX0_spreadAround 1 = .ok (.istore_n 2, 1) := by decide +kernel
theorem dX0_spreadAround_2 : decode cX0_spreadAround 2 = .ok (.iload_n 2, 1) := by decide +kernel
theorem dX0_spreadAround_3 : decode cX0_spreadAround 3 = .ok (.aload_n 0, 1) := by decide +kernel
theorem dX0_spreadAround_4 : decode cX0_spreadAround 4 = .ok (.getfield 15, 3) := by decide +kernel
theorem dX0_spreadAround_7 : decode cX0_spreadAround 7 = .ok (.if_icmp .ge 46, 3) := by decide +kernel
theorem dX0_spreadAround_10 : decode cX0_spreadAround 10 = .ok (.aload_n 0, 1) := by decide +kernel
theorem dX0_spreadAround_11 : decode cX0_spreadAround 11 = .ok (.getfield 37, 3) := by decide +kernel
theorem dX0_spreadAround_14 : decode cX0_spreadAround 14 = .ok (.iload_n 2, 1) := by decide +kernel
theorem dX0_spreadAround_15 : decode cX0_spreadAround 15 = .ok (.invokestatic 101, 3) := by decide +kernel
theorem dX0_spreadAround_18 : decode cX0_spreadAround 18 = .ok (.ifCond .ne 29, 3) := by decide +kernel
theorem dX0_spreadAround_21 : decode cX0_spreadAround 21 = .ok (.aload_n 0, 1) := by decide +kernel
theorem dX0_spreadAround_22 : decode cX0_spreadAround 22 = .ok (.getfield 22, 3) := by decide +kernel
theorem dX0_spreadAround_25 : decode cX0_spreadAround 25 = .ok (.iload_n 2, 1) := by decide +kernel
theorem dX0_spreadAround_26 : decode cX0_spreadAround 26 = .ok (.iaload, 1) := by decide +kernel
theorem dX0_spreadAround_27 : decode cX0_spreadAround 27 = .ok (.iload_n 1, 1) := by decide +kernel
theorem dX0_spreadAround_28 : decode cX0_spreadAround 28 = .ok (.isub, 1) := by decide +kernel
theorem dX0_spreadAround_29 : decode cX0_spreadAround 29 = .ok (.invokestatic 105, 3) := by decide +kernel
theorem dX0_spreadAround_32 : decode cX0_spreadAround 32 = .ok (.iconst 3, 1) := by decide +kernel
theorem dX0_spreadAround_33 : decode cX0_spreadAround 33 = .ok (.if_icmp .gt 14, 3) := by decide +kernel
theorem dX0_spreadAround_36 : decode cX0_spreadAround 36 = .ok (.aload_n 0, 1) := by decide +kernel
theorem dX0_spreadAround_37 : decode cX0_spreadAround 37 = .ok (.getfield 25, 3) := by decide +kernel
theorem dX0_spreadAround_40 : decode cX0_spreadAround 40 = .ok (.iload_n 2, 1) := by decide +kernel
theorem dX0_spreadAround_41 : decode cX0_spreadAround 41 = .ok (.dup2, 1) := by decide +kernel
theorem dX0_spreadAround_42 : decode cX0_spreadAround 42 = .ok (.iaload, 1) := by decide +kernel
theorem dX0_spreadAround_43 : decode cX0_spreadAround 43 = .ok (.bipush 15, 2) := by decide +kernel
theorem dX0_spreadAround_45 : decode cX0_spreadAround 45 = .ok (.iadd, 1) := by decide +kernel
theorem dX0_spreadAround_46 : decode cX0_spreadAround 46 = .ok (.iastore, 1) := by decide +kernel
theorem dX0_spreadAround_47 : decode cX0_spreadAround 47 = .ok (.iinc 2 1, 3) := by decide +kernel
theorem dX0_spreadAround_50 : decode cX0_spreadAround 50 = .ok (.goto (-48), 3) := by decide +kernel
theorem dX0_spreadAround_53 : decode cX0_spreadAround 53 = .ok (.return_, 1) := by decide +kernel
theorem dX1_init_0 : decode cX1_init 0 = .ok (.aload_n 0, 1) := by decide +kernel
theorem dX1_init_1 : decode cX1_init 1 = .ok (.invokespecial 3, 3) := by decide +kernel
theorem dX1_init_4 : decode cX1_init 4 = .ok (.aload_n 0, 1) := by decide +kernel
theorem dX1_init_5 : decode cX1_init 5 = .ok (.iconst 5, 1) := by decide +kernel
theorem dX1_init_6 : decode cX1_init 6 = .ok (.anewarray 9, 3) := by decide +kernel
theorem dX1_init_9 : decode cX1_init 9 = .ok (.putfield 11, 3) := by decide +kernel
theorem dX1_init_12 : decode cX1_init 12 = .ok (.aload_n 0, 1) := by decide +kernel
theorem dX1_init_13 : decode cX1_init 13 = .ok (.iconst 4, 1) := by decide +kernel
theorem dX1_init_14 : decode cX1_init 14 = .ok (.newarray .int, 2) := by decide +kernel
theorem dX1_init_16 : decode cX1_init 16 = .ok (.putfield 17, 3) := by decide +kernel
theorem dX1_init_19 : decode cX1_init 19 = .ok (.aload_n 0, 1) := by decide +kernel
theorem dX1_init_20 : decode cX1_init 20 = .ok (.iconst 4, 1) := by decide +kernel
theorem dX1_init_21 : decode cX1_init 21 = .ok (.newarray .int, 2) := by decide +kernel
theorem dX1_init_23 : decode cX1_init 23 = .ok (.putfield 21, 3) := by decide +kernel
theorem dX1_init_26 : decode cX1_init 26 = .ok (.aload_n 0, 1) := by decide +kernel
theorem dX1_init_27 : decode cX1_init 27 = .ok (.iconst 0, 1) := by decide +kernel
theorem dX1_init_28 : decode cX1_init 28 = .ok (.putfield 24, 3) := by decide +kernel
theorem dX1_init_31 : decode cX1_init 31 = .ok (.aload_n 0, 1) := by decide +kernel
theorem dX1_init_32 : decode cX1_init 32 = .ok (.iconst 0, 1) := by decide +kernel
theorem dX1_init_33 : decode cX1_init 33 = .ok (.putfield 28, 3) := by decide +kernel
theorem dX1_init_36 : decode cX1_init 36 = .ok (.aload_n 0, 1) := by decide +kernel
theorem dX1_init_37 : decode cX1_init 37 = .ok (.iconst 0, 1) := by decide +kernel
theorem dX1_init_38 : decode cX1_init 38 = .ok (.putfield 31, 3) := by decide +kernel
theorem dX1_init_41 : decode cX1_init 41 = .ok (.iconst 0, 1) := by decide +kernel
theorem dX1_init_42 : decode cX1_init 42 = .ok (.istore_n 1, 1) := by decide +kernel
theorem dX1_init_43 : decode cX1_init 43 = .ok (.iload_n 1, 1) := by decide +kernel
theorem dX1_init_44 : decode cX1_init 44 = .ok (.iconst 4, 1) := by decide +kernel
theorem dX1_init_45 : decode cX1_init 45 = .ok (.if_icmp .gt 22, 3) := by decide +kernel
theorem dX1_init_48 : decode cX1_init 48 = .ok (.aload_n 0, 1) := by decide +kernel
theorem dX1_init_49 : decode cX1_init 49 = .ok (.getfield 11, 3) := by decide +kernel
theorem dX1_init_52 : decode cX1_init 52 = .ok (.iload_n 1, 1) := by decide +kernel
theorem dX1_init_53 : decode cX1_init 53 = .ok (.new 9, 3) := by decide +kernel
theorem dX1_init_56 : decode cX1_init 56 = .ok (.dup, 1) := by decide +kernel
theorem dX1_init_57 : decode cX1_init 57 = .ok (.invokespecial 34, 3) := by decide +kernel
theorem dX1_init_60 : decode cX1_init 60 = .ok (.aastore, 1) := by decide +kernel
theorem dX1_init_61 : decode cX1_init 61 = .ok (.iinc 1 1, 3) := by decide +kernel
theorem dX1_init_64 : decode cX1_init 64 = .ok (.goto (-21), 3) := by decide +kernel
theorem dX1_init_67 : decode cX1_init 67 = .ok (.return_, 1) := by decide +kernel
theorem dX1_startFrom_0 : decode cX1_startFrom 0 = .ok (.aload_n 0, 1) := by decide +kernel
theorem dX1_startFrom_1 : decode cX1_startFrom 1 = .ok (.getfield 11, 3) := by decide +kernel
theorem dX1_startFrom_4 : decode cX1_startFrom 4 = .ok (.iconst 0, 1) := by decide +kernel
theorem dX1_startFrom_5 : decode cX1_startFrom 5 = .ok (.aaload, 1) := by decide +kernel
theorem dX1_startFrom_6 : decode cX1_startFrom 6 = .ok (.aload_n 1, 1) := by decide +kernel
theorem dX1_startFrom_7 : decode cX1_startFrom 7 = .ok (.invokevirtual 35, 3) := by decide +kernel
theorem dX1_startFrom_10 : decode cX1_startFrom 10 = .ok (.aload_n 0, 1) := by decide +kernel
theorem dX1_startFrom_11 : decode cX1_startFrom 11 = .ok (.getfield 11, 3) := by decide +kernel
theorem dX1_startFrom_14 : decode cX1_startFrom 14 = .ok (.iconst 0, 1) := by decide +kernel
theorem dX1_startFrom_15 : decode cX1_startFrom 15 = .ok (.aaload, 1) := by decide +kernel
theorem dX1_startFrom_16 : decode cX1_startFrom 16 = .ok (.areturn, 1) := by decide +kernel
theorem dX1_startAllFrom_0 : decode cX1_startAllFrom 0 = .ok (.iconst 0, 1) := by decide +kernel
theorem dX1_startAllFrom_1 : decode cX1_startAllFrom 1 = .ok (.istore_n 3, 1) := by decide +kernel
theorem dX1_startAllFrom_2 : decode cX1_startAllFrom 2 = .ok (.iload_n 3, 1) := by decide +kernel
theorem dX1_startAllFrom_3 : decode cX1_startAllFrom 3 = .ok (.iconst 4, 1) := by decide +kernel
theorem dX1_startAllFrom_4 : decode cX1_startAllFrom 4 = .ok (.if_icmp .gt 19, 3) := by decide +kernel
theorem dX1_startAllFrom_7 : decode cX1_startAllFrom 7 = .ok (.aload_n 0, 1) := by decide +kernel
theorem dX1_startAllFrom_8 : decode cX1_startAllFrom 8 = .ok (.getfield 11, 3) := by decide +kernel
theorem dX1_startAllFrom_11 : decode cX1_startAllFrom 11 = .ok (.iload_n 3, 1) := by decide +kernel
theorem dX1_startAllFrom_12 : decode cX1_startAllFrom 12 = .ok (.aaload, 1) := by decide +kernel
theorem dX1_startAllFrom_13 : decode cX1_startAllFrom 13 = .ok (.aload_n 1, 1) := by decide +kernel
theorem dX1_startAllFrom_14 : decode cX1_startAllFrom 14 = .ok (.invokevirtual 35, 3) := by decide +kernel
theorem dX1_startAllFrom_17 : decode cX1_startAllFrom 17 = .ok (.iinc 3 1, 3) := by decide +kernel
theorem dX1_startAllFrom_20 : decode cX1_startAllFrom 20 = .ok (.goto (-18), 3) := by decide +kernel
theorem dX1_startAllFrom_23 : decode cX1_startAllFrom 23 = .ok (.aload_n 0, 1) := by decide +kernel
theorem dX1_startAllFrom_24 : decode cX1_startAllFrom 24 = .ok (.iload_n 2, 1) := by decide +kernel
theorem dX1_startAllFrom_25 : decode cX1_startAllFrom 25 = .ok (.iconst 4, 1) := by decide +kernel
theorem dX1_startAllFrom_26 : decode cX1_startAllFrom 26 = .ok (.invokestatic 39, 3) := by decide +kernel
theorem dX1_startAllFrom_29 : decode cX1_startAllFrom 29 = .ok (.putfield 31, 3) := by decide +kernel
theorem dX1_startAllFrom_32 : decode cX1_startAllFrom 32 = .ok (.return_, 1) := by decide +kernel
theorem dX1_findPlan_0 : decode cX1_findPlan 0 = .ok (.aload_n 0, 1) := by decide +kernel
theorem dX1_findPlan_1 : decode cX1_findPlan 1 = .ok (.aload_n 1, 1) := by decide +kernel
theorem dX1_findPlan_2 : decode cX1_findPlan 2 = .ok (.iload_n 2, 1) := by decide +kernel
theorem dX1_findPlan_3 : decode cX1_findPlan 3 = .ok (.invokevirtual 45, 3) := by decide +kernel
theorem dX1_findPlan_6 : decode cX1_findPlan 6 = .ok (.aload_n 0, 1) := by decide +kernel
theorem dX1_findPlan_7 : decode cX1_findPlan 7 = .ok (.ldc 49, 2) := by decide +kernel
theorem dX1_findPlan_9 : decode cX1_findPlan 9 = .ok (.putfield 24, 3) := by decide +kernel
theorem dX1_findPlan_12 : decode cX1_findPlan 12 = .ok (.aload_n 0, 1) := by decide +kernel
theorem dX1_findPlan_13 : decode cX1_findPlan 13 = .ok (.iconst 0, 1) := by decide +kernel
theorem dX1_findPlan_14 : decode cX1_findPlan 14 = .ok (.iconst 0, 1) := by decide +kernel
theorem dX1_findPlan_15 : decode cX1_findPlan 15 = .ok (.invokevirtual 50, 3) := by decide +kernel
theorem dX1_findPlan_18 : decode cX1_findPlan 18 = .ok (.return_, 1) := by decide +kernel
theorem dX1_tryRows_0 : decode cX1_tryRows 0 = .ok (.iload_n 2, 1) := by decide +kernel
theorem dX1_tryRows_1 : decode cX1_tryRows 1 = .ok (.aload_n 0, 1) := by decide +kernel
theorem dX1_tryRows_2 : decode cX1_tryRows 2 = .ok (.getfield 24, 3) := by decide +kernel
theorem dX1_tryRows_5 : decode cX1_tryRows 5 = .ok (.if_icmp .le 4, 3) := by decide +kernel
theorem dX1_tryRows_8 : decode cX1_tryRows 8 = .ok (.return_, 1) := by decide +kernel
theorem dX1_tryRows_9 : decode cX1_tryRows 9 = .ok (.iload_n 1, 1) := by decide +kernel
theorem dX1_tryRows_10 : decode cX1_tryRows 10 = .ok (.aload_n 0, 1) := by decide +kernel
theorem dX1_tryRows_11 : decode cX1_tryRows 11 = .ok (.getfield 31, 3) := by decide +kernel
theorem dX1_tryRows_14 : decode cX1_tryRows 14 = .ok (.if_icmp .lt 21, 3) := by decide +kernel
theorem dX1_tryRows_17 : decode cX1_tryRows 17 = .ok (.aload_n 0, 1) := by decide +kernel
theorem dX1_tryRows_18 : decode cX1_tryRows 18 = .ok (.iload_n 2, 1) := by decide +kernel
theorem dX1_tryRows_19 : decode cX1_tryRows 19 = .ok (.aload_n 0, 1) := by decide +kernel
theorem dX1_tryRows_20 : decode cX1_tryRows 20 = .ok (.getfield 11, 3) := by decide +kernel
theorem dX1_tryRows_23 : decode cX1_tryRows 23 = .ok (.aload_n 0, 1) := by decide +kernel
theorem dX1_tryRows_24 : decode cX1_tryRows 24 = .ok (.getfield 31, 3) := by decide +kernel
theorem dX1_tryRows_27 : decode cX1_tryRows 27 = .ok (.aaload, 1) := by decide +kernel
theorem dX1_tryRows_28 : decode cX1_tryRows 28 = .ok (.invokevirtual 54, 3) := by decide +kernel
theorem dX1_tryRows_31 : decode cX1_tryRows 31 = .ok (.invokevirtual 58, 3) := by decide +kernel
theorem dX1_tryRows_34 : decode cX1_tryRows 34 = .ok (.return_, 1) := by decide +kernel
theorem dX1_tryRows_35 : decode cX1_tryRows 35 = .ok (.aload_n 0, 1) := by decide +kernel
theorem dX1_tryRows_36 : decode cX1_tryRows 36 = .ok (.getfield 11, 3) := by decide +kernel
theorem dX1_tryRows_39 : decode cX1_tryRows 39 = .ok (.iload_n 1, 1) := by decide +kernel
theorem dX1_tryRows_40 : decode cX1_tryRows 40 = .ok (.aaload, 1) := by decide +kernel
theorem dX1_tryRows_41 : decode cX1_tryRows 41 = .ok (.astore_n 3, 1) := by decide +kernel
theorem dX1_tryRows_42 : decode cX1_tryRows 42 = .ok (.aload_n 0, 1) := by decide +kernel
theorem dX1_tryRows_43 : decode cX1_tryRows 43 = .ok (.getfield 11, 3) := by decide +kernel
theorem dX1_tryRows_46 : decode cX1_tryRows 46 = .ok (.iload_n 1, 1) := by decide +kernel
theorem dX1_tryRows_47 : decode cX1_tryRows 47 = .ok (.iconst 1, 1) := by decide +kernel
theorem dX1_tryRows_48 : decode cX1_tryRows 48 = .ok (.iadd, 1) := by decide +kernel
theorem dX1_tryRows_49 : decode cX1_tryRows 49 = .ok (.aaload, 1) := by decide +kernel
theorem dX1_tryRows_50 : decode cX1_tryRows 50 = .ok (.astore 4, 2) := by decide +kernel
theorem dX1_tryRows_52 : decode cX1_tryRows 52 = .ok (.iconst 0, 1) := by decide +kernel
theorem dX1_tryRows_53 : decode cX1_tryRows 53 = .ok (.istore 5, 2) := by decide +kernel
theorem dX1_tryRows_55 : decode cX1_tryRows 55 = .ok (.iload 5, 2) := by decide +kernel
theorem dX1_tryRows_57 : decode cX1_tryRows 57 = .ok (.bipush 7, 2) := by decide +kernel
theorem dX1_tryRows_59 : decode cX1_tryRows 59 = .ok (.if_icmp .gt 48, 3) := by decide +kernel
theorem dX1_tryRows_62 : decode cX1_tryRows 62 = .ok (.aload_n 3, 1) := by decide +kernel
theorem dX1_tryRows_63 : decode cX1_tryRows 63 = .ok (.iload 5, 2) := by decide +kernel
theorem dX1_tryRows_65 : decode cX1_tryRows 65 = .ok (.invokevirtual 61, 3) := by decide +kernel
theorem dX1_tryRows_68 : decode cX1_tryRows 68 = .ok (.ifCond .eq 33, 3) := by decide +kernel
theorem dX1_tryRows_71 : decode cX1_tryRows 71 = .ok (.aload 4, 2) := by decide +kernel
theorem dX1_tryRows_73 : decode cX1_tryRows 73 = .ok (.aload_n 3, 1) := by decide +kernel
theorem dX1_tryRows_74 : decode cX1_tryRows 74 = .ok (.invokevirtual 65, 3) := by decide +kernel
theorem dX1_tryRows_77 : decode cX1_tryRows 77 = .ok (.aload_n 0, 1) := by decide +kernel
theorem dX1_tryRows_78 : decode cX1_tryRows 78 = .ok (.getfield 17, 3) := by decide +kernel
theorem dX1_tryRows_81 : decode cX1_tryRows 81 = .ok (.iload_n 1, 1) := by decide +kernel
theorem dX1_tryRows_82 : decode cX1_tryRows 82 = .ok (.iload 5, 2) := by decide +kernel
theorem dX1_tryRows_84 : decode cX1_tryRows 84 = .ok (.iastore, 1) := by decide +kernel
theorem dX1_tryRows_85 : decode cX1_tryRows 85 = .ok (.aload_n 0, 1) := by decide +kernel
theorem dX1_tryRows_86 : decode cX1_tryRows 86 = .ok (.iload_n 1, 1) := by decide +kernel
theorem dX1_tryRows_87 : decode cX1_tryRows 87 = .ok (.iconst 1, 1) := by decide +kernel
theorem dX1_tryRows_88 : decode cX1_tryRows 88 = .ok (.iadd, 1) := by decide +kernel
theorem dX1_tryRows_89 : decode cX1_tryRows 89 = .ok (.iload_n 2, 1) := by decide +kernel
theorem dX1_tryRows_90 : decode cX1_tryRows 90 = .ok (.aload 4, 2) := by decide +kernel
theorem dX1_tryRows_92 : decode cX1_tryRows 92 = .ok (.iload 5, 2) := by decide +kernel
theorem dX1_tryRows_94 : decode cX1_tryRows 94 = .ok (.invokevirtual 68, 3) := by decide +kernel
theorem dX1_tryRows_97 : decode cX1_tryRows 97 = .ok (.iadd, 1) := by decide +kernel
theorem dX1_tryRows_98 : decode cX1_tryRows 98 = .ok (.invokevirtual 50, 3) := by decide +kernel
theorem dX1_tryRows_101 : decode cX1_tryRows 101 = .ok (.iinc 5 1, 3) := by decide +kernel
theorem dX1_tryRows_104 : decode cX1_tryRows 104 = .ok (.goto (-49), 3) := by decide +kernel
theorem dX1_tryRows_107 : decode cX1_tryRows 107 = .ok (.return_, 1) := by decide +kernel
theorem dX1_keepIfBetter_0 : decode cX1_keepIfBetter 0 = .ok (.iload_n 1, 1) := by decide +kernel
theorem dX1_keepIfBetter_1 : decode cX1_keepIfBetter 1 = .ok (.aload_n 0, 1) := by decide +kernel
theorem dX1_keepIfBetter_2 : decode cX1_keepIfBetter 2 = .ok (.getfield 24, 3) := by decide +kernel
theorem dX1_keepIfBetter_5 : decode cX1_keepIfBetter 5 = .ok (.if_icmp .lt 19, 3) := by decide +kernel
theorem dX1_keepIfBetter_8 : decode cX1_keepIfBetter 8 = .ok (.iload_n 1, 1) := by decide +kernel
theorem dX1_keepIfBetter_9 : decode cX1_keepIfBetter 9 = .ok (.aload_n 0, 1) := by decide +kernel
theorem dX1_keepIfBetter_10 : decode cX1_keepIfBetter 10 = .ok (.getfield 24, 3) := by decide +kernel
theorem dX1_keepIfBetter_13 : decode cX1_keepIfBetter 13 = .ok (.if_icmp .ne 35, 3) := by decide +kernel
theorem dX1_keepIfBetter_16 : decode cX1_keepIfBetter 16 = .ok (.iload_n 2, 1) := by decide +kernel
theorem dX1_keepIfBetter_17 : decode cX1_keepIfBetter 17 = .ok (.aload_n 0, 1) := by decide +kernel
theorem dX1_keepIfBetter_18 : decode cX1_keepIfBetter 18 = .ok (.getfield 28, 3) := by decide +kernel
theorem dX1_keepIfBetter_21 : decode cX1_keepIfBetter 21 = .ok (.if_icmp .ge 27, 3) := by decide +kernel
theorem dX1_keepIfBetter_24 : decode cX1_keepIfBetter 24 = .ok (.aload_n 0, 1) := by decide +kernel
theorem dX1_keepIfBetter_25 : decode cX1_keepIfBetter 25 = .ok (.iload_n 1, 1) := by decide +kernel
theorem dX1_keepIfBetter_26 : decode cX1_keepIfBetter 26 = .ok (.putfield 24, 3) := by decide +kernel
theorem dX1_keepIfBetter_29 : decode cX1_keepIfBetter 29 = .ok (.aload_n 0, 1) := by decide +kernel
theorem dX1_keepIfBetter_30 : decode cX1_keepIfBetter 30 = .ok (.iload_n 2, 1) := by decide +kernel
theorem dX1_keepIfBetter_31 : decode cX1_keepIfBetter 31 = .ok (.putfield 28, 3) := by decide +kernel
theorem dX1_keepIfBetter_34 : decode cX1_keepIfBetter 34 = .ok (.aload_n 0, 1) := by decide +kernel
theorem dX1_keepIfBetter_35 : decode cX1_keepIfBetter 35 = .ok (.getfield 17, 3) := by decide +kernel
theorem dX1_keepIfBetter_38 : decode cX1_keepIfBetter 38 = .ok (.iconst 0, 1) := by decide +kernel
theorem dX1_keepIfBetter_39 : decode cX1_keepIfBetter 39 = .ok (.aload_n 0, 1) := by decide +kernel
theorem dX1_keepIfBetter_40 : decode cX1_keepIfBetter 40 = .ok (.getfield 21, 3) := by decide +kernel
theorem dX1_keepIfBetter_43 : decode cX1_keepIfBetter 43 = .ok (.iconst 0, 1) := by decide +kernel
theorem dX1_keepIfBetter_44 : decode cX1_keepIfBetter 44 = .ok (.iconst 4, 1) := by decide +kernel
theorem dX1_keepIfBetter_45 : decode cX1_keepIfBetter 45 = .ok (.invokestatic 72, 3) := by decide +kernel
theorem dX1_keepIfBetter_48 : decode cX1_keepIfBetter 48 = .ok (.return_, 1) := by decide +kernel
theorem dX1_weighChance_0 : decode cX1_weighChance 0 = .ok (.aload_n 0, 1) := by decide +kernel
theorem dX1_weighChance_1 : decode cX1_weighChance 1 = .ok (.aload_n 1, 1) := by decide +kernel
theorem dX1_weighChance_2 : decode cX1_weighChance 2 = .ok (.iload_n 2, 1) := by decide +kernel
theorem dX1_weighChance_3 : decode cX1_weighChance 3 = .ok (.invokevirtual 45, 3) := by decide +kernel
theorem dX1_weighChance_6 : decode cX1_weighChance 6 = .ok (.aload_n 0, 1) := by decide +kernel
theorem dX1_weighChance_7 : decode cX1_weighChance 7 = .ok (.iconst 0, 1) := by decide +kernel
theorem dX1_weighChance_8 : decode cX1_weighChance 8 = .ok (.iload_n 3, 1) := by decide +kernel
theorem dX1_weighChance_9 : decode cX1_weighChance 9 = .ok (.iload 4, 2) := by decide +kernel
theorem dX1_weighChance_11 : decode cX1_weighChance 11 = .ok (.invokevirtual 78, 3) := by decide +kernel
theorem dX1_weighChance_14 : decode cX1_weighChance 14 = .ok (.lreturn, 1) := by decide +kernel
theorem dX1_weigh_0 : decode cX1_weigh 0 = .ok (.iload_n 1, 1) := by decide +kernel
theorem dX1_weigh_1 : decode cX1_weigh 1 = .ok (.aload_n 0, 1) := by decide +kernel
theorem dX1_weigh_2 : decode cX1_weigh 2 = .ok (.getfield 31, 3) := by decide +kernel
theorem dX1_weigh_5 : decode cX1_weigh 5 = .ok (.if_icmp .lt 13, 3) := by decide +kernel
theorem dX1_weigh_8 : decode cX1_weigh 8 = .ok (.iload_n 2, 1) := by decide +kernel
theorem dX1_weigh_9 : decode cX1_weigh 9 = .ok (.ifCond .gt 7, 3) := by decide +kernel
theorem dX1_weigh_12 : decode cX1_weigh 12 = .ok (.lconst 1, 1) := by decide +kernel
theorem dX1_weigh_13 : decode cX1_weigh 13 = .ok (.goto 4, 3) := by decide +kernel
theorem dX1_weigh_16 : decode cX1_weigh 16 = .ok (.lconst 0, 1) := by decide +kernel
theorem dX1_weigh_17 : decode cX1_weigh 17 = .ok (.lreturn, 1) := by decide +kernel
theorem dX1_weigh_18 : decode cX1_weigh 18 = .ok (.aload_n 0, 1) := by decide +kernel
theorem dX1_weigh_19 : decode cX1_weigh 19 = .ok (.getfield 11, 3) := by decide +kernel
theorem dX1_weigh_22 : decode cX1_weigh 22 = .ok (.iload_n 1, 1) := by decide +kernel
theorem dX1_weigh_23 : decode cX1_weigh 23 = .ok (.aaload, 1) := by decide +kernel
theorem dX1_weigh_24 : decode cX1_weigh 24 = .ok (.astore 4, 2) := by decide +kernel
theorem dX1_weigh_26 : decode cX1_weigh 26 = .ok (.aload_n 0, 1) := by decide +kernel
theorem dX1_weigh_27 : decode cX1_weigh 27 = .ok (.getfield 11, 3) := by decide +kernel
theorem dX1_weigh_30 : decode cX1_weigh 30 = .ok (.iload_n 1, 1) := by decide +kernel
theorem dX1_weigh_31 : decode cX1_weigh 31 = .ok (.iconst 1, 1) := by decide +kernel
theorem dX1_weigh_32 : decode cX1_weigh 32 = .ok (.iadd, 1) := by decide +kernel
theorem dX1_weigh_33 : decode cX1_weigh 33 = .ok (.aaload, 1) := by decide +kernel
theorem dX1_weigh_34 : decode cX1_weigh 34 = .ok (.astore 5, 2) := by decide +kernel
theorem dX1_weigh_36 : decode cX1_weigh 36 = .ok (.aload 5, 2) := by decide +kernel
theorem dX1_weigh_38 : decode cX1_weigh 38 = .ok (.aload 4, 2) := by decide +kernel
theorem dX1_weigh_40 : decode cX1_weigh 40 = .ok (.invokevirtual 65, 3) := by decide +kernel
theorem dX1_weigh_43 : decode cX1_weigh 43 = .ok (.aload 5, 2) := by decide +kernel
theorem dX1_weigh_45 : decode cX1_weigh 45 = .ok (.aload 4, 2) := by decide +kernel
theorem dX1_weigh_47 : decode cX1_weigh 47 = .ok (.invokevirtual 82, 3) := by decide +kernel
theorem dX1_weigh_50 : decode cX1_weigh 50 = .ok (.invokevirtual 68, 3) := by decide +kernel
theorem dX1_weigh_53 : decode cX1_weigh 53 = .ok (.istore 6, 2) := by decide +kernel
theorem dX1_weigh_55 : decode cX1_weigh 55 = .ok (.iload_n 3, 1) := by decide +kernel
theorem dX1_weigh_56 : decode cX1_weigh 56 = .ok (.i2l, 1) := by decide +kernel
theorem dX1_weigh_57 : decode cX1_weigh 57 = .ok (.aload_n 0, 1) := by decide +kernel
theorem dX1_weigh_58 : decode cX1_weigh 58 = .ok (.iload_n 1, 1) := by decide +kernel
theorem dX1_weigh_59 : decode cX1_weigh 59 = .ok (.iconst 1, 1) := by decide +kernel
theorem dX1_weigh_60 : decode cX1_weigh 60 = .ok (.iadd, 1) := by decide +kernel
theorem dX1_weigh_61 : decode cX1_weigh 61 = .ok (.iload_n 2, 1) := by decide +kernel
theorem dX1_weigh_62 : decode cX1_weigh 62 = .ok (.iload 6, 2) := by decide +kernel
theorem dX1_weigh_64 : decode cX1_weigh 64 = .ok (.isub, 1) := by decide +kernel
theorem dX1_weigh_65 : decode cX1_weigh 65 = .ok (.iload_n 3, 1) := by decide +kernel
theorem dX1_weigh_66 : decode cX1_weigh 66 = .ok (.invokevirtual 78, 3) := by decide +kernel
theorem dX1_weigh_69 : decode cX1_weigh 69 = .ok (.lmul, 1) := by decide +kernel
theorem dX1_weigh_70 : decode cX1_weigh 70 = .ok (.lstore 7, 2) := by decide +kernel
theorem dX1_weigh_72 : decode cX1_weigh 72 = .ok (.aload 5, 2) := by decide +kernel
theorem dX1_weigh_74 : decode cX1_weigh 74 = .ok (.aload 4, 2) := by decide +kernel
theorem dX1_weigh_76 : decode cX1_weigh 76 = .ok (.invokevirtual 65, 3) := by decide +kernel
theorem dX1_weigh_79 : decode cX1_weigh 79 = .ok (.aload 5, 2) := by decide +kernel
theorem dX1_weigh_81 : decode cX1_weigh 81 = .ok (.bipush 7, 2) := by decide +kernel
theorem dX1_weigh_83 : decode cX1_weigh 83 = .ok (.invokevirtual 68, 3) := by decide +kernel
theorem dX1_weigh_86 : decode cX1_weigh 86 = .ok (.istore 6, 2) := by decide +kernel
theorem dX1_weigh_88 : decode cX1_weigh 88 = .ok (.lload 7, 2) := by decide +kernel
theorem dX1_weigh_90 : decode cX1_weigh 90 = .ok (.bipush 10, 2) := by decide +kernel
theorem dX1_weigh_92 : decode cX1_weigh 92 = .ok (.iload_n 3, 1) := by decide +kernel
theorem dX1_weigh_93 : decode cX1_weigh 93 = .ok (.isub, 1) := by decide +kernel
theorem dX1_weigh_94 : decode cX1_weigh 94 = .ok (.i2l, 1) := by decide +kernel
theorem dX1_weigh_95 : decode cX1_weigh 95 = .ok (.aload_n 0, 1) := by decide +kernel
theorem dX1_weigh_96 : decode cX1_weigh 96 = .ok (.iload_n 1, 1) := by decide +kernel
theorem dX1_weigh_97 : decode cX1_weigh 97 = .ok (.iconst 1, 1) := by decide +kernel
theorem dX1_weigh_98 : decode cX1_weigh 98 = .ok (.iadd, 1) := by decide +kernel
theorem dX1_weigh_99 : decode cX1_weigh 99 = .ok (.iload_n 2, 1) := by decide +kernel
theorem dX1_weigh_100 : decode cX1_weigh 100 = .ok (.iload 6, 2) := by decide +kernel
theorem dX1_weigh_102 : decode cX1_weigh 102 = .ok (.isub, 1) := by decide +kernel
theorem dX1_weigh_103 : decode cX1_weigh 103 = .ok (.iload_n 3, 1) := by decide +kernel
theorem dX1_weigh_104 : decode cX1_weigh 104 = .ok (.invokevirtual 78, 3) := by decide +kernel
theorem dX1_weigh_107 : decode cX1_weigh 107 = .ok (.lmul, 1) := by decide +kernel
theorem dX1_weigh_108 : decode cX1_weigh 108 = .ok (.ladd, 1) := by decide +kernel
theorem dX1_weigh_109 : decode cX1_weigh 109 = .ok (.lreturn, 1) := by decide +kernel
theorem dX2_init_0 : decode cX2_init 0 = .ok (.aload_n 0, 1) := by decide +kernel
theorem dX2_init_1 : decode cX2_init 1 = .ok (.invokespecial 3, 3) := by decide +kernel
theorem dX2_init_4 : decode cX2_init 4 = .ok (.aload_n 0, 1) := by decide +kernel
theorem dX2_init_5 : decode cX2_init 5 = .ok (.sipush 150, 3) := by decide +kernel
theorem dX2_init_8 : decode cX2_init 8 = .ok (.newarray .int, 2) := by decide +kernel
theorem dX2_init_10 : decode cX2_init 10 = .ok (.putfield 9, 3) := by decide +kernel
theorem dX2_init_13 : decode cX2_init 13 = .ok (.aload_n 0, 1) := by decide +kernel
theorem dX2_init_14 : decode cX2_init 14 = .ok (.iconst 0, 1) := by decide +kernel
theorem dX2_init_15 : decode cX2_init 15 = .ok (.putfield 15, 3) := by decide +kernel
theorem dX2_init_18 : decode cX2_init 18 = .ok (.aload_n 0, 1) := by decide +kernel
theorem dX2_init_19 : decode cX2_init 19 = .ok (.iconst 0, 1) := by decide +kernel
theorem dX2_init_20 : decode cX2_init 20 = .ok (.putfield 19, 3) := by decide +kernel
theorem dX2_init_23 : decode cX2_init 23 = .ok (.aload_n 0, 1) := by decide +kernel
theorem dX2_init_24 : decode cX2_init 24 = .ok (.iconst 0, 1) := by decide +kernel
theorem dX2_init_25 : decode cX2_init 25 = .ok (.putfield 22, 3) := by decide +kernel
theorem dX2_init_28 : decode cX2_init 28 = .ok (.aload_n 0, 1) := by decide +kernel
theorem dX2_init_29 : decode cX2_init 29 = .ok (.iconst 0, 1) := by decide +kernel
theorem dX2_init_30 : decode cX2_init 30 = .ok (.putfield 25, 3) := by decide +kernel
theorem dX2_init_33 : decode cX2_init 33 = .ok (.aload_n 0, 1) := by decide +kernel
theorem dX2_init_34 : decode cX2_init 34 = .ok (.iconst 0, 1) := by decide +kernel
theorem dX2_init_35 : decode cX2_init 35 = .ok (.putfield 28, 3) := by decide +kernel
theorem dX2_init_38 : decode cX2_init 38 = .ok (.aload_n 0, 1) := by decide +kernel
theorem dX2_init_39 : decode cX2_init 39 = .ok (.iconst 0, 1) := by decide +kernel
theorem dX2_init_40 : decode cX2_init 40 = .ok (.putfield 31, 3) := by decide +kernel
theorem dX2_init_43 : decode cX2_init 43 = .ok (.aload_n 0, 1) := by decide +kernel
theorem dX2_init_44 : decode cX2_init 44 = .ok (.new 34, 3) := by decide +kernel
theorem dX2_init_47 : decode cX2_init 47 = .ok (.dup, 1) := by decide +kernel
theorem dX2_init_48 : decode cX2_init 48 = .ok (.invokespecial 36, 3) := by decide +kernel
theorem dX2_init_51 : decode cX2_init 51 = .ok (.putfield 37, 3) := by decide +kernel
theorem dX2_init_54 : decode cX2_init 54 = .ok (.return_, 1) := by decide +kernel
theorem dX2_append_0 : decode cX2_append 0 = .ok (.aload_n 0, 1) := by decide +kernel
theorem dX2_append_1 : decode cX2_append 1 = .ok (.getfield 15, 3) := by decide +kernel
theorem dX2_append_4 : decode cX2_append 4 = .ok (.sipush 150, 3) := by decide +kernel
theorem dX2_append_7 : decode cX2_append 7 = .ok (.if_icmp .ge 23, 3) := by decide +kernel
theorem dX2_append_10 : decode cX2_append 10 = .ok (.aload_n 0, 1) := by decide +kernel
theorem dX2_append_11 : decode cX2_append 11 = .ok (.getfield 9, 3) := by decide +kernel
theorem dX2_append_14 : decode cX2_append 14 = .ok (.aload_n 0, 1) := by decide +kernel
theorem dX2_append_15 : decode cX2_append 15 = .ok (.getfield 15, 3) := by decide +kernel
theorem dX2_append_18 : decode cX2_append 18 = .ok (.iload_n 1, 1) := by decide +kernel
theorem dX2_append_19 : decode cX2_append 19 = .ok (.iastore, 1) := by decide +kernel
theorem dX2_append_20 : decode cX2_append 20 = .ok (.aload_n 0, 1) := by decide +kernel
theorem dX2_append_21 : decode cX2_append 21 = .ok (.dup, 1) := by decide +kernel
theorem dX2_append_22 : decode cX2_append 22 = .ok (.getfield 15, 3) := by decide +kernel
theorem dX2_append_25 : decode cX2_append 25 = .ok (.iconst 1, 1) := by decide +kernel
theorem dX2_append_26 : decode cX2_append 26 = .ok (.iadd, 1) := by decide +kernel
theorem dX2_append_27 : decode cX2_append 27 = .ok (.putfield 15, 3) := by decide +kernel
theorem dX2_append_30 : decode cX2_append 30 = .ok (.return_, 1) := by decide +kernel
theorem dX2_readIsland_0 : decode cX2_readIsland 0 = .ok (.aload_n 0, 1) := by decide +kernel
theorem dX2_readIsland_1 : decode cX2_readIsland 1 = .ok (.iconst 0, 1) := by decide +kernel
theorem dX2_readIsland_2 : decode cX2_readIsland 2 = .ok (.putfield 19, 3) := by decide +kernel
theorem dX2_readIsland_5 : decode cX2_readIsland 5 = .ok (.aload_n 0, 1) := by decide +kernel
theorem dX2_readIsland_6 : decode cX2_readIsland 6 = .ok (.iconst 0, 1) := by decide +kernel
theorem dX2_readIsland_7 : decode cX2_readIsland 7 = .ok (.putfield 31, 3) := by decide +kernel
theorem dX2_readIsland_10 : decode cX2_readIsland 10 = .ok (.aload_n 0, 1) := by decide +kernel
theorem dX2_readIsland_11 : decode cX2_readIsland 11 = .ok (.invokevirtual 41, 3) := by decide +kernel
theorem dX2_readIsland_14 : decode cX2_readIsland 14 = .ok (.ifCond .ne 5, 3) := by decide +kernel
theorem dX2_readIsland_17 : decode cX2_readIsland 17 = .ok (.iconst 0, 1) := by decide +kernel
theorem dX2_readIsland_18 : decode cX2_readIsland 18 = .ok (.ireturn, 1) := by decide +kernel
theorem dX2_readIsland_19 : decode cX2_readIsland 19 = .ok (.aload_n 0, 1) := by decide +kernel
theorem dX2_readIsland_20 : decode cX2_readIsland 20 = .ok (.invokevirtual 45, 3) := by decide +kernel
theorem dX2_readIsland_23 : decode cX2_readIsland 23 = .ok (.iconst 0, 1) := by decide +kernel
theorem dX2_readIsland_24 : decode cX2_readIsland 24 = .ok (.istore_n 1, 1) := by decide +kernel
theorem dX2_readIsland_25 : decode cX2_readIsland 25 = .ok (.iload_n 1, 1) := by decide +kernel
theorem dX2_readIsland_26 : decode cX2_readIsland 26 = .ok (.aload_n 0, 1) := by decide +kernel
theorem dX2_readIsland_27 : decode cX2_readIsland 27 = .ok (.getfield 15, 3) := by decide +kernel
theorem dX2_readIsland_30 : decode cX2_readIsland 30 = .ok (.if_icmp .ge 74, 3) := by decide +kernel
theorem dX2_readIsland_33 : decode cX2_readIsland 33 = .ok (.aload_n 0, 1) := by decide +kernel
theorem dX2_readIsland_34 : decode cX2_readIsland 34 = .ok (.getfield 22, 3) := by decide +kernel
theorem dX2_readIsland_37 : decode cX2_readIsland 37 = .ok (.iconst 1, 1) := by decide +kernel
theorem dX2_readIsland_38 : decode cX2_readIsland 38 = .ok (.if_icmp .ne 66, 3) := by decide +kernel
theorem dX2_readIsland_41 : decode cX2_readIsland 41 = .ok (.iconst 0, 1) := by decide +kernel
theorem dX2_readIsland_42 : decode cX2_readIsland 42 = .ok (.istore_n 2, 1) := by decide +kernel
theorem dX2_readIsland_43 : decode cX2_readIsland 43 = .ok (.aload_n 0, 1) := by decide +kernel
theorem dX2_readIsland_44 : decode cX2_readIsland 44 = .ok (.getfield 25, 3) := by decide +kernel
theorem dX2_readIsland_47 : decode cX2_readIsland 47 = .ok (.iconst 1, 1) := by decide +kernel
theorem dX2_readIsland_48 : decode cX2_readIsland 48 = .ok (.if_icmp .ne 11, 3) := by decide +kernel
theorem dX2_readIsland_51 : decode cX2_readIsland 51 = .ok (.aload_n 0, 1) := by decide +kernel
theorem dX2_readIsland_52 : decode cX2_readIsland 52 = .ok (.invokevirtual 48, 3) := by decide +kernel
theorem dX2_readIsland_55 : decode cX2_readIsland 55 = .ok (.istore_n 2, 1) := by decide +kernel
theorem dX2_readIsland_56 : decode cX2_readIsland 56 = .ok (.goto 32, 3) := by decide +kernel
theorem dX2_readIsland_59 : decode cX2_readIsland 59 = .ok (.aload_n 0, 1) := by decide +kernel
theorem dX2_readIsland_60 : decode cX2_readIsland 60 = .ok (.getfield 25, 3) := by decide +kernel
theorem dX2_readIsland_63 : decode cX2_readIsland 63 = .ok (.iconst 2, 1) := by decide +kernel
theorem dX2_readIsland_64 : decode cX2_readIsland 64 = .ok (.if_icmp .ne 11, 3) := by decide +kernel
theorem dX2_readIsland_67 : decode cX2_readIsland 67 = .ok (.aload_n 0, 1) := by decide +kernel
theorem dX2_readIsland_68 : decode cX2_readIsland 68 = .ok (.invokevirtual 51, 3) := by decide +kernel
theorem dX2_readIsland_71 : decode cX2_readIsland 71 = .ok (.istore_n 2, 1) := by decide +kernel
theorem dX2_readIsland_72 : decode cX2_readIsland 72 = .ok (.goto 16, 3) := by decide +kernel
theorem dX2_readIsland_75 : decode cX2_readIsland 75 = .ok (.aload_n 0, 1) := by decide +kernel
theorem dX2_readIsland_76 : decode cX2_readIsland 76 = .ok (.getfield 25, 3) := by decide +kernel
theorem dX2_readIsland_79 : decode cX2_readIsland 79 = .ok (.iconst 3, 1) := by decide +kernel
theorem dX2_readIsland_80 : decode cX2_readIsland 80 = .ok (.if_icmp .ne 8, 3) := by decide +kernel
theorem dX2_readIsland_83 : decode cX2_readIsland 83 = .ok (.aload_n 0, 1) := by decide +kernel
theorem dX2_readIsland_84 : decode cX2_readIsland 84 = .ok (.invokevirtual 54, 3) := by decide +kernel
theorem dX2_readIsland_87 : decode cX2_readIsland 87 = .ok (.istore_n 2, 1) := by decide +kernel
theorem dX2_readIsland_88 : decode cX2_readIsland 88 = .ok (.iload_n 2, 1) := by decide +kernel
theorem dX2_readIsland_89 : decode cX2_readIsland 89 = .ok (.ifCond .ne 5, 3) := by decide +kernel
theorem dX2_readIsland_92 : decode cX2_readIsland 92 = .ok (.iconst 0, 1) := by decide +kernel
theorem dX2_readIsland_93 : decode cX2_readIsland 93 = .ok (.ireturn, 1) := by decide +kernel
theorem dX2_readIsland_94 : decode cX2_readIsland 94 = .ok (.aload_n 0, 1) := by decide +kernel
theorem dX2_readIsland_95 : decode cX2_readIsland 95 = .ok (.invokevirtual 45, 3) := by decide +kernel
theorem dX2_readIsland_98 : decode cX2_readIsland 98 = .ok (.iinc 1 1, 3) := by decide +kernel
theorem dX2_readIsland_101 : decode cX2_readIsland 101 = .ok (.goto (-76), 3) := by decide +kernel
theorem dX2_readIsland_104 : decode cX2_readIsland 104 = .ok (.aload_n 0, 1) := by decide +kernel
theorem dX2_readIsland_105 : decode cX2_readIsland 105 = .ok (.getfield 22, 3) := by decide +kernel
theorem dX2_readIsland_108 : decode cX2_readIsland 108 = .ok (.ifCond .ne 7, 3) := by decide +kernel
theorem dX2_readIsland_111 : decode cX2_readIsland 111 = .ok (.iconst 1, 1) := by decide +kernel
theorem dX2_readIsland_112 : decode cX2_readIsland 112 = .ok (.goto 4, 3) := by decide +kernel
theorem dX2_readIsland_115 : decode cX2_readIsland 115 = .ok (.iconst 0, 1) := by decide +kernel
theorem dX2_readIsland_116 : decode cX2_readIsland 116 = .ok (.ireturn, 1) := by decide +kernel
theorem dX2_readClerk_0 : decode cX2_readClerk 0 = .ok (.aload_n 0, 1) := by decide +kernel
theorem dX2_readClerk_1 : decode cX2_readClerk 1 = .ok (.invokevirtual 45, 3) := by decide +kernel
theorem dX2_readClerk_4 : decode cX2_readClerk 4 = .ok (.aload_n 0, 1) := by decide +kernel
theorem dX2_readClerk_5 : decode cX2_readClerk 5 = .ok (.getfield 22, 3) := by decide +kernel
theorem dX2_readClerk_8 : decode cX2_readClerk 8 = .ok (.iconst 1, 1) := by decide +kernel
theorem dX2_readClerk_9 : decode cX2_readClerk 9 = .ok (.if_icmp .ne 18, 3) := by decide +kernel
theorem dX2_readClerk_12 : decode cX2_readClerk 12 = .ok (.aload_n 0, 1) := by decide +kernel
theorem dX2_readClerk_13 : decode cX2_readClerk 13 = .ok (.getfield 25, 3) := by decide +kernel
theorem dX2_readClerk_16 : decode cX2_readClerk 16 = .ok (.ifCond .ne 11, 3) := by decide +kernel
theorem dX2_readClerk_19 : decode cX2_readClerk 19 = .ok (.aload_n 0, 1) := by decide +kernel
theorem dX2_readClerk_20 : decode cX2_readClerk 20 = .ok (.iconst 5, 1) := by decide +kernel
theorem dX2_readClerk_21 : decode cX2_readClerk 21 = .ok (.invokevirtual 57, 3) := by decide +kernel
theorem dX2_readClerk_24 : decode cX2_readClerk 24 = .ok (.ifCond .ne 5, 3) := by decide +kernel
theorem dX2_readClerk_27 : decode cX2_readClerk 27 = .ok (.iconst 0, 1) := by decide +kernel
theorem dX2_readClerk_28 : decode cX2_readClerk 28 = .ok (.ireturn, 1) := by decide +kernel
theorem dX2_readClerk_29 : decode cX2_readClerk 29 = .ok (.aload_n 0, 1) := by decide +kernel
theorem dX2_readClerk_30 : decode cX2_readClerk 30 = .ok (.getfield 37, 3) := by decide +kernel
theorem dX2_readClerk_33 : decode cX2_readClerk 33 = .ok (.aload_n 0, 1) := by decide +kernel
theorem dX2_readClerk_34 : decode cX2_readClerk 34 = .ok (.getfield 25, 3) := by decide +kernel
theorem dX2_readClerk_37 : decode cX2_readClerk 37 = .ok (.invokevirtual 61, 3) := by decide +kernel
theorem dX2_readClerk_40 : decode cX2_readClerk 40 = .ok (.aload_n 0, 1) := by decide +kernel
theorem dX2_readClerk_41 : decode cX2_readClerk 41 = .ok (.invokevirtual 65, 3) := by decide +kernel
theorem dX2_readClerk_44 : decode cX2_readClerk 44 = .ok (.ireturn, 1) := by decide +kernel
theorem dX2_readVines_0 : decode cX2_readVines 0 = .ok (.aload_n 0, 1) := by decide +kernel
theorem dX2_readVines_1 : decode cX2_readVines 1 = .ok (.bipush 19, 2) := by decide +kernel
theorem dX2_readVines_3 : decode cX2_readVines 3 = .ok (.invokevirtual 57, 3) := by decide +kernel
theorem dX2_readVines_6 : decode cX2_readVines 6 = .ok (.ifCond .ne 5, 3) := by decide +kernel
theorem dX2_readVines_9 : decode cX2_readVines 9 = .ok (.iconst 0, 1) := by decide +kernel
theorem dX2_readVines_10 : decode cX2_readVines 10 = .ok (.ireturn, 1) := by decide +kernel
theorem dX2_readVines_11 : decode cX2_readVines 11 = .ok (.aload_n 0, 1) := by decide +kernel
theorem dX2_readVines_12 : decode cX2_readVines 12 = .ok (.getfield 25, 3) := by decide +kernel
theorem dX2_readVines_15 : decode cX2_readVines 15 = .ok (.istore_n 1, 1) := by decide +kernel
theorem dX2_readVines_16 : decode cX2_readVines 16 = .ok (.aload_n 0, 1) := by decide +kernel
theorem dX2_readVines_17 : decode cX2_readVines 17 = .ok (.bipush 9, 2) := by decide +kernel
theorem dX2_readVines_19 : decode cX2_readVines 19 = .ok (.invokevirtual 57, 3) := by decide +kernel
theorem dX2_readVines_22 : decode cX2_readVines 22 = .ok (.ifCond .ne 5, 3) := by decide +kernel
theorem dX2_readVines_25 : decode cX2_readVines 25 = .ok (.iconst 0, 1) := by decide +kernel
theorem dX2_readVines_26 : decode cX2_readVines 26 = .ok (.ireturn, 1) := by decide +kernel
theorem dX2_readVines_27 : decode cX2_readVines 27 = .ok (.aload_n 0, 1) := by decide +kernel
theorem dX2_readVines_28 : decode cX2_readVines 28 = .ok (.getfield 37, 3) := by decide +kernel
theorem dX2_readVines_31 : decode cX2_readVines 31 = .ok (.getfield 68, 3) := by decide +kernel
theorem dX2_readVines_34 : decode cX2_readVines 34 = .ok (.iload_n 1, 1) := by decide +kernel
theorem dX2_readVines_35 : decode cX2_readVines 35 = .ok (.aload_n 0, 1) := by decide +kernel
theorem dX2_readVines_36 : decode cX2_readVines 36 = .ok (.getfield 25, 3) := by decide +kernel
theorem dX2_readVines_39 : decode cX2_readVines 39 = .ok (.iastore, 1) := by decide +kernel
theorem dX2_readVines_40 : decode cX2_readVines 40 = .ok (.aload_n 0, 1) := by decide +kernel
theorem dX2_readVines_41 : decode cX2_readVines 41 = .ok (.invokevirtual 65, 3) := by decide +kernel
theorem dX2_readVines_44 : decode cX2_readVines 44 = .ok (.ireturn, 1) := by decide +kernel
theorem dX2_readHill_0 : decode cX2_readHill 0 = .ok (.aload_n 0, 1) := by decide +kernel
theorem dX2_readHill_1 : decode cX2_readHill 1 = .ok (.getfield 37, 3) := by decide +kernel
theorem dX2_readHill_4 : decode cX2_readHill 4 = .ok (.getfield 71, 3) := by decide +kernel
theorem dX2_readHill_7 : decode cX2_readHill 7 = .ok (.bipush 7, 2) := by decide +kernel
theorem dX2_readHill_9 : decode cX2_readHill 9 = .ok (.if_icmp .ge 11, 3) := by decide +kernel
theorem dX2_readHill_12 : decode cX2_readHill 12 = .ok (.aload_n 0, 1) := by decide +kernel
theorem dX2_readHill_13 : decode cX2_readHill 13 = .ok (.iconst 5, 1) := by decide +kernel
theorem dX2_readHill_14 : decode cX2_readHill 14 = .ok (.invokevirtual 57, 3) := by decide +kernel
theorem dX2_readHill_17 : decode cX2_readHill 17 = .ok (.ifCond .ne 5, 3) := by decide +kernel
theorem dX2_readHill_20 : decode cX2_readHill 20 = .ok (.iconst 0, 1) := by decide +kernel
theorem dX2_readHill_21 : decode cX2_readHill 21 = .ok (.ireturn, 1) := by decide +kernel
theorem dX2_readHill_22 : decode cX2_readHill 22 = .ok (.aload_n 0, 1) := by decide +kernel
theorem dX2_readHill_23 : decode cX2_readHill 23 = .ok (.getfield 25, 3) := by decide +kernel
theorem dX2_readHill_26 : decode cX2_readHill 26 = .ok (.istore_n 1, 1) := by decide +kernel
theorem dX2_readHill_27 : decode cX2_readHill 27 = .ok (.aload_n 0, 1) := by decide +kernel
theorem dX2_readHill_28 : decode cX2_readHill 28 = .ok (.bipush 19, 2) := by decide +kernel
theorem dX2_readHill_30 : decode cX2_readHill 30 = .ok (.invokevirtual 57, 3) := by decide +kernel
theorem dX2_readHill_33 : decode cX2_readHill 33 = .ok (.ifCond .eq 17, 3) := by decide +kernel
theorem dX2_readHill_36 : decode cX2_readHill 36 = .ok (.aload_n 0, 1) := by decide +kernel
theorem dX2_readHill_37 : decode cX2_readHill 37 = .ok (.getfield 37, 3) := by decide +kernel
theorem dX2_readHill_40 : decode cX2_readHill 40 = .ok (.aload_n 0, 1) := by decide +kernel
theorem dX2_readHill_41 : decode cX2_readHill 41 = .ok (.getfield 25, 3) := by decide +kernel
theorem dX2_readHill_44 : decode cX2_readHill 44 = .ok (.invokevirtual 74, 3) := by decide +kernel
theorem dX2_readHill_47 : decode cX2_readHill 47 = .ok (.ifCond .eq 5, 3) := by decide +kernel
theorem dX2_readHill_50 : decode cX2_readHill 50 = .ok (.iconst 0, 1) := by decide +kernel
theorem dX2_readHill_51 : decode cX2_readHill 51 = .ok (.ireturn, 1) := by decide +kernel
theorem dX2_readHill_52 : decode cX2_readHill 52 = .ok (.aload_n 0, 1) := by decide +kernel
theorem dX2_readHill_53 : decode cX2_readHill 53 = .ok (.getfield 25, 3) := by decide +kernel
theorem dX2_readHill_56 : decode cX2_readHill 56 = .ok (.istore_n 2, 1) := by decide +kernel
theorem dX2_readHill_57 : decode cX2_readHill 57 = .ok (.aload_n 0, 1) := by decide +kernel
theorem dX2_readHill_58 : decode cX2_readHill 58 = .ok (.bipush 59, 2) := by decide +kernel
theorem dX2_readHill_60 : decode cX2_readHill 60 = .ok (.invokevirtual 57, 3) := by decide +kernel
theorem dX2_readHill_63 : decode cX2_readHill 63 = .ok (.ifCond .ne 5, 3) := by decide +kernel
theorem dX2_readHill_66 : decode cX2_readHill 66 = .ok (.iconst 0, 1) := by decide +kernel
theorem dX2_readHill_67 : decode cX2_readHill 67 = .ok (.ireturn, 1) := by decide +kernel
theorem dX2_readHill_68 : decode cX2_readHill 68 = .ok (.aload_n 0, 1) := by decide +kernel
theorem dX2_readHill_69 : decode cX2_readHill 69 = .ok (.getfield 37, 3) := by decide +kernel
theorem dX2_readHill_72 : decode cX2_readHill 72 = .ok (.iload_n 1, 1) := by decide +kernel
theorem dX2_readHill_73 : decode cX2_readHill 73 = .ok (.iload_n 2, 1) := by decide +kernel
theorem dX2_readHill_74 : decode cX2_readHill 74 = .ok (.aload_n 0, 1) := by decide +kernel
theorem dX2_readHill_75 : decode cX2_readHill 75 = .ok (.getfield 25, 3) := by decide +kernel
theorem dX2_readHill_78 : decode cX2_readHill 78 = .ok (.invokevirtual 77, 3) := by decide +kernel
theorem dX2_readHill_81 : decode cX2_readHill 81 = .ok (.aload_n 0, 1) := by decide +kernel
theorem dX2_readHill_82 : decode cX2_readHill 82 = .ok (.invokevirtual 65, 3) := by decide +kernel
theorem dX2_readHill_85 : decode cX2_readHill 85 = .ok (.ireturn, 1) := by decide +kernel
theorem dX2_readDays_0 : decode cX2_readDays 0 = .ok (.aload_n 0, 1) := by decide +kernel
theorem dX2_readDays_1 : decode cX2_readDays 1 = .ok (.invokevirtual 45, 3) := by decide +kernel
theorem dX2_readDays_4 : decode cX2_readDays 4 = .ok (.iconst 0, 1) := by decide +kernel
theorem dX2_readDays_5 : decode cX2_readDays 5 = .ok (.istore_n 1, 1) := by decide +kernel
theorem dX2_readDays_6 : decode cX2_readDays 6 = .ok (.iload_n 1, 1) := by decide +kernel
theorem dX2_readDays_7 : decode cX2_readDays 7 = .ok (.bipush 9, 2) := by decide +kernel
theorem dX2_readDays_9 : decode cX2_readDays 9 = .ok (.if_icmp .ge 47, 3) := by decide +kernel
theorem dX2_readDays_12 : decode cX2_readDays 12 = .ok (.aload_n 0, 1) := by decide +kernel
theorem dX2_readDays_13 : decode cX2_readDays 13 = .ok (.getfield 22, 3) := by decide +kernel
theorem dX2_readDays_16 : decode cX2_readDays 16 = .ok (.iconst 2, 1) := by decide +kernel
theorem dX2_readDays_17 : decode cX2_readDays 17 = .ok (.if_icmp .ne 39, 3) := by decide +kernel
theorem dX2_readDays_20 : decode cX2_readDays 20 = .ok (.aload_n 0, 1) := by decide +kernel
theorem dX2_readDays_21 : decode cX2_readDays 21 = .ok (.getfield 37, 3) := by decide +kernel
theorem dX2_readDays_24 : decode cX2_readDays 24 = .ok (.aload_n 0, 1) := by decide +kernel
theorem dX2_readDays_25 : decode cX2_readDays 25 = .ok (.getfield 25, 3) := by decide +kernel
theorem dX2_readDays_28 : decode cX2_readDays 28 = .ok (.invokevirtual 81, 3) := by decide +kernel
theorem dX2_readDays_31 : decode cX2_readDays 31 = .ok (.ifCond .eq 25, 3) := by decide +kernel
theorem dX2_readDays_34 : decode cX2_readDays 34 = .ok (.aload_n 0, 1) := by decide +kernel
theorem dX2_readDays_35 : decode cX2_readDays 35 = .ok (.getfield 37, 3) := by decide +kernel
theorem dX2_readDays_38 : decode cX2_readDays 38 = .ok (.aload_n 0, 1) := by decide +kernel
theorem dX2_readDays_39 : decode cX2_readDays 39 = .ok (.getfield 25, 3) := by decide +kernel
theorem dX2_readDays_42 : decode cX2_readDays 42 = .ok (.invokevirtual 84, 3) := by decide +kernel
theorem dX2_readDays_45 : decode cX2_readDays 45 = .ok (.pop, 1) := by decide +kernel
theorem dX2_readDays_46 : decode cX2_readDays 46 = .ok (.iinc 1 1, 3) := by decide +kernel
theorem dX2_readDays_49 : decode cX2_readDays 49 = .ok (.aload_n 0, 1) := by decide +kernel
theorem dX2_readDays_50 : decode cX2_readDays 50 = .ok (.invokevirtual 45, 3) := by decide +kernel
theorem dX2_readDays_53 : decode cX2_readDays 53 = .ok (.goto (-47), 3) := by decide +kernel
theorem dX2_readDays_56 : decode cX2_readDays 56 = .ok (.iload_n 1, 1) := by decide +kernel
theorem dX2_readDays_57 : decode cX2_readDays 57 = .ok (.ifCond .le 14, 3) := by decide +kernel
theorem dX2_readDays_60 : decode cX2_readDays 60 = .ok (.aload_n 0, 1) := by decide +kernel
theorem dX2_readDays_61 : decode cX2_readDays 61 = .ok (.invokevirtual 88, 3) := by decide +kernel
theorem dX2_readDays_64 : decode cX2_readDays 64 = .ok (.ifCond .eq 7, 3) := by decide +kernel
theorem dX2_readDays_67 : decode cX2_readDays 67 = .ok (.iconst 1, 1) := by decide +kernel
theorem dX2_readDays_68 : decode cX2_readDays 68 = .ok (.goto 4, 3) := by decide +kernel
theorem dX2_readDays_71 : decode cX2_readDays 71 = .ok (.iconst 0, 1) := by decide +kernel
theorem dX2_readDays_72 : decode cX2_readDays 72 = .ok (.ireturn, 1) := by decide +kernel
theorem dX2_stepToNumber_0 : decode cX2_stepToNumber 0 = .ok (.aload_n 0, 1) := by decide +kernel
theorem dX2_stepToNumber_1 : decode cX2_stepToNumber 1 = .ok (.invokevirtual 45, 3) := by decide +kernel
theorem dX2_stepToNumber_4 : decode cX2_stepToNumber 4 = .ok (.aload_n 0, 1) := by decide +kernel
theorem dX2_stepToNumber_5 : decode cX2_stepToNumber 5 = .ok (.getfield 22, 3) := by decide +kernel
theorem dX2_stepToNumber_8 : decode cX2_stepToNumber 8 = .ok (.iconst 2, 1) := by decide +kernel
theorem dX2_stepToNumber_9 : decode cX2_stepToNumber 9 = .ok (.if_icmp .ne 15, 3) := by decide +kernel
theorem dX2_stepToNumber_12 : decode cX2_stepToNumber 12 = .ok (.aload_n 0, 1) := by decide +kernel
theorem dX2_stepToNumber_13 : decode cX2_stepToNumber 13 = .ok (.getfield 25, 3) := by decide +kernel
theorem dX2_stepToNumber_16 : decode cX2_stepToNumber 16 = .ok (.iload_n 1, 1) := by decide +kernel
theorem dX2_stepToNumber_17 : decode cX2_stepToNumber 17 = .ok (.if_icmp .gt 7, 3) := by decide +kernel
theorem dX2_stepToNumber_20 : decode cX2_stepToNumber 20 = .ok (.iconst 1, 1) := by decide +kernel
theorem dX2_stepToNumber_21 : decode cX2_stepToNumber 21 = .ok (.goto 4, 3) := by decide +kernel
theorem dX2_stepToNumber_24 : decode cX2_stepToNumber 24 = .ok (.iconst 0, 1) := by decide +kernel
theorem dX2_stepToNumber_25 : decode cX2_stepToNumber 25 = .ok (.ireturn, 1) := by decide +kernel
theorem dX2_stepToEndOfItem_0 : decode cX2_stepToEndOfItem 0 = .ok (.aload_n 0, 1) := by decide +kernel
theorem dX2_stepToEndOfItem_1 : decode cX2_stepToEndOfItem 1 = .ok (.invokevirtual 45, 3) := by decide +kernel
theorem dX2_stepToEndOfItem_4 : decode cX2_stepToEndOfItem 4 = .ok (.aload_n 0, 1) := by decide +kernel
theorem dX2_stepToEndOfItem_5 : decode cX2_stepToEndOfItem 5 = .ok (.invokevirtual 88, 3) := by decide +kernel
theorem dX2_stepToEndOfItem_8 : decode cX2_stepToEndOfItem 8 = .ok (.ireturn, 1) := by decide +kernel
theorem dX2_endsItem_0 : decode cX2_endsItem 0 = .ok (.aload_n 0, 1) := by decide +kernel
theorem dX2_endsItem_1 : decode cX2_endsItem 1 = .ok (.getfield 22, 3) := by decide +kernel
theorem dX2_endsItem_4 : decode cX2_endsItem 4 = .ok (.iconst 3, 1) := by decide +kernel
theorem dX2_endsItem_5 : decode cX2_endsItem 5 = .ok (.if_icmp .eq 5, 3) := by decide +kernel
theorem dX2_endsItem_8 : decode cX2_endsItem 8 = .ok (.iconst 0, 1) := by decide +kernel
theorem dX2_endsItem_9 : decode cX2_endsItem 9 = .ok (.ireturn, 1) := by decide +kernel
theorem dX2_endsItem_10 : decode cX2_endsItem 10 = .ok (.aload_n 0, 1) := by decide +kernel
theorem dX2_endsItem_11 : decode cX2_endsItem 11 = .ok (.dup, 1) := by decide +kernel
theorem dX2_endsItem_12 : decode cX2_endsItem 12 = .ok (.getfield 31, 3) := by decide +kernel
theorem dX2_endsItem_15 : decode cX2_endsItem 15 = .ok (.iconst 1, 1) := by decide +kernel
theorem dX2_endsItem_16 : decode cX2_endsItem 16 = .ok (.iadd, 1) := by decide +kernel
theorem dX2_endsItem_17 : decode cX2_endsItem 17 = .ok (.putfield 31, 3) := by decide +kernel
theorem dX2_endsItem_20 : decode cX2_endsItem 20 = .ok (.iconst 1, 1) := by decide +kernel
theorem dX2_endsItem_21 : decode cX2_endsItem 21 = .ok (.ireturn, 1) := by decide +kernel
theorem dX2_step_0 : decode cX2_step 0 = .ok (.aload_n 0, 1) := by decide +kernel
theorem dX2_step_1 : decode cX2_step 1 = .ok (.getfield 19, 3) := by decide +kernel
theorem dX2_step_4 : decode cX2_step 4 = .ok (.aload_n 0, 1) := by decide +kernel
theorem dX2_step_5 : decode cX2_step 5 = .ok (.getfield 15, 3) := by decide +kernel
theorem dX2_step_8 : decode cX2_step 8 = .ok (.if_icmp .ge 30, 3) := by decide +kernel
theorem dX2_step_11 : decode cX2_step 11 = .ok (.aload_n 0, 1) := by decide +kernel
theorem dX2_step_12 : decode cX2_step 12 = .ok (.getfield 9, 3) := by decide +kernel
theorem dX2_step_15 : decode cX2_step 15 = .ok (.aload_n 0, 1) := by decide +kernel
theorem dX2_step_16 : decode cX2_step 16 = .ok (.getfield 19, 3) := by decide +kernel
theorem dX2_step_19 : decode cX2_step 19 = .ok (.iaload, 1) := by decide +kernel
theorem dX2_step_20 : decode cX2_step 20 = .ok (.bipush 32, 2) := by decide +kernel
theorem dX2_step_22 : decode cX2_step 22 = .ok (.if_icmp .ne 16, 3) := by decide +kernel
theorem dX2_step_25 : decode cX2_step 25 = .ok (.aload_n 0, 1) := by decide +kernel
theorem dX2_step_26 : decode cX2_step 26 = .ok (.dup, 1) := by decide +kernel
theorem dX2_step_27 : decode cX2_step 27 = .ok (.getfield 19, 3) := by decide +kernel
theorem dX2_step_30 : decode cX2_step 30 = .ok (.iconst 1, 1) := by decide +kernel
theorem dX2_step_31 : decode cX2_step 31 = .ok (.iadd, 1) := by decide +kernel
theorem dX2_step_32 : decode cX2_step 32 = .ok (.putfield 19, 3) := by decide +kernel
theorem dX2_step_35 : decode cX2_step 35 = .ok (.goto (-35), 3) := by decide +kernel
theorem dX2_step_38 : decode cX2_step 38 = .ok (.aload_n 0, 1) := by decide +kernel
theorem dX2_step_39 : decode cX2_step 39 = .ok (.aload_n 0, 1) := by decide +kernel
theorem dX2_step_40 : decode cX2_step 40 = .ok (.getfield 19, 3) := by decide +kernel
theorem dX2_step_43 : decode cX2_step 43 = .ok (.putfield 28, 3) := by decide +kernel
theorem dX2_step_46 : decode cX2_step 46 = .ok (.aload_n 0, 1) := by decide +kernel
theorem dX2_step_47 : decode cX2_step 47 = .ok (.getfield 19, 3) := by decide +kernel
theorem dX2_step_50 : decode cX2_step 50 = .ok (.aload_n 0, 1) := by decide +kernel
theorem dX2_step_51 : decode cX2_step 51 = .ok (.getfield 15, 3) := by decide +kernel
theorem dX2_step_54 : decode cX2_step 54 = .ok (.if_icmp .lt 11, 3) := by decide +kernel
theorem dX2_step_57 : decode cX2_step 57 = .ok (.aload_n 0, 1) := by decide +kernel
theorem dX2_step_58 : decode cX2_step 58 = .ok (.iconst 0, 1) := by decide +kernel
theorem dX2_step_59 : decode cX2_step 59 = .ok (.putfield 22, 3) := by decide +kernel
theorem dX2_step_62 : decode cX2_step 62 = .ok (.goto 80, 3) := by decide +kernel
theorem dX2_step_65 : decode cX2_step 65 = .ok (.aload_n 0, 1) := by decide +kernel
theorem dX2_step_66 : decode cX2_step 66 = .ok (.getfield 9, 3) := by decide +kernel
theorem dX2_step_69 : decode cX2_step 69 = .ok (.aload_n 0, 1) := by decide +kernel
theorem dX2_step_70 : decode cX2_step 70 = .ok (.getfield 19, 3) := by decide +kernel
theorem dX2_step_73 : decode cX2_step 73 = .ok (.iaload, 1) := by decide +kernel
theorem dX2_step_74 : decode cX2_step 74 = .ok (.invokestatic 91, 3) := by decide +kernel
theorem dX2_step_77 : decode cX2_step 77 = .ok (.ifCond .eq 10, 3) := by decide +kernel
theorem dX2_step_80 : decode cX2_step 80 = .ok (.aload_n 0, 1) := by decide +kernel
theorem dX2_step_81 : decode cX2_step 81 = .ok (.invokevirtual 94, 3) := by decide +kernel
theorem dX2_step_84 : decode cX2_step 84 = .ok (.goto 58, 3) := by decide +kernel
theorem dX2_step_87 : decode cX2_step 87 = .ok (.aload_n 0, 1) := by decide +kernel
theorem dX2_step_88 : decode cX2_step 88 = .ok (.getfield 9, 3) := by decide +kernel
theorem dX2_step_91 : decode cX2_step 91 = .ok (.aload_n 0, 1) := by decide +kernel
theorem dX2_step_92 : decode cX2_step 92 = .ok (.getfield 19, 3) := by decide +kernel
theorem dX2_step_95 : decode cX2_step 95 = .ok (.iaload, 1) := by decide +kernel
theorem dX2_step_96 : decode cX2_step 96 = .ok (.invokestatic 97, 3) := by decide +kernel
theorem dX2_step_99 : decode cX2_step 99 = .ok (.ifCond .eq 10, 3) := by decide +kernel
theorem dX2_step_102 : decode cX2_step 102 = .ok (.aload_n 0, 1) := by decide +kernel
theorem dX2_step_103 : decode cX2_step 103 = .ok (.invokevirtual 100, 3) := by decide +kernel
theorem dX2_step_106 : decode cX2_step 106 = .ok (.goto 36, 3) := by decide +kernel
theorem dX2_step_109 : decode cX2_step 109 = .ok (.aload_n 0, 1) := by decide +kernel
theorem dX2_step_110 : decode cX2_step 110 = .ok (.aload_n 0, 1) := by decide +kernel
theorem dX2_step_111 : decode cX2_step 111 = .ok (.getfield 9, 3) := by decide +kernel
theorem dX2_step_114 : decode cX2_step 114 = .ok (.aload_n 0, 1) := by decide +kernel
theorem dX2_step_115 : decode cX2_step 115 = .ok (.getfield 19, 3) := by decide +kernel
theorem dX2_step_118 : decode cX2_step 118 = .ok (.iaload, 1) := by decide +kernel
theorem dX2_step_119 : decode cX2_step 119 = .ok (.bipush 59, 2) := by decide +kernel
theorem dX2_step_121 : decode cX2_step 121 = .ok (.if_icmp .ne 7, 3) := by decide +kernel
theorem dX2_step_124 : decode cX2_step 124 = .ok (.iconst 3, 1) := by decide +kernel
theorem dX2_step_125 : decode cX2_step 125 = .ok (.goto 4, 3) := by decide +kernel
theorem dX2_step_128 : decode cX2_step 128 = .ok (.iconst 4, 1) := by decide +kernel
theorem dX2_step_129 : decode cX2_step 129 = .ok (.putfield 22, 3) := by decide +kernel
theorem dX2_step_132 : decode cX2_step 132 = .ok (.aload_n 0, 1) := by decide +kernel
theorem dX2_step_133 : decode cX2_step 133 = .ok (.dup, 1) := by decide +kernel
theorem dX2_step_134 : decode cX2_step 134 = .ok (.getfield 19, 3) := by decide +kernel
theorem dX2_step_137 : decode cX2_step 137 = .ok (.iconst 1, 1) := by decide +kernel
theorem dX2_step_138 : decode cX2_step 138 = .ok (.iadd, 1) := by decide +kernel
theorem dX2_step_139 : decode cX2_step 139 = .ok (.putfield 19, 3) := by decide +kernel
theorem dX2_step_142 : decode cX2_step 142 = .ok (.return_, 1) := by decide +kernel
theorem dX2_takeWord_0 : decode cX2_takeWord 0 = .ok (.aload_n 0, 1) := by decide +kernel
theorem dX2_takeWord_1 : decode cX2_takeWord 1 = .ok (.getfield 19, 3) := by decide +kernel
theorem dX2_takeWord_4 : decode cX2_takeWord 4 = .ok (.aload_n 0, 1) := by decide +kernel
theorem dX2_takeWord_5 : decode cX2_takeWord 5 = .ok (.getfield 15, 3) := by decide +kernel
theorem dX2_takeWord_8 : decode cX2_takeWord 8 = .ok (.if_icmp .ge 31, 3) := by decide +kernel
theorem dX2_takeWord_11 : decode cX2_takeWord 11 = .ok (.aload_n 0, 1) := by decide +kernel
theorem dX2_takeWord_12 : decode cX2_takeWord 12 = .ok (.getfield 9, 3) := by decide +kernel
theorem dX2_takeWord_15 : decode cX2_takeWord 15 = .ok (.aload_n 0, 1) := by decide +kernel
theorem dX2_takeWord_16 : decode cX2_takeWord 16 = .ok (.getfield 19, 3) := by decide +kernel
theorem dX2_takeWord_19 : decode cX2_takeWord 19 = .ok (.iaload, 1) := by decide +kernel
theorem dX2_takeWord_20 : decode cX2_takeWord 20 = .ok (.invokestatic 91, 3) := by decide +kernel
theorem dX2_takeWord_23 : decode cX2_takeWord 23 = .ok (.ifCond .eq 16, 3) := by decide +kernel
theorem dX2_takeWord_26 : decode cX2_takeWord 26 = .ok (.aload_n 0, 1) := by decide +kernel
theorem dX2_takeWord_27 : decode cX2_takeWord 27 = .ok (.dup, 1) := by decide +kernel
theorem dX2_takeWord_28 : decode cX2_takeWord 28 = .ok (.getfield 19, 3) := by decide +kernel
theorem dX2_takeWord_31 : decode cX2_takeWord 31 = .ok (.iconst 1, 1) := by decide +kernel
theorem dX2_takeWord_32 : decode cX2_takeWord 32 = .ok (.iadd, 1) := by decide +kernel
theorem dX2_takeWord_33 : decode cX2_takeWord 33 = .ok (.putfield 19, 3) := by decide +kernel
theorem dX2_takeWord_36 : decode cX2_takeWord 36 = .ok (.goto (-36), 3) := by decide +kernel
theorem dX2_takeWord_39 : decode cX2_takeWord 39 = .ok (.aload_n 0, 1) := by decide +kernel
theorem dX2_takeWord_40 : decode cX2_takeWord 40 = .ok (.iconst 1, 1) := by decide +kernel
theorem dX2_takeWord_41 : decode cX2_takeWord 41 = .ok (.putfield 22, 3) := by decide +kernel
theorem dX2_takeWord_44 : decode cX2_takeWord 44 = .ok (.aload_n 0, 1) := by decide +kernel
theorem dX2_takeWord_45 : decode cX2_takeWord 45 = .ok (.ldc 103, 2) := by decide +kernel
theorem dX2_takeWord_47 : decode cX2_takeWord 47 = .ok (.invokevirtual 105, 3) := by decide +kernel
theorem dX2_takeWord_50 : decode cX2_takeWord 50 = .ok (.ifCond .eq 11, 3) := by decide +kernel
theorem dX2_takeWord_53 : decode cX2_takeWord 53 = .ok (.aload_n 0, 1) := by decide +kernel
theorem dX2_takeWord_54 : decode cX2_takeWord 54 = .ok (.iconst 0, 1) := by decide +kernel
theorem dX2_takeWord_55 : decode cX2_takeWord 55 = .ok (.putfield 25, 3) := by decide +kernel
theorem dX2_takeWord_58 : decode cX2_takeWord 58 = .ok (.goto 59, 3) := by decide +kernel
theorem dX2_takeWord_61 : decode cX2_takeWord 61 = .ok (.aload_n 0, 1) := by decide +kernel
theorem dX2_takeWord_62 : decode cX2_takeWord 62 = .ok (.ldc 109, 2) := by decide +kernel
theorem dX2_takeWord_64 : decode cX2_takeWord 64 = .ok (.invokevirtual 105, 3) := by decide +kernel
theorem dX2_takeWord_67 : decode cX2_takeWord 67 = .ok (.ifCond .eq 11, 3) := by decide +kernel
theorem dX2_takeWord_70 : decode cX2_takeWord 70 = .ok (.aload_n 0, 1) := by decide +kernel
theorem dX2_takeWord_71 : decode cX2_takeWord 71 = .ok (.iconst 1, 1) := by decide +kernel
theorem dX2_takeWord_72 : decode cX2_takeWord 72 = .ok (.putfield 25, 3) := by decide +kernel
theorem dX2_takeWord_75 : decode cX2_takeWord 75 = .ok (.goto 42, 3) := by decide +kernel
theorem dX2_takeWord_78 : decode cX2_takeWord 78 = .ok (.aload_n 0, 1) := by decide +kernel
theorem dX2_takeWord_79 : decode cX2_takeWord 79 = .ok (.ldc 111, 2) := by decide +kernel
theorem dX2_takeWord_81 : decode cX2_takeWord 81 = .ok (.invokevirtual 105, 3) := by decide +kernel
theorem dX2_takeWord_84 : decode cX2_takeWord 84 = .ok (.ifCond .eq 11, 3) := by decide +kernel
theorem dX2_takeWord_87 : decode cX2_takeWord 87 = .ok (.aload_n 0, 1) := by decide +kernel
theorem dX2_takeWord_88 : decode cX2_takeWord 88 = .ok (.iconst 2, 1) := by decide +kernel
theorem dX2_takeWord_89 : decode cX2_takeWord 89 = .ok (.putfield 25, 3) := by decide +kernel
theorem dX2_takeWord_92 : decode cX2_takeWord 92 = .ok (.goto 25, 3) := by decide +kernel
theorem dX2_takeWord_95 : decode cX2_takeWord 95 = .ok (.aload_n 0, 1) := by decide +kernel
theorem dX2_takeWord_96 : decode cX2_takeWord 96 = .ok (.ldc 113, 2) := by decide +kernel
theorem dX2_takeWord_98 : decode cX2_takeWord 98 = .ok (.invokevirtual 105, 3) := by decide +kernel
theorem dX2_takeWord_101 : decode cX2_takeWord 101 = .ok (.ifCond .eq 11, 3) := by decide +kernel
theorem dX2_takeWord_104 : decode cX2_takeWord 104 = .ok (.aload_n 0, 1) := by decide +kernel
theorem dX2_takeWord_105 : decode cX2_takeWord 105 = .ok (.iconst 3, 1) := by decide +kernel
theorem dX2_takeWord_106 : decode cX2_takeWord 106 = .ok (.putfield 25, 3) := by decide +kernel
theorem dX2_takeWord_109 : decode cX2_takeWord 109 = .ok (.goto 8, 3) := by decide +kernel
theorem dX2_takeWord_112 : decode cX2_takeWord 112 = .ok (.aload_n 0, 1) := by decide +kernel
theorem dX2_takeWord_113 : decode cX2_takeWord 113 = .ok (.iconst 4, 1) := by decide +kernel
theorem dX2_takeWord_114 : decode cX2_takeWord 114 = .ok (.putfield 22, 3) := by decide +kernel
theorem dX2_takeWord_117 : decode cX2_takeWord 117 = .ok (.return_, 1) := by decide +kernel
theorem dX2_takeNumber_0 : decode cX2_takeNumber 0 = .ok (.aload_n 0, 1) := by decide +kernel
theorem dX2_takeNumber_1 : decode cX2_takeNumber 1 = .ok (.iconst 0, 1) := by decide +kernel
theorem dX2_takeNumber_2 : decode cX2_takeNumber 2 = .ok (.putfield 25, 3) := by decide +kernel
theorem dX2_takeNumber_5 : decode cX2_takeNumber 5 = .ok (.aload_n 0, 1) := by decide +kernel
theorem dX2_takeNumber_6 : decode cX2_takeNumber 6 = .ok (.getfield 19, 3) := by decide +kernel
theorem dX2_takeNumber_9 : decode cX2_takeNumber 9 = .ok (.aload_n 0, 1) := by decide +kernel
theorem dX2_takeNumber_10 : decode cX2_takeNumber 10 = .ok (.getfield 15, 3) := by decide +kernel
theorem dX2_takeNumber_13 : decode cX2_takeNumber 13 = .ok (.if_icmp .ge 68, 3) := by decide +kernel
theorem dX2_takeNumber_16 : decode cX2_takeNumber 16 = .ok (.aload_n 0, 1) := by decide +kernel
theorem dX2_takeNumber_17 : decode cX2_takeNumber 17 = .ok (.getfield 9, 3) := by decide +kernel
theorem dX2_takeNumber_20 : decode cX2_takeNumber 20 = .ok (.aload_n 0, 1) := by decide +kernel
theorem dX2_takeNumber_21 : decode cX2_takeNumber 21 = .ok (.getfield 19, 3) := by decide +kernel
theorem dX2_takeNumber_24 : decode cX2_takeNumber 24 = .ok (.iaload, 1) := by decide +kernel
theorem dX2_takeNumber_25 : decode cX2_takeNumber 25 = .ok (.invokestatic 97, 3) := by decide +kernel
theorem dX2_takeNumber_28 : decode cX2_takeNumber 28 = .ok (.ifCond .eq 53, 3) := by decide +kernel
theorem dX2_takeNumber_31 : decode cX2_takeNumber 31 = .ok (.aload_n 0, 1) := by decide +kernel
theorem dX2_takeNumber_32 : decode cX2_takeNumber 32 = .ok (.getfield 19, 3) := by decide +kernel
theorem dX2_takeNumber_35 : decode cX2_takeNumber 35 = .ok (.aload_n 0, 1) := by decide +kernel
theorem dX2_takeNumber_36 : decode cX2_takeNumber 36 = .ok (.getfield 28, 3) := by decide +kernel
theorem dX2_takeNumber_39 : decode cX2_takeNumber 39 = .ok (.isub, 1) := by decide +kernel
theorem dX2_takeNumber_40 : decode cX2_takeNumber 40 = .ok (.iconst 2, 1) := by decide +kernel
theorem dX2_takeNumber_41 : decode cX2_takeNumber 41 = .ok (.if_icmp .ge 27, 3) := by decide +kernel
theorem dX2_takeNumber_44 : decode cX2_takeNumber 44 = .ok (.aload_n 0, 1) := by decide +kernel
theorem dX2_takeNumber_45 : decode cX2_takeNumber 45 = .ok (.bipush 10, 2) := by decide +kernel
theorem dX2_takeNumber_47 : decode cX2_takeNumber 47 = .ok (.aload_n 0, 1) := by decide +kernel
theorem dX2_takeNumber_48 : decode cX2_takeNumber 48 = .ok (.getfield 25, 3) := by decide +kernel
theorem dX2_takeNumber_51 : decode cX2_takeNumber 51 = .ok (.imul, 1) := by decide +kernel
theorem dX2_takeNumber_52 : decode cX2_takeNumber 52 = .ok (.aload_n 0, 1) := by decide +kernel
theorem dX2_takeNumber_53 : decode cX2_takeNumber 53 = .ok (.getfield 9, 3) := by decide +kernel
theorem dX2_takeNumber_56 : decode cX2_takeNumber 56 = .ok (.aload_n 0, 1) := by decide +kernel
theorem dX2_takeNumber_57 : decode cX2_takeNumber 57 = .ok (.getfield 19, 3) := by decide +kernel
theorem dX2_takeNumber_60 : decode cX2_takeNumber 60 = .ok (.iaload, 1) := by decide +kernel
theorem dX2_takeNumber_61 : decode cX2_takeNumber 61 = .ok (.iadd, 1) := by decide +kernel
theorem dX2_takeNumber_62 : decode cX2_takeNumber 62 = .ok (.bipush 48, 2) := by decide +kernel
theorem dX2_takeNumber_64 : decode cX2_takeNumber 64 = .ok (.isub, 1) := by decide +kernel
theorem dX2_takeNumber_65 : decode cX2_takeNumber 65 = .ok (.putfield 25, 3) := by decide +kernel
theorem dX2_takeNumber_68 : decode cX2_takeNumber 68 = .ok (.aload_n 0, 1) := by decide +kernel
theorem dX2_takeNumber_69 : decode cX2_takeNumber 69 = .ok (.dup, 1) := by decide +kernel
theorem dX2_takeNumber_70 : decode cX2_takeNumber 70 = .ok (.getfield 19, 3) := by decide +kernel
theorem dX2_takeNumber_73 : decode cX2_takeNumber 73 = .ok (.iconst 1, 1) := by decide +kernel
theorem dX2_takeNumber_74 : decode cX2_takeNumber 74 = .ok (.iadd, 1) := by decide +kernel
theorem dX2_takeNumber_75 : decode cX2_takeNumber 75 = .ok (.putfield 19, 3) := by decide +kernel
theorem dX2_takeNumber_78 : decode cX2_takeNumber 78 = .ok (.goto (-73), 3) := by decide +kernel
theorem dX2_takeNumber_81 : decode cX2_takeNumber 81 = .ok (.aload_n 0, 1) := by decide +kernel
theorem dX2_takeNumber_82 : decode cX2_takeNumber 82 = .ok (.aload_n 0, 1) := by decide +kernel
theorem dX2_takeNumber_83 : decode cX2_takeNumber 83 = .ok (.getfield 19, 3) := by decide +kernel
theorem dX2_takeNumber_86 : decode cX2_takeNumber 86 = .ok (.aload_n 0, 1) := by decide +kernel
theorem dX2_takeNumber_87 : decode cX2_takeNumber 87 = .ok (.getfield 28, 3) := by decide +kernel
theorem dX2_takeNumber_90 : decode cX2_takeNumber 90 = .ok (.isub, 1) := by decide +kernel
theorem dX2_takeNumber_91 : decode cX2_takeNumber 91 = .ok (.iconst 2, 1) := by decide +kernel
theorem dX2_takeNumber_92 : decode cX2_takeNumber 92 = .ok (.if_icmp .gt 7, 3) := by decide +kernel
theorem dX2_takeNumber_95 : decode cX2_takeNumber 95 = .ok (.iconst 2, 1) := by decide +kernel
theorem dX2_takeNumber_96 : decode cX2_takeNumber 96 = .ok (.goto 4, 3) := by decide +kernel
theorem dX2_takeNumber_99 : decode cX2_takeNumber 99 = .ok (.iconst 4, 1) := by decide +kernel
theorem dX2_takeNumber_100 : decode cX2_takeNumber 100 = .ok (.putfield 22, 3) := by decide +kernel
theorem dX2_takeNumber_103 : decode cX2_takeNumber 103 = .ok (.return_, 1) := by decide +kernel
theorem dX2_spells_0 : decode cX2_spells 0 = .ok (.aload_n 0, 1) := by decide +kernel
theorem dX2_spells_1 : decode cX2_spells 1 = .ok (.getfield 19, 3) := by decide +kernel
theorem dX2_spells_4 : decode cX2_spells 4 = .ok (.aload_n 0, 1) := by decide +kernel
theorem dX2_spells_5 : decode cX2_spells 5 = .ok (.getfield 28, 3) := by decide +kernel
theorem dX2_spells_8 : decode cX2_spells 8 = .ok (.isub, 1) := by decide +kernel
theorem dX2_spells_9 : decode cX2_spells 9 = .ok (.aload_n 1, 1) := by decide +kernel
theorem dX2_spells_10 : decode cX2_spells 10 = .ok (.invokevirtual 115, 3) := by decide +kernel
theorem dX2_spells_13 : decode cX2_spells 13 = .ok (.if_icmp .eq 5, 3) := by decide +kernel
theorem dX2_spells_16 : decode cX2_spells 16 = .ok (.iconst 0, 1) := by decide +kernel
theorem dX2_spells_17 : decode cX2_spells 17 = .ok (.ireturn, 1) := by decide +kernel
theorem dX2_spells_18 : decode cX2_spells 18 = .ok (.iconst 0, 1) := by decide +kernel
theorem dX2_spells_19 : decode cX2_spells 19 = .ok (.istore_n 2, 1) := by decide +kernel
theorem dX2_spells_20 : decode cX2_spells 20 = .ok (.iload_n 2, 1) := by decide +kernel
theorem dX2_spells_21 : decode cX2_spells 21 = .ok (.aload_n 1, 1) := by decide +kernel
theorem dX2_spells_22 : decode cX2_spells 22 = .ok (.invokevirtual 115, 3) := by decide +kernel
theorem dX2_spells_25 : decode cX2_spells 25 = .ok (.if_icmp .ge 30, 3) := by decide +kernel
theorem dX2_spells_28 : decode cX2_spells 28 = .ok (.aload_n 0, 1) := by decide +kernel
theorem dX2_spells_29 : decode cX2_spells 29 = .ok (.getfield 9, 3) := by decide +kernel
theorem dX2_spells_32 : decode cX2_spells 32 = .ok (.aload_n 0, 1) := by decide +kernel
theorem dX2_spells_33 : decode cX2_spells 33 = .ok (.getfield 28, 3) := by decide +kernel
theorem dX2_spells_36 : decode cX2_spells 36 = .ok (.iload_n 2, 1) := by decide +kernel
theorem dX2_spells_37 : decode cX2_spells 37 = .ok (.iadd, 1) := by decide +kernel
theorem dX2_spells_38 : decode cX2_spells 38 = .ok (.iaload, 1) := by decide +kernel
theorem dX2_spells_39 : decode cX2_spells 39 = .ok (.aload_n 1, 1) := by decide +kernel
theorem dX2_spells_40 : decode cX2_spells 40 = .ok (.iload_n 2, 1) := by decide +kernel
theorem dX2_spells_41 : decode cX2_spells 41 = .ok (.invokevirtual 120, 3) := by decide +kernel
theorem dX2_spells_44 : decode cX2_spells 44 = .ok (.if_icmp .eq 5, 3) := by decide +kernel
theorem dX2_spells_47 : decode cX2_spells 47 = .ok (.iconst 0, 1) := by decide +kernel
theorem dX2_spells_48 : decode cX2_spells 48 = .ok (.ireturn, 1) := by decide +kernel
theorem dX2_spells_49 : decode cX2_spells 49 = .ok (.iinc 2 1, 3) := by decide +kernel
theorem dX2_spells_52 : decode cX2_spells 52 = .ok (.goto (-32), 3) := by decide +kernel
theorem dX2_spells_55 : decode cX2_spells 55 = .ok (.iconst 1, 1) := by decide +kernel
theorem dX2_spells_56 : decode cX2_spells 56 = .ok (.ireturn, 1) := by decide +kernel
theorem dX2_isLetter_0 : decode cX2_isLetter 0 = .ok (.iload_n 0, 1) := by decide +kernel
theorem dX2_isLetter_1 : decode cX2_isLetter 1 = .ok (.bipush 97, 2) := by decide +kernel
theorem dX2_isLetter_3 : decode cX2_isLetter 3 = .ok (.if_icmp .lt 13, 3) := by decide +kernel
theorem dX2_isLetter_6 : decode cX2_isLetter 6 = .ok (.iload_n 0, 1) := by decide +kernel
theorem dX2_isLetter_7 : decode cX2_isLetter 7 = .ok (.bipush 122, 2) := by decide +kernel
theorem dX2_isLetter_9 : decode cX2_isLetter 9 = .ok (.if_icmp .gt 7, 3) := by decide +kernel
theorem dX2_isLetter_12 : decode cX2_isLetter 12 = .ok (.iconst 1, 1) := by decide +kernel
theorem dX2_isLetter_13 : decode cX2_isLetter 13 = .ok (.goto 4, 3) := by decide +kernel
theorem dX2_isLetter_16 : decode cX2_isLetter 16 = .ok (.iconst 0, 1) := by decide +kernel
theorem dX2_isLetter_17 : decode cX2_isLetter 17 = .ok (.ireturn, 1) := by decide +kernel
theorem dX2_isFigure_0 : decode cX2_isFigure 0 = .ok (.iload_n 0, 1) := by decide +kernel
theorem dX2_isFigure_1 : decode cX2_isFigure 1 = .ok (.bipush 48, 2) := by decide +kernel
theorem dX2_isFigure_3 : decode cX2_isFigure 3 = .ok (.if_icmp .lt 13, 3) := by decide +kernel
theorem dX2_isFigure_6 : decode cX2_isFigure 6 = .ok (.iload_n 0, 1) := by decide +kernel
theorem dX2_isFigure_7 : decode cX2_isFigure 7 = .ok (.bipush 57, 2) := by decide +kernel
theorem dX2_isFigure_9 : decode cX2_isFigure 9 = .ok (.if_icmp .gt 7, 3) := by decide +kernel
theorem dX2_isFigure_12 : decode cX2_isFigure 12 = .ok (.iconst 1, 1) := by decide +kernel
theorem dX2_isFigure_13 : decode cX2_isFigure 13 = .ok (.goto 4, 3) := by decide +kernel
theorem dX2_isFigure_16 : decode cX2_isFigure 16 = .ok (.iconst 0, 1) := by decide +kernel
theorem dX2_isFigure_17 : decode cX2_isFigure 17 = .ok (.ireturn, 1) := by decide +kernel
theorem dX3_init_0 : decode cX3_init 0 = .ok (.aload_n 0, 1) := by decide +kernel
theorem dX3_init_1 : decode cX3_init 1 = .ok (.invokespecial 5, 3) := by decide +kernel
theorem dX3_init_4 : decode cX3_init 4 = .ok (.aload_n 0, 1) := by decide +kernel
theorem dX3_init_5 : decode cX3_init 5 = .ok (.new 11, 3) := by decide +kernel
theorem dX3_init_8 : decode cX3_init 8 = .ok (.dup, 1) := by decide +kernel
theorem dX3_init_9 : decode cX3_init 9 = .ok (.invokespecial 13, 3) := by decide +kernel
theorem dX3_init_12 : decode cX3_init 12 = .ok (.putfield 14, 3) := by decide +kernel
theorem dX3_init_15 : decode cX3_init 15 = .ok (.aload_n 0, 1) := by decide +kernel
theorem dX3_init_16 : decode cX3_init 16 = .ok (.bipush 20, 2) := by decide +kernel
theorem dX3_init_18 : decode cX3_init 18 = .ok (.newarray .int, 2) := by decide +kernel
theorem dX3_init_20 : decode cX3_init 20 = .ok (.putfield 18, 3) := by decide +kernel
theorem dX3_init_23 : decode cX3_init 23 = .ok (.aload_n 0, 1) := by decide +kernel
theorem dX3_init_24 : decode cX3_init 24 = .ok (.iconst 0, 1) := by decide +kernel
theorem dX3_init_25 : decode cX3_init 25 = .ok (.putfield 22, 3) := by decide +kernel
theorem dX3_init_28 : decode cX3_init 28 = .ok (.aload_n 0, 1) := by decide +kernel
theorem dX3_init_29 : decode cX3_init 29 = .ok (.bipush 18, 2) := by decide +kernel
theorem dX3_init_31 : decode cX3_init 31 = .ok (.newarray .int, 2) := by decide +kernel
theorem dX3_init_33 : decode cX3_init 33 = .ok (.putfield 26, 3) := by decide +kernel
theorem dX3_init_36 : decode cX3_init 36 = .ok (.aload_n 0, 1) := by decide +kernel
theorem dX3_init_37 : decode cX3_init 37 = .ok (.iconst 0, 1) := by decide +kernel
theorem dX3_init_38 : decode cX3_init 38 = .ok (.putfield 29, 3) := by decide +kernel
theorem dX3_init_41 : decode cX3_init 41 = .ok (.aload_n 0, 1) := by decide +kernel
theorem dX3_init_42 : decode cX3_init 42 = .ok (.sipush 232, 3) := by decide +kernel
theorem dX3_init_45 : decode cX3_init 45 = .ok (.newarray .int, 2) := by decide +kernel
theorem dX3_init_47 : decode cX3_init 47 = .ok (.putfield 32, 3) := by decide +kernel
theorem dX3_init_50 : decode cX3_init 50 = .ok (.aload_n 0, 1) := by decide +kernel
theorem dX3_init_51 : decode cX3_init 51 = .ok (.iconst 0, 1) := by decide +kernel
theorem dX3_init_52 : decode cX3_init 52 = .ok (.putfield 35, 3) := by decide +kernel
theorem dX3_init_55 : decode cX3_init 55 = .ok (.aload_n 0, 1) := by decide +kernel
theorem dX3_init_56 : decode cX3_init 56 = .ok (.iconst 0, 1) := by decide +kernel
theorem dX3_init_57 : decode cX3_init 57 = .ok (.putfield 38, 3) := by decide +kernel
theorem dX3_init_60 : decode cX3_init 60 = .ok (.aload_n 0, 1) := by decide +kernel
theorem dX3_init_61 : decode cX3_init 61 = .ok (.iconst 0, 1) := by decide +kernel
theorem dX3_init_62 : decode cX3_init 62 = .ok (.putfield 41, 3) := by decide +kernel
theorem dX3_init_65 : decode cX3_init 65 = .ok (.return_, 1) := by decide +kernel
theorem dX3_restart_0 : decode cX3_restart 0 = .ok (.aload_n 0, 1) := by decide +kernel
theorem dX3_restart_1 : decode cX3_restart 1 = .ok (.getfield 14, 3) := by decide +kernel
theorem dX3_restart_4 : decode cX3_restart 4 = .ok (.iload_n 1, 1) := by decide +kernel
theorem dX3_restart_5 : decode cX3_restart 5 = .ok (.invokevirtual 45, 3) := by decide +kernel
theorem dX3_restart_8 : decode cX3_restart 8 = .ok (.aload_n 0, 1) := by decide +kernel
theorem dX3_restart_9 : decode cX3_restart 9 = .ok (.iconst 0, 1) := by decide +kernel
theorem dX3_restart_10 : decode cX3_restart 10 = .ok (.putfield 22, 3) := by decide +kernel
theorem dX3_restart_13 : decode cX3_restart 13 = .ok (.aload_n 0, 1) := by decide +kernel
theorem dX3_restart_14 : decode cX3_restart 14 = .ok (.iconst 0, 1) := by decide +kernel
theorem dX3_restart_15 : decode cX3_restart 15 = .ok (.putfield 29, 3) := by decide +kernel
theorem dX3_restart_18 : decode cX3_restart 18 = .ok (.aload_n 0, 1) := by decide +kernel
theorem dX3_restart_19 : decode cX3_restart 19 = .ok (.iconst 0, 1) := by decide +kernel
theorem dX3_restart_20 : decode cX3_restart 20 = .ok (.putfield 38, 3) := by decide +kernel
theorem dX3_restart_23 : decode cX3_restart 23 = .ok (.return_, 1) := by decide +kernel
theorem dX3_copyFrom_0 : decode cX3_copyFrom 0 = .ok (.aload_n 0, 1) := by decide +kernel
theorem dX3_copyFrom_1 : decode cX3_copyFrom 1 = .ok (.getfield 14, 3) := by decide +kernel
theorem dX3_copyFrom_4 : decode cX3_copyFrom 4 = .ok (.aload_n 1, 1) := by decide +kernel
theorem dX3_copyFrom_5 : decode cX3_copyFrom 5 = .ok (.getfield 14, 3) := by decide +kernel
theorem dX3_copyFrom_8 : decode cX3_copyFrom 8 = .ok (.invokevirtual 49, 3) := by decide +kernel
theorem dX3_copyFrom_11 : decode cX3_copyFrom 11 = .ok (.aload_n 1, 1) := by decide +kernel
theorem dX3_copyFrom_12 : decode cX3_copyFrom 12 = .ok (.getfield 18, 3) := by decide +kernel
theorem dX3_copyFrom_15 : decode cX3_copyFrom 15 = .ok (.iconst 0, 1) := by decide +kernel
theorem dX3_copyFrom_16 : decode cX3_copyFrom 16 = .ok (.aload_n 0, 1) := by decide +kernel
theorem dX3_copyFrom_17 : decode cX3_copyFrom 17 = .ok (.getfield 18, 3) := by decide +kernel
theorem dX3_copyFrom_20 : decode cX3_copyFrom 20 = .ok (.iconst 0, 1) := by decide +kernel
theorem dX3_copyFrom_21 : decode cX3_copyFrom 21 = .ok (.bipush 20, 2) := by decide +kernel
theorem dX3_copyFrom_23 : decode cX3_copyFrom 23 = .ok (.invokestatic 53, 3) := by decide +kernel
theorem dX3_copyFrom_26 : decode cX3_copyFrom 26 = .ok (.aload_n 0, 1) := by decide +kernel
theorem dX3_copyFrom_27 : decode cX3_copyFrom 27 = .ok (.aload_n 1, 1) := by decide +kernel
theorem dX3_copyFrom_28 : decode cX3_copyFrom 28 = .ok (.getfield 22, 3) := by decide +kernel
theorem dX3_copyFrom_31 : decode cX3_copyFrom 31 = .ok (.putfield 22, 3) := by decide +kernel
theorem dX3_copyFrom_34 : decode cX3_copyFrom 34 = .ok (.aload_n 1, 1) := by decide +kernel
theorem dX3_copyFrom_35 : decode cX3_copyFrom 35 = .ok (.getfield 26, 3) := by decide +kernel
theorem dX3_copyFrom_38 : decode cX3_copyFrom 38 = .ok (.iconst 0, 1) := by decide +kernel
theorem dX3_copyFrom_39 : decode cX3_copyFrom 39 = .ok (.aload_n 0, 1) := by decide +kernel
theorem dX3_copyFrom_40 : decode cX3_copyFrom 40 = .ok (.getfield 26, 3) := by decide +kernel
theorem dX3_copyFrom_43 : decode cX3_copyFrom 43 = .ok (.iconst 0, 1) := by decide +kernel
theorem dX3_copyFrom_44 : decode cX3_copyFrom 44 = .ok (.bipush 18, 2) := by decide +kernel
theorem dX3_copyFrom_46 : decode cX3_copyFrom 46 = .ok (.invokestatic 53, 3) := by decide +kernel
theorem dX3_copyFrom_49 : decode cX3_copyFrom 49 = .ok (.aload_n 0, 1) := by decide +kernel
theorem dX3_copyFrom_50 : decode cX3_copyFrom 50 = .ok (.aload_n 1, 1) := by decide +kernel
theorem dX3_copyFrom_51 : decode cX3_copyFrom 51 = .ok (.getfield 29, 3) := by decide +kernel
theorem dX3_copyFrom_54 : decode cX3_copyFrom 54 = .ok (.putfield 29, 3) := by decide +kernel
theorem dX3_copyFrom_57 : decode cX3_copyFrom 57 = .ok (.aload_n 1, 1) := by decide +kernel
theorem dX3_copyFrom_58 : decode cX3_copyFrom 58 = .ok (.getfield 32, 3) := by decide +kernel
theorem dX3_copyFrom_61 : decode cX3_copyFrom 61 = .ok (.iconst 0, 1) := by decide +kernel
theorem dX3_copyFrom_62 : decode cX3_copyFrom 62 = .ok (.aload_n 0, 1) := by decide +kernel
theorem dX3_copyFrom_63 : decode cX3_copyFrom 63 = .ok (.getfield 32, 3) := by decide +kernel
theorem dX3_copyFrom_66 : decode cX3_copyFrom 66 = .ok (.iconst 0, 1) := by decide +kernel
theorem dX3_copyFrom_67 : decode cX3_copyFrom 67 = .ok (.sipush 232, 3) := by decide +kernel
theorem dX3_copyFrom_70 : decode cX3_copyFrom 70 = .ok (.invokestatic 53, 3) := by decide +kernel
theorem dX3_copyFrom_73 : decode cX3_copyFrom 73 = .ok (.aload_n 0, 1) := by decide +kernel
theorem dX3_copyFrom_74 : decode cX3_copyFrom 74 = .ok (.aload_n 1, 1) := by decide +kernel
theorem dX3_copyFrom_75 : decode cX3_copyFrom 75 = .ok (.getfield 35, 3) := by decide +kernel
theorem dX3_copyFrom_78 : decode cX3_copyFrom 78 = .ok (.putfield 35, 3) := by decide +kernel
theorem dX3_copyFrom_81 : decode cX3_copyFrom 81 = .ok (.aload_n 0, 1) := by decide +kernel
theorem dX3_copyFrom_82 : decode cX3_copyFrom 82 = .ok (.aload_n 1, 1) := by decide +kernel
theorem dX3_copyFrom_83 : decode cX3_copyFrom 83 = .ok (.getfield 38, 3) := by decide +kernel
theorem dX3_copyFrom_86 : decode cX3_copyFrom 86 = .ok (.putfield 38, 3) := by decide +kernel
theorem dX3_copyFrom_89 : decode cX3_copyFrom 89 = .ok (.return_, 1) := by decide +kernel
theorem dX3_keepForUndo_0 : decode cX3_keepForUndo 0 = .ok (.aload_n 0, 1) := by decide +kernel
theorem dX3_keepForUndo_1 : decode cX3_keepForUndo 1 = .ok (.getfield 35, 3) := by decide +kernel
theorem dX3_keepForUndo_4 : decode cX3_keepForUndo 4 = .ok (.bipush 29, 2) := by decide +kernel
theorem dX3_keepForUndo_6 : decode cX3_keepForUndo 6 = .ok (.imul, 1) := by decide +kernel
theorem dX3_keepForUndo_7 : decode cX3_keepForUndo 7 = .ok (.istore_n 1, 1) := by decide +kernel
theorem dX3_keepForUndo_8 : decode cX3_keepForUndo 8 = .ok (.aload_n 0, 1) := by decide +kernel
theorem dX3_keepForUndo_9 : decode cX3_keepForUndo 9 = .ok (.getfield 14, 3) := by decide +kernel
theorem dX3_keepForUndo_12 : decode cX3_keepForUndo 12 = .ok (.getfield 59, 3) := by decide +kernel
theorem dX3_keepForUndo_15 : decode cX3_keepForUndo 15 = .ok (.iconst 0, 1) := by decide +kernel
theorem dX3_keepForUndo_16 : decode cX3_keepForUndo 16 = .ok (.aload_n 0, 1) := by decide +kernel
theorem dX3_keepForUndo_17 : decode cX3_keepForUndo 17 = .ok (.getfield 32, 3) := by decide +kernel
theorem dX3_keepForUndo_20 : decode cX3_keepForUndo 20 = .ok (.iload_n 1, 1) := by decide +kernel
theorem dX3_keepForUndo_21 : decode cX3_keepForUndo 21 = .ok (.bipush 7, 2) := by decide +kernel
theorem dX3_keepForUndo_23 : decode cX3_keepForUndo 23 = .ok (.invokestatic 53, 3) := by decide +kernel
theorem dX3_keepForUndo_26 : decode cX3_keepForUndo 26 = .ok (.aload_n 0, 1) := by decide +kernel
theorem dX3_keepForUndo_27 : decode cX3_keepForUndo 27 = .ok (.getfield 14, 3) := by decide +kernel
theorem dX3_keepForUndo_30 : decode cX3_keepForUndo 30 = .ok (.getfield 62, 3) := by decide +kernel
theorem dX3_keepForUndo_33 : decode cX3_keepForUndo 33 = .ok (.iconst 0, 1) := by decide +kernel
theorem dX3_keepForUndo_34 : decode cX3_keepForUndo 34 = .ok (.aload_n 0, 1) := by decide +kernel
theorem dX3_keepForUndo_35 : decode cX3_keepForUndo 35 = .ok (.getfield 32, 3) := by decide +kernel
theorem dX3_keepForUndo_38 : decode cX3_keepForUndo 38 = .ok (.iload_n 1, 1) := by decide +kernel
theorem dX3_keepForUndo_39 : decode cX3_keepForUndo 39 = .ok (.bipush 7, 2) := by decide +kernel
theorem dX3_keepForUndo_41 : decode cX3_keepForUndo 41 = .ok (.iadd, 1) := by decide +kernel
theorem dX3_keepForUndo_42 : decode cX3_keepForUndo 42 = .ok (.bipush 20, 2) := by decide +kernel
theorem dX3_keepForUndo_44 : decode cX3_keepForUndo 44 = .ok (.invokestatic 53, 3) := by decide +kernel
theorem dX3_keepForUndo_47 : decode cX3_keepForUndo 47 = .ok (.aload_n 0, 1) := by decide +kernel
theorem dX3_keepForUndo_48 : decode cX3_keepForUndo 48 = .ok (.getfield 32, 3) := by decide +kernel
theorem dX3_keepForUndo_51 : decode cX3_keepForUndo 51 = .ok (.iload_n 1, 1) := by decide +kernel
theorem dX3_keepForUndo_52 : decode cX3_keepForUndo 52 = .ok (.bipush 27, 2) := by decide +kernel
theorem dX3_keepForUndo_54 : decode cX3_keepForUndo 54 = .ok (.iadd, 1) := by decide +kernel
theorem dX3_keepForUndo_55 : decode cX3_keepForUndo 55 = .ok (.aload_n 0, 1) := by decide +kernel
theorem dX3_keepForUndo_56 : decode cX3_keepForUndo 56 = .ok (.getfield 14, 3) := by decide +kernel
theorem dX3_keepForUndo_59 : decode cX3_keepForUndo 59 = .ok (.getfield 65, 3) := by decide +kernel
theorem dX3_keepForUndo_62 : decode cX3_keepForUndo 62 = .ok (.iastore, 1) := by decide +kernel
theorem dX3_keepForUndo_63 : decode cX3_keepForUndo 63 = .ok (.aload_n 0, 1) := by decide +kernel
theorem dX3_keepForUndo_64 : decode cX3_keepForUndo 64 = .ok (.getfield 32, 3) := by decide +kernel
theorem dX3_keepForUndo_67 : decode cX3_keepForUndo 67 = .ok (.iload_n 1, 1) := by decide +kernel
theorem dX3_keepForUndo_68 : decode cX3_keepForUndo 68 = .ok (.bipush 28, 2) := by decide +kernel
theorem dX3_keepForUndo_70 : decode cX3_keepForUndo 70 = .ok (.iadd, 1) := by decide +kernel
theorem dX3_keepForUndo_71 : decode cX3_keepForUndo 71 = .ok (.aload_n 0, 1) := by decide +kernel
theorem dX3_keepForUndo_72 : decode cX3_keepForUndo 72 = .ok (.getfield 14, 3) := by decide +kernel
theorem dX3_keepForUndo_75 : decode cX3_keepForUndo 75 = .ok (.getfield 68, 3) := by decide +kernel
theorem dX3_keepForUndo_78 : decode cX3_keepForUndo 78 = .ok (.iastore, 1) := by decide +kernel
theorem dX3_keepForUndo_79 : decode cX3_keepForUndo 79 = .ok (.aload_n 0, 1) := by decide +kernel
theorem dX3_keepForUndo_80 : decode cX3_keepForUndo 80 = .ok (.aload_n 0, 1) := by decide +kernel
theorem dX3_keepForUndo_81 : decode cX3_keepForUndo 81 = .ok (.getfield 35, 3) := by decide +kernel
theorem dX3_keepForUndo_84 : decode cX3_keepForUndo 84 = .ok (.iconst 1, 1) := by decide +kernel
theorem dX3_keepForUndo_85 : decode cX3_keepForUndo 85 = .ok (.iadd, 1) := by decide +kernel
theorem dX3_keepForUndo_86 : decode cX3_keepForUndo 86 = .ok (.bipush 8, 2) := by decide +kernel
theorem dX3_keepForUndo_88 : decode cX3_keepForUndo 88 = .ok (.irem, 1) := by decide +kernel
theorem dX3_keepForUndo_89 : decode cX3_keepForUndo 89 = .ok (.putfield 35, 3) := by decide +kernel
theorem dX3_keepForUndo_92 : decode cX3_keepForUndo 92 = .ok (.aload_n 0, 1) := by decide +kernel
theorem dX3_keepForUndo_93 : decode cX3_keepForUndo 93 = .ok (.bipush 8, 2) := by decide +kernel
theorem dX3_keepForUndo_95 : decode cX3_keepForUndo 95 = .ok (.aload_n 0, 1) := by decide +kernel
theorem dX3_keepForUndo_96 : decode cX3_keepForUndo 96 = .ok (.getfield 38, 3) := by decide +kernel
theorem dX3_keepForUndo_99 : decode cX3_keepForUndo 99 = .ok (.iconst 1, 1) := by decide +kernel
theorem dX3_keepForUndo_100 : decode cX3_keepForUndo 100 = .ok (.iadd, 1) := by decide +kernel
theorem dX3_keepForUndo_101 : decode cX3_keepForUndo 101 = .ok (.invokestatic 71, 3) := by decide +kernel
theorem dX3_keepForUndo_104 : decode cX3_keepForUndo 104 = .ok (.putfield 38, 3) := by decide +kernel
theorem dX3_keepForUndo_107 : decode cX3_keepForUndo 107 = .ok (.return_, 1) := by decide +kernel
theorem dX3_stepBack_0 : decode cX3_stepBack 0 = .ok (.aload_n 0, 1) := by decide +kernel
theorem dX3_stepBack_1 : decode cX3_stepBack 1 = .ok (.getfield 38, 3) := by decide +kernel
theorem dX3_stepBack_4 : decode cX3_stepBack 4 = .ok (.ifCond .le 108, 3) := by decide +kernel
theorem dX3_stepBack_7 : decode cX3_stepBack 7 = .ok (.aload_n 0, 1) := by decide +kernel
theorem dX3_stepBack_8 : decode cX3_stepBack 8 = .ok (.dup, 1) := by decide +kernel
theorem dX3_stepBack_9 : decode cX3_stepBack 9 = .ok (.getfield 38, 3) := by decide +kernel
theorem dX3_stepBack_12 : decode cX3_stepBack 12 = .ok (.iconst 1, 1) := by decide +kernel
theorem dX3_stepBack_13 : decode cX3_stepBack 13 = .ok (.isub, 1) := by decide +kernel
theorem dX3_stepBack_14 : decode cX3_stepBack 14 = .ok (.putfield 38, 3) := by decide +kernel
theorem dX3_stepBack_17 : decode cX3_stepBack 17 = .ok (.aload_n 0, 1) := by decide +kernel
theorem dX3_stepBack_18 : decode cX3_stepBack 18 = .ok (.aload_n 0, 1) := by decide +kernel
theorem dX3_stepBack_19 : decode cX3_stepBack 19 = .ok (.getfield 35, 3) := by decide +kernel
theorem dX3_stepBack_22 : decode cX3_stepBack 22 = .ok (.bipush 8, 2) := by decide +kernel
theorem dX3_stepBack_24 : decode cX3_stepBack 24 = .ok (.iadd, 1) := by decide +kernel
theorem dX3_stepBack_25 : decode cX3_stepBack 25 = .ok (.iconst 1, 1) := by decide +kernel
theorem dX3_stepBack_26 : decode cX3_stepBack 26 = .ok (.isub, 1) := by decide +kernel
theorem dX3_stepBack_27 : decode cX3_stepBack 27 = .ok (.bipush 8, 2) := by decide +kernel
theorem dX3_stepBack_29 : decode cX3_stepBack 29 = .ok (.irem, 1) := by decide +kernel
theorem dX3_stepBack_30 : decode cX3_stepBack 30 = .ok (.putfield 35, 3) := by decide +kernel
theorem dX3_stepBack_33 : decode cX3_stepBack 33 = .ok (.aload_n 0, 1) := by decide +kernel
theorem dX3_stepBack_34 : decode cX3_stepBack 34 = .ok (.getfield 35, 3) := by decide +kernel
theorem dX3_stepBack_37 : decode cX3_stepBack 37 = .ok (.bipush 29, 2) := by decide +kernel
theorem dX3_stepBack_39 : decode cX3_stepBack 39 = .ok (.imul, 1) := by decide +kernel
theorem dX3_stepBack_40 : decode cX3_stepBack 40 = .ok (.istore_n 1, 1) := by decide +kernel
theorem dX3_stepBack_41 : decode cX3_stepBack 41 = .ok (.aload_n 0, 1) := by decide +kernel
theorem dX3_stepBack_42 : decode cX3_stepBack 42 = .ok (.getfield 32, 3) := by decide +kernel
theorem dX3_stepBack_45 : decode cX3_stepBack 45 = .ok (.iload_n 1, 1) := by decide +kernel
theorem dX3_stepBack_46 : decode cX3_stepBack 46 = .ok (.aload_n 0, 1) := by decide +kernel
theorem dX3_stepBack_47 : decode cX3_stepBack 47 = .ok (.getfield 14, 3) := by decide +kernel
theorem dX3_stepBack_50 : decode cX3_stepBack 50 = .ok (.getfield 59, 3) := by decide +kernel
theorem dX3_stepBack_53 : decode cX3_stepBack 53 = .ok (.iconst 0, 1) := by decide +kernel
theorem dX3_stepBack_54 : decode cX3_stepBack 54 = .ok (.bipush 7, 2) := by decide +kernel
theorem dX3_stepBack_56 : decode cX3_stepBack 56 = .ok (.invokestatic 53, 3) := by decide +kernel
theorem dX3_stepBack_59 : decode cX3_stepBack 59 = .ok (.aload_n 0, 1) := by decide +kernel
theorem dX3_stepBack_60 : decode cX3_stepBack 60 = .ok (.getfield 32, 3) := by decide +kernel
theorem dX3_stepBack_63 : decode cX3_stepBack 63 = .ok (.iload_n 1, 1) := by decide +kernel
theorem dX3_stepBack_64 : decode cX3_stepBack 64 = .ok (.bipush 7, 2) := by decide +kernel
theorem dX3_stepBack_66 : decode cX3_stepBack 66 = .ok (.iadd, 1) := by decide +kernel
theorem dX3_stepBack_67 : decode cX3_stepBack 67 = .ok (.aload_n 0, 1) := by decide +kernel
theorem dX3_stepBack_68 : decode cX3_stepBack 68 = .ok (.getfield 14, 3) := by decide +kernel
theorem dX3_stepBack_71 : decode cX3_stepBack 71 = .ok (.getfield 62, 3) := by decide +kernel
theorem dX3_stepBack_74 : decode cX3_stepBack 74 = .ok (.iconst 0, 1) := by decide +kernel
theorem dX3_stepBack_75 : decode cX3_stepBack 75 = .ok (.bipush 20, 2) := by decide +kernel
theorem dX3_stepBack_77 : decode cX3_stepBack 77 = .ok (.invokestatic 53, 3) := by decide +kernel
theorem dX3_stepBack_80 : decode cX3_stepBack 80 = .ok (.aload_n 0, 1) := by decide +kernel
theorem dX3_stepBack_81 : decode cX3_stepBack 81 = .ok (.getfield 14, 3) := by decide +kernel
theorem dX3_stepBack_84 : decode cX3_stepBack 84 = .ok (.aload_n 0, 1) := by decide +kernel
theorem dX3_stepBack_85 : decode cX3_stepBack 85 = .ok (.getfield 32, 3) := by decide +kernel
theorem dX3_stepBack_88 : decode cX3_stepBack 88 = .ok (.iload_n 1, 1) := by decide +kernel
theorem dX3_stepBack_89 : decode cX3_stepBack 89 = .ok (.bipush 27, 2) := by decide +kernel
theorem dX3_stepBack_91 : decode cX3_stepBack 91 = .ok (.iadd, 1) := by decide +kernel
theorem dX3_stepBack_92 : decode cX3_stepBack 92 = .ok (.iaload, 1) := by decide +kernel
theorem dX3_stepBack_93 : decode cX3_stepBack 93 = .ok (.putfield 65, 3) := by decide +kernel
theorem dX3_stepBack_96 : decode cX3_stepBack 96 = .ok (.aload_n 0, 1) := by decide +kernel
theorem dX3_stepBack_97 : decode cX3_stepBack 97 = .ok (.getfield 14, 3) := by decide +kernel
theorem dX3_stepBack_100 : decode cX3_stepBack 100 = .ok (.aload_n 0, 1) := by decide +kernel
theorem dX3_stepBack_101 : decode cX3_stepBack 101 = .ok (.getfield 32, 3) := by decide +kernel
theorem dX3_stepBack_104 : decode cX3_stepBack 104 = .ok (.iload_n 1, 1) := by decide +kernel
theorem dX3_stepBack_105 : decode cX3_stepBack 105 = .ok (.bipush 28, 2) := by decide +kernel
theorem dX3_stepBack_107 : decode cX3_stepBack 107 = .ok (.iadd, 1) := by decide +kernel
theorem dX3_stepBack_108 : decode cX3_stepBack 108 = .ok (.iaload, 1) := by decide +kernel
theorem dX3_stepBack_109 : decode cX3_stepBack 109 = .ok (.putfield 68, 3) := by decide +kernel
theorem dX3_stepBack_112 : decode cX3_stepBack 112 = .ok (.return_, 1) := by decide +kernel
theorem dX3_addSeen_0 : decode cX3_addSeen 0 = .ok (.aload_n 0, 1) := by decide +kernel
theorem dX3_addSeen_1 : decode cX3_addSeen 1 = .ok (.getfield 22, 3) := by decide +kernel
theorem dX3_addSeen_4 : decode cX3_addSeen 4 = .ok (.iconst 5, 1) := by decide +kernel
theorem dX3_addSeen_5 : decode cX3_addSeen 5 = .ok (.if_icmp .ge 60, 3) := by decide +kernel
theorem dX3_addSeen_8 : decode cX3_addSeen 8 = .ok (.aload_n 0, 1) := by decide +kernel
theorem dX3_addSeen_9 : decode cX3_addSeen 9 = .ok (.getfield 22, 3) := by decide +kernel
theorem dX3_addSeen_12 : decode cX3_addSeen 12 = .ok (.iconst 4, 1) := by decide +kernel
theorem dX3_addSeen_13 : decode cX3_addSeen 13 = .ok (.imul, 1) := by decide +kernel
theorem dX3_addSeen_14 : decode cX3_addSeen 14 = .ok (.istore 5, 2) := by decide +kernel
theorem dX3_addSeen_16 : decode cX3_addSeen 16 = .ok (.aload_n 0, 1) := by decide +kernel
theorem dX3_addSeen_17 : decode cX3_addSeen 17 = .ok (.getfield 18, 3) := by decide +kernel
theorem dX3_addSeen_20 : decode cX3_addSeen 20 = .ok (.iload 5, 2) := by decide +kernel
theorem dX3_addSeen_22 : decode cX3_addSeen 22 = .ok (.iload_n 1, 1) := by decide +kernel
theorem dX3_addSeen_23 : decode cX3_addSeen 23 = .ok (.iastore, 1) := by decide +kernel
theorem dX3_addSeen_24 : decode cX3_addSeen 24 = .ok (.aload_n 0, 1) := by decide +kernel
theorem dX3_addSeen_25 : decode cX3_addSeen 25 = .ok (.getfield 18, 3) := by decide +kernel
theorem dX3_addSeen_28 : decode cX3_addSeen 28 = .ok (.iload 5, 2) := by decide +kernel
theorem dX3_addSeen_30 : decode cX3_addSeen 30 = .ok (.iconst 1, 1) := by decide +kernel
theorem dX3_addSeen_31 : decode cX3_addSeen 31 = .ok (.iadd, 1) := by decide +kernel
theorem dX3_addSeen_32 : decode cX3_addSeen 32 = .ok (.iload_n 2, 1) := by decide +kernel
theorem dX3_addSeen_33 : decode cX3_addSeen 33 = .ok (.iastore, 1) := by decide +kernel
theorem dX3_addSeen_34 : decode cX3_addSeen 34 = .ok (.aload_n 0, 1) := by decide +kernel
theorem dX3_addSeen_35 : decode cX3_addSeen 35 = .ok (.getfield 18, 3) := by decide +kernel
theorem dX3_addSeen_38 : decode cX3_addSeen 38 = .ok (.iload 5, 2) := by decide +kernel
theorem dX3_addSeen_40 : decode cX3_addSeen 40 = .ok (.iconst 2, 1) := by decide +kernel
theorem dX3_addSeen_41 : decode cX3_addSeen 41 = .ok (.iadd, 1) := by decide +kernel
theorem dX3_addSeen_42 : decode cX3_addSeen 42 = .ok (.iload_n 3, 1) := by decide +kernel
theorem dX3_addSeen_43 : decode cX3_addSeen 43 = .ok (.iastore, 1) := by decide +kernel
theorem dX3_addSeen_44 : decode cX3_addSeen 44 = .ok (.aload_n 0, 1) := by decide +kernel
theorem dX3_addSeen_45 : decode cX3_addSeen 45 = .ok (.getfield 18, 3) := by decide +kernel
theorem dX3_addSeen_48 : decode cX3_addSeen 48 = .ok (.iload 5, 2) := by decide +kernel
theorem dX3_addSeen_50 : decode cX3_addSeen 50 = .ok (.iconst 3, 1) := by decide +kernel
theorem dX3_addSeen_51 : decode cX3_addSeen 51 = .ok (.iadd, 1) := by decide +kernel
theorem dX3_addSeen_52 : decode cX3_addSeen 52 = .ok (.iload 4, 2) := by decide +kernel
theorem dX3_addSeen_54 : decode cX3_addSeen 54 = .ok (.iastore, 1) := by decide +kernel
theorem dX3_addSeen_55 : decode cX3_addSeen 55 = .ok (.aload_n 0, 1) := by decide +kernel
theorem dX3_addSeen_56 : decode cX3_addSeen 56 = .ok (.dup, 1) := by decide +kernel
theorem dX3_addSeen_57 : decode cX3_addSeen 57 = .ok (.getfield 22, 3) := by decide +kernel
theorem dX3_addSeen_60 : decode cX3_addSeen 60 = .ok (.iconst 1, 1) := by decide +kernel
theorem dX3_addSeen_61 : decode cX3_addSeen 61 = .ok (.iadd, 1) := by decide +kernel
theorem dX3_addSeen_62 : decode cX3_addSeen 62 = .ok (.putfield 22, 3) := by decide +kernel
theorem dX3_addSeen_65 : decode cX3_addSeen 65 = .ok (.return_, 1) := by decide +kernel
theorem dX3_addMark_0 : decode cX3_addMark 0 = .ok (.aload_n 0, 1) := by decide +kernel
theorem dX3_addMark_1 : decode cX3_addMark 1 = .ok (.getfield 29, 3) := by decide +kernel
theorem dX3_addMark_4 : decode cX3_addMark 4 = .ok (.bipush 6, 2) := by decide +kernel
theorem dX3_addMark_6 : decode cX3_addMark 6 = .ok (.if_icmp .ge 49, 3) := by decide +kernel
theorem dX3_addMark_9 : decode cX3_addMark 9 = .ok (.aload_n 0, 1) := by decide +kernel
theorem dX3_addMark_10 : decode cX3_addMark 10 = .ok (.getfield 29, 3) := by decide +kernel
theorem dX3_addMark_13 : decode cX3_addMark 13 = .ok (.iconst 3, 1) := by decide +kernel
theorem dX3_addMark_14 : decode cX3_addMark 14 = .ok (.imul, 1) := by decide +kernel
theorem dX3_addMark_15 : decode cX3_addMark 15 = .ok (.istore 4, 2) := by decide +kernel
theorem dX3_addMark_17 : decode cX3_addMark 17 = .ok (.aload_n 0, 1) := by decide +kernel
theorem dX3_addMark_18 : decode cX3_addMark 18 = .ok (.getfield 26, 3) := by decide +kernel
theorem dX3_addMark_21 : decode cX3_addMark 21 = .ok (.iload 4, 2) := by decide +kernel
theorem dX3_addMark_23 : decode cX3_addMark 23 = .ok (.iload_n 1, 1) := by decide +kernel
theorem dX3_addMark_24 : decode cX3_addMark 24 = .ok (.iastore, 1) := by decide +kernel
theorem dX3_addMark_25 : decode cX3_addMark 25 = .ok (.aload_n 0, 1) := by decide +kernel
theorem dX3_addMark_26 : decode cX3_addMark 26 = .ok (.getfield 26, 3) := by decide +kernel
theorem dX3_addMark_29 : decode cX3_addMark 29 = .ok (.iload 4, 2) := by decide +kernel
theorem dX3_addMark_31 : decode cX3_addMark 31 = .ok (.iconst 1, 1) := by decide +kernel
theorem dX3_addMark_32 : decode cX3_addMark 32 = .ok (.iadd, 1) := by decide +kernel
theorem dX3_addMark_33 : decode cX3_addMark 33 = .ok (.iload_n 2, 1) := by decide +kernel
theorem dX3_addMark_34 : decode cX3_addMark 34 = .ok (.iastore, 1) := by decide +kernel
theorem dX3_addMark_35 : decode cX3_addMark 35 = .ok (.aload_n 0, 1) := by decide +kernel
theorem dX3_addMark_36 : decode cX3_addMark 36 = .ok (.getfield 26, 3) := by decide +kernel
theorem dX3_addMark_39 : decode cX3_addMark 39 = .ok (.iload 4, 2) := by decide +kernel
theorem dX3_addMark_41 : decode cX3_addMark 41 = .ok (.iconst 2, 1) := by decide +kernel
theorem dX3_addMark_42 : decode cX3_addMark 42 = .ok (.iadd, 1) := by decide +kernel
theorem dX3_addMark_43 : decode cX3_addMark 43 = .ok (.iload_n 3, 1) := by decide +kernel
theorem dX3_addMark_44 : decode cX3_addMark 44 = .ok (.iastore, 1) := by decide +kernel
theorem dX3_addMark_45 : decode cX3_addMark 45 = .ok (.aload_n 0, 1) := by decide +kernel
theorem dX3_addMark_46 : decode cX3_addMark 46 = .ok (.dup, 1) := by decide +kernel
theorem dX3_addMark_47 : decode cX3_addMark 47 = .ok (.getfield 29, 3) := by decide +kernel
theorem dX3_addMark_50 : decode cX3_addMark 50 = .ok (.iconst 1, 1) := by decide +kernel
theorem dX3_addMark_51 : decode cX3_addMark 51 = .ok (.iadd, 1) := by decide +kernel
theorem dX3_addMark_52 : decode cX3_addMark 52 = .ok (.putfield 29, 3) := by decide +kernel
theorem dX3_addMark_55 : decode cX3_addMark 55 = .ok (.return_, 1) := by decide +kernel
theorem dX3_matterKindsOf_0 : decode cX3_matterKindsOf 0 = .ok (.iconst 0, 1) := by decide +kernel
theorem dX3_matterKindsOf_1 : decode cX3_matterKindsOf 1 = .ok (.istore_n 2, 1) := by decide +kernel
theorem dX3_matterKindsOf_2 : decode cX3_matterKindsOf 2 = .ok (.iconst 0, 1) := by decide +kernel
theorem dX3_matterKindsOf_3 : decode cX3_matterKindsOf 3 = .ok (.istore_n 3, 1) := by decide +kernel
theorem dX3_matterKindsOf_4 : decode cX3_matterKindsOf 4 = .ok (.iload_n 3, 1) := by decide +kernel
theorem dX3_matterKindsOf_5 : decode cX3_matterKindsOf 5 = .ok (.bipush 6, 2) := by decide +kernel
theorem dX3_matterKindsOf_7 : decode cX3_matterKindsOf 7 = .ok (.if_icmp .ge 24, 3) := by decide +kernel
theorem dX3_matterKindsOf_10 : decode cX3_matterKindsOf 10 = .ok (.aload_n 0, 1) := by decide +kernel
theorem dX3_matterKindsOf_11 : decode cX3_matterKindsOf 11 = .ok (.iload_n 3, 1) := by decide +kernel
theorem dX3_matterKindsOf_12 : decode cX3_matterKindsOf 12 = .ok (.iload_n 1, 1) := by decide +kernel
theorem dX3_matterKindsOf_13 : decode cX3_matterKindsOf 13 = .ok (.invokevirtual 77, 3) := by decide +kernel
theorem dX3_matterKindsOf_16 : decode cX3_matterKindsOf 16 = .ok (.ifCond .eq 9, 3) := by decide +kernel
theorem dX3_matterKindsOf_19 : decode cX3_matterKindsOf 19 = .ok (.iload_n 2, 1) := by decide +kernel
theorem dX3_matterKindsOf_20 : decode cX3_matterKindsOf 20 = .ok (.iconst 1, 1) := by decide +kernel
theorem dX3_matterKindsOf_21 : decode cX3_matterKindsOf 21 = .ok (.iload_n 3, 1) := by decide +kernel
theorem dX3_matterKindsOf_22 : decode cX3_matterKindsOf 22 = .ok (.ishl, 1) := by decide +kernel
theorem dX3_matterKindsOf_23 : decode cX3_matterKindsOf 23 = .ok (.ior, 1) := by decide +kernel
theorem dX3_matterKindsOf_24 : decode cX3_matterKindsOf 24 = .ok (.istore_n 2, 1) := by decide +kernel
theorem dX3_matterKindsOf_25 : decode cX3_matterKindsOf 25 = .ok (.iinc 3 1, 3) := by decide +kernel
theorem dX3_matterKindsOf_28 : decode cX3_matterKindsOf 28 = .ok (.goto (-24), 3) := by decide +kernel
theorem dX3_matterKindsOf_31 : decode cX3_matterKindsOf 31 = .ok (.iload_n 2, 1) := by decide +kernel
theorem dX3_matterKindsOf_32 : decode cX3_matterKindsOf 32 = .ok (.ireturn, 1) := by decide +kernel
theorem dX3_matterFits_0 : decode cX3_matterFits 0 = .ok (.iconst 0, 1) := by decide +kernel
theorem dX3_matterFits_1 : decode cX3_matterFits 1 = .ok (.istore_n 3, 1) := by decide +kernel
theorem dX3_matterFits_2 : decode cX3_matterFits 2 = .ok (.iload_n 3, 1) := by decide +kernel
theorem dX3_matterFits_3 : decode cX3_matterFits 3 = .ok (.aload_n 0, 1) := by decide +kernel
theorem dX3_matterFits_4 : decode cX3_matterFits 4 = .ok (.getfield 22, 3) := by decide +kernel
theorem dX3_matterFits_7 : decode cX3_matterFits 7 = .ok (.if_icmp .ge 79, 3) := by decide +kernel
theorem dX3_matterFits_10 : decode cX3_matterFits 10 = .ok (.iload_n 3, 1) := by decide +kernel
theorem dX3_matterFits_11 : decode cX3_matterFits 11 = .ok (.iconst 5, 1) := by decide +kernel
theorem dX3_matterFits_12 : decode cX3_matterFits 12 = .ok (.if_icmp .ge 74, 3) := by decide +kernel
theorem dX3_matterFits_15 : decode cX3_matterFits 15 = .ok (.iload_n 3, 1) := by decide +kernel
theorem dX3_matterFits_16 : decode cX3_matterFits 16 = .ok (.iconst 4, 1) := by decide +kernel
theorem dX3_matterFits_17 : decode cX3_matterFits 17 = .ok (.imul, 1) := by decide +kernel
theorem dX3_matterFits_18 : decode cX3_matterFits 18 = .ok (.istore 4, 2) := by decide +kernel
theorem dX3_matterFits_20 : decode cX3_matterFits 20 = .ok (.aload_n 0, 1) := by decide +kernel
theorem dX3_matterFits_21 : decode cX3_matterFits 21 = .ok (.getfield 18, 3) := by decide +kernel
theorem dX3_matterFits_24 : decode cX3_matterFits 24 = .ok (.iload 4, 2) := by decide +kernel
theorem dX3_matterFits_26 : decode cX3_matterFits 26 = .ok (.iconst 1, 1) := by decide +kernel
theorem dX3_matterFits_27 : decode cX3_matterFits 27 = .ok (.iadd, 1) := by decide +kernel
theorem dX3_matterFits_28 : decode cX3_matterFits 28 = .ok (.iaload, 1) := by decide +kernel
theorem dX3_matterFits_29 : decode cX3_matterFits 29 = .ok (.istore 5, 2) := by decide +kernel
theorem dX3_matterFits_31 : decode cX3_matterFits 31 = .ok (.aload_n 0, 1) := by decide +kernel
theorem dX3_matterFits_32 : decode cX3_matterFits 32 = .ok (.getfield 18, 3) := by decide +kernel
theorem dX3_matterFits_35 : decode cX3_matterFits 35 = .ok (.iload 4, 2) := by decide +kernel
theorem dX3_matterFits_37 : decode cX3_matterFits 37 = .ok (.iconst 2, 1) := by decide +kernel
theorem dX3_matterFits_38 : decode cX3_matterFits 38 = .ok (.iadd, 1) := by decide +kernel
theorem dX3_matterFits_39 : decode cX3_matterFits 39 = .ok (.iaload, 1) := by decide +kernel
theorem dX3_matterFits_40 : decode cX3_matterFits 40 = .ok (.istore 6, 2) := by decide +kernel
theorem dX3_matterFits_42 : decode cX3_matterFits 42 = .ok (.aload_n 0, 1) := by decide +kernel
theorem dX3_matterFits_43 : decode cX3_matterFits 43 = .ok (.getfield 18, 3) := by decide +kernel
theorem dX3_matterFits_46 : decode cX3_matterFits 46 = .ok (.iload 4, 2) := by decide +kernel
theorem dX3_matterFits_48 : decode cX3_matterFits 48 = .ok (.iaload, 1) := by decide +kernel
theorem dX3_matterFits_49 : decode cX3_matterFits 49 = .ok (.iload_n 2, 1) := by decide +kernel
theorem dX3_matterFits_50 : decode cX3_matterFits 50 = .ok (.if_icmp .ne 30, 3) := by decide +kernel
theorem dX3_matterFits_53 : decode cX3_matterFits 53 = .ok (.aload_n 0, 1) := by decide +kernel
theorem dX3_matterFits_54 : decode cX3_matterFits 54 = .ok (.getfield 18, 3) := by decide +kernel
theorem dX3_matterFits_57 : decode cX3_matterFits 57 = .ok (.iload 4, 2) := by decide +kernel
theorem dX3_matterFits_59 : decode cX3_matterFits 59 = .ok (.iconst 3, 1) := by decide +kernel
theorem dX3_matterFits_60 : decode cX3_matterFits 60 = .ok (.iadd, 1) := by decide +kernel
theorem dX3_matterFits_61 : decode cX3_matterFits 61 = .ok (.iaload, 1) := by decide +kernel
theorem dX3_matterFits_62 : decode cX3_matterFits 62 = .ok (.iload 6, 2) := by decide +kernel
theorem dX3_matterFits_64 : decode cX3_matterFits 64 = .ok (.iload_n 1, 1) := by decide +kernel
theorem dX3_matterFits_65 : decode cX3_matterFits 65 = .ok (.iload 6, 2) := by decide +kernel
theorem dX3_matterFits_67 : decode cX3_matterFits 67 = .ok (.iload 5, 2) := by decide +kernel
theorem dX3_matterFits_69 : decode cX3_matterFits 69 = .ok (.iconst 1, 1) := by decide +kernel
theorem dX3_matterFits_70 : decode cX3_matterFits 70 = .ok (.iadd, 1) := by decide +kernel
theorem dX3_matterFits_71 : decode cX3_matterFits 71 = .ok (.invokestatic 81, 3) := by decide +kernel
theorem dX3_matterFits_74 : decode cX3_matterFits 74 = .ok (.iadd, 1) := by decide +kernel
theorem dX3_matterFits_75 : decode cX3_matterFits 75 = .ok (.if_icmp .eq 5, 3) := by decide +kernel
theorem dX3_matterFits_78 : decode cX3_matterFits 78 = .ok (.iconst 0, 1) := by decide +kernel
theorem dX3_matterFits_79 : decode cX3_matterFits 79 = .ok (.ireturn, 1) := by decide +kernel
theorem dX3_matterFits_80 : decode cX3_matterFits 80 = .ok (.iinc 3 1, 3) := by decide +kernel
theorem dX3_matterFits_83 : decode cX3_matterFits 83 = .ok (.goto (-81), 3) := by decide +kernel
theorem dX3_matterFits_86 : decode cX3_matterFits 86 = .ok (.iconst 1, 1) := by decide +kernel
theorem dX3_matterFits_87 : decode cX3_matterFits 87 = .ok (.ireturn, 1) := by decide +kernel
theorem dX3_clerkKinds_0 : decode cX3_clerkKinds 0 = .ok (.iconst 0, 1) := by decide +kernel
theorem dX3_clerkKinds_1 : decode cX3_clerkKinds 1 = .ok (.istore_n 1, 1) := by decide +kernel
theorem dX3_clerkKinds_2 : decode cX3_clerkKinds 2 = .ok (.iconst 0, 1) := by decide +kernel
theorem dX3_clerkKinds_3 : decode cX3_clerkKinds 3 = .ok (.istore_n 2, 1) := by decide +kernel
theorem dX3_clerkKinds_4 : decode cX3_clerkKinds 4 = .ok (.iload_n 2, 1) := by decide +kernel
theorem dX3_clerkKinds_5 : decode cX3_clerkKinds 5 = .ok (.bipush 6, 2) := by decide +kernel
theorem dX3_clerkKinds_7 : decode cX3_clerkKinds 7 = .ok (.if_icmp .ge 23, 3) := by decide +kernel
theorem dX3_clerkKinds_10 : decode cX3_clerkKinds 10 = .ok (.aload_n 0, 1) := by decide +kernel
theorem dX3_clerkKinds_11 : decode cX3_clerkKinds 11 = .ok (.iload_n 2, 1) := by decide +kernel
theorem dX3_clerkKinds_12 : decode cX3_clerkKinds 12 = .ok (.invokevirtual 85, 3) := by decide +kernel
theorem dX3_clerkKinds_15 : decode cX3_clerkKinds 15 = .ok (.ifCond .eq 9, 3) := by decide +kernel
theorem dX3_clerkKinds_18 : decode cX3_clerkKinds 18 = .ok (.iload_n 1, 1) := by decide +kernel
theorem dX3_clerkKinds_19 : decode cX3_clerkKinds 19 = .ok (.iconst 1, 1) := by decide +kernel
theorem dX3_clerkKinds_20 : decode cX3_clerkKinds 20 = .ok (.iload_n 2, 1) := by decide +kernel
theorem dX3_clerkKinds_21 : decode cX3_clerkKinds 21 = .ok (.ishl, 1) := by decide +kernel
theorem dX3_clerkKinds_22 : decode cX3_clerkKinds 22 = .ok (.ior, 1) := by decide +kernel
theorem dX3_clerkKinds_23 : decode cX3_clerkKinds 23 = .ok (.istore_n 1, 1) := by decide +kernel
theorem dX3_clerkKinds_24 : decode cX3_clerkKinds 24 = .ok (.iinc 2 1, 3) := by decide +kernel
theorem dX3_clerkKinds_27 : decode cX3_clerkKinds 27 = .ok (.goto (-23), 3) := by decide +kernel
theorem dX3_clerkKinds_30 : decode cX3_clerkKinds 30 = .ok (.iload_n 1, 1) := by decide +kernel
theorem dX3_clerkKinds_31 : decode cX3_clerkKinds 31 = .ok (.ireturn, 1) := by decide +kernel
theorem dX3_clerkFits_0 : decode cX3_clerkFits 0 = .ok (.iconst 0, 1) := by decide +kernel
theorem dX3_clerkFits_1 : decode cX3_clerkFits 1 = .ok (.istore_n 2, 1) := by decide +kernel
theorem dX3_clerkFits_2 : decode cX3_clerkFits 2 = .ok (.iload_n 2, 1) := by decide +kernel
theorem dX3_clerkFits_3 : decode cX3_clerkFits 3 = .ok (.aload_n 0, 1) := by decide +kernel
theorem dX3_clerkFits_4 : decode cX3_clerkFits 4 = .ok (.getfield 29, 3) := by decide +kernel
theorem dX3_clerkFits_7 : decode cX3_clerkFits 7 = .ok (.if_icmp .ge 50, 3) := by decide +kernel
theorem dX3_clerkFits_10 : decode cX3_clerkFits 10 = .ok (.iload_n 2, 1) := by decide +kernel
theorem dX3_clerkFits_11 : decode cX3_clerkFits 11 = .ok (.bipush 6, 2) := by decide +kernel
theorem dX3_clerkFits_13 : decode cX3_clerkFits 13 = .ok (.if_icmp .ge 44, 3) := by decide +kernel
theorem dX3_clerkFits_16 : decode cX3_clerkFits 16 = .ok (.iload_n 2, 1) := by decide +kernel
theorem dX3_clerkFits_17 : decode cX3_clerkFits 17 = .ok (.iconst 3, 1) := by decide +kernel
theorem dX3_clerkFits_18 : decode cX3_clerkFits 18 = .ok (.imul, 1) := by decide +kernel
theorem dX3_clerkFits_19 : decode cX3_clerkFits 19 = .ok (.istore_n 3, 1) := by decide +kernel
theorem dX3_clerkFits_20 : decode cX3_clerkFits 20 = .ok (.aload_n 0, 1) := by decide +kernel
theorem dX3_clerkFits_21 : decode cX3_clerkFits 21 = .ok (.getfield 26, 3) := by decide +kernel
theorem dX3_clerkFits_24 : decode cX3_clerkFits 24 = .ok (.iload_n 3, 1) := by decide +kernel
theorem dX3_clerkFits_25 : decode cX3_clerkFits 25 = .ok (.iconst 2, 1) := by decide +kernel
theorem dX3_clerkFits_26 : decode cX3_clerkFits 26 = .ok (.iadd, 1) := by decide +kernel
theorem dX3_clerkFits_27 : decode cX3_clerkFits 27 = .ok (.iaload, 1) := by decide +kernel
theorem dX3_clerkFits_28 : decode cX3_clerkFits 28 = .ok (.iload_n 1, 1) := by decide +kernel
theorem dX3_clerkFits_29 : decode cX3_clerkFits 29 = .ok (.aload_n 0, 1) := by decide +kernel
theorem dX3_clerkFits_30 : decode cX3_clerkFits 30 = .ok (.getfield 26, 3) := by decide +kernel
theorem dX3_clerkFits_33 : decode cX3_clerkFits 33 = .ok (.iload_n 3, 1) := by decide +kernel
theorem dX3_clerkFits_34 : decode cX3_clerkFits 34 = .ok (.iconst 1, 1) := by decide +kernel
theorem dX3_clerkFits_35 : decode cX3_clerkFits 35 = .ok (.iadd, 1) := by decide +kernel
theorem dX3_clerkFits_36 : decode cX3_clerkFits 36 = .ok (.iaload, 1) := by decide +kernel
theorem dX3_clerkFits_37 : decode cX3_clerkFits 37 = .ok (.aload_n 0, 1) := by decide +kernel
theorem dX3_clerkFits_38 : decode cX3_clerkFits 38 = .ok (.getfield 26, 3) := by decide +kernel
theorem dX3_clerkFits_41 : decode cX3_clerkFits 41 = .ok (.iload_n 3, 1) := by decide +kernel
theorem dX3_clerkFits_42 : decode cX3_clerkFits 42 = .ok (.iaload, 1) := by decide +kernel
theorem dX3_clerkFits_43 : decode cX3_clerkFits 43 = .ok (.invokestatic 89, 3) := by decide +kernel
theorem dX3_clerkFits_46 : decode cX3_clerkFits 46 = .ok (.if_icmp .eq 5, 3) := by decide +kernel
theorem dX3_clerkFits_49 : decode cX3_clerkFits 49 = .ok (.iconst 0, 1) := by decide +kernel
theorem dX3_clerkFits_50 : decode cX3_clerkFits 50 = .ok (.ireturn, 1) := by decide +kernel
theorem dX3_clerkFits_51 : decode cX3_clerkFits 51 = .ok (.iinc 2 1, 3) := by decide +kernel
theorem dX3_clerkFits_54 : decode cX3_clerkFits 54 = .ok (.goto (-52), 3) := by decide +kernel
theorem dX3_clerkFits_57 : decode cX3_clerkFits 57 = .ok (.iconst 1, 1) := by decide +kernel
theorem dX3_clerkFits_58 : decode cX3_clerkFits 58 = .ok (.ireturn, 1) := by decide +kernel
theorem dX4_init_0 : decode cX4_init 0 = .ok (.aload_n 0, 1) := by decide +kernel
theorem dX4_init_1 : decode cX4_init 1 = .ok (.invokespecial 1, 3) := by decide +kernel
theorem dX4_init_4 : decode cX4_init 4 = .ok (.aload_n 0, 1) := by decide +kernel
theorem dX4_init_5 : decode cX4_init 5 = .ok (.new 7, 3) := by decide +kernel
theorem dX4_init_8 : decode cX4_init 8 = .ok (.dup, 1) := by decide +kernel
theorem dX4_init_9 : decode cX4_init 9 = .ok (.invokespecial 9, 3) := by decide +kernel
theorem dX4_init_12 : decode cX4_init 12 = .ok (.putfield 10, 3) := by decide +kernel
theorem dX4_init_15 : decode cX4_init 15 = .ok (.aload_n 0, 1) := by decide +kernel
theorem dX4_init_16 : decode cX4_init 16 = .ok (.new 7, 3) := by decide +kernel
theorem dX4_init_19 : decode cX4_init 19 = .ok (.dup, 1) := by decide +kernel
theorem dX4_init_20 : decode cX4_init 20 = .ok (.invokespecial 9, 3) := by decide +kernel
theorem dX4_init_23 : decode cX4_init 23 = .ok (.putfield 16, 3) := by decide +kernel
theorem dX4_init_26 : decode cX4_init 26 = .ok (.aload_n 0, 1) := by decide +kernel
theorem dX4_init_27 : decode cX4_init 27 = .ok (.new 7, 3) := by decide +kernel
theorem dX4_init_30 : decode cX4_init 30 = .ok (.dup, 1) := by decide +kernel
theorem dX4_init_31 : decode cX4_init 31 = .ok (.invokespecial 9, 3) := by decide +kernel
theorem dX4_init_34 : decode cX4_init 34 = .ok (.putfield 19, 3) := by decide +kernel
theorem dX4_init_37 : decode cX4_init 37 = .ok (.aload_n 0, 1) := by decide +kernel
theorem dX4_init_38 : decode cX4_init 38 = .ok (.new 22, 3) := by decide +kernel
theorem dX4_init_41 : decode cX4_init 41 = .ok (.dup, 1) := by decide +kernel
theorem dX4_init_42 : decode cX4_init 42 = .ok (.invokespecial 24, 3) := by decide +kernel
theorem dX4_init_45 : decode cX4_init 45 = .ok (.putfield 25, 3) := by decide +kernel
theorem dX4_init_48 : decode cX4_init 48 = .ok (.aload_n 0, 1) := by decide +kernel
theorem dX4_init_49 : decode cX4_init 49 = .ok (.new 29, 3) := by decide +kernel
theorem dX4_init_52 : decode cX4_init 52 = .ok (.dup, 1) := by decide +kernel
theorem dX4_init_53 : decode cX4_init 53 = .ok (.invokespecial 31, 3) := by decide +kernel
theorem dX4_init_56 : decode cX4_init 56 = .ok (.putfield 32, 3) := by decide +kernel
theorem dX4_init_59 : decode cX4_init 59 = .ok (.aload_n 0, 1) := by decide +kernel
theorem dX4_init_60 : decode cX4_init 60 = .ok (.bipush 6, 2) := by decide +kernel
theorem dX4_init_62 : decode cX4_init 62 = .ok (.newarray .int, 2) := by decide +kernel
theorem dX4_init_64 : decode cX4_init 64 = .ok (.putfield 36, 3) := by decide +kernel
theorem dX4_init_67 : decode cX4_init 67 = .ok (.aload_n 0, 1) := by decide +kernel
theorem dX4_init_68 : decode cX4_init 68 = .ok (.bipush 64, 2) := by decide +kernel
theorem dX4_init_70 : decode cX4_init 70 = .ok (.newarray .int, 2) := by decide +kernel
theorem dX4_init_72 : decode cX4_init 72 = .ok (.putfield 40, 3) := by decide +kernel
theorem dX4_init_75 : decode cX4_init 75 = .ok (.aload_n 0, 1) := by decide +kernel
theorem dX4_init_76 : decode cX4_init 76 = .ok (.lconst 0, 1) := by decide +kernel
theorem dX4_init_77 : decode cX4_init 77 = .ok (.putfield 43, 3) := by decide +kernel
theorem dX4_init_80 : decode cX4_init 80 = .ok (.aload_n 0, 1) := by decide +kernel
theorem dX4_init_81 : decode cX4_init 81 = .ok (.lconst 1, 1) := by decide +kernel
theorem dX4_init_82 : decode cX4_init 82 = .ok (.putfield 47, 3) := by decide +kernel
theorem dX4_init_85 : decode cX4_init 85 = .ok (.aload_n 0, 1) := by decide +kernel
theorem dX4_init_86 : decode cX4_init 86 = .ok (.iconst 0, 1) := by decide +kernel
theorem dX4_init_87 : decode cX4_init 87 = .ok (.putfield 50, 3) := by decide +kernel
theorem dX4_init_90 : decode cX4_init 90 = .ok (.aload_n 0, 1) := by decide +kernel
theorem dX4_init_91 : decode cX4_init 91 = .ok (.iconst 0, 1) := by decide +kernel
theorem dX4_init_92 : decode cX4_init 92 = .ok (.putfield 54, 3) := by decide +kernel
theorem dX4_init_95 : decode cX4_init 95 = .ok (.aload_n 0, 1) := by decide +kernel
theorem dX4_init_96 : decode cX4_init 96 = .ok (.iconst 0, 1) := by decide +kernel
theorem dX4_init_97 : decode cX4_init 97 = .ok (.putfield 57, 3) := by decide +kernel
theorem dX4_init_100 : decode cX4_init 100 = .ok (.return_, 1) := by decide +kernel
theorem dX4_island_0 : decode cX4_island 0 = .ok (.iload_n 1, 1) := by decide +kernel
theorem dX4_island_1 : decode cX4_island 1 = .ok (.invokestatic 60, 3) := by decide +kernel
theorem dX4_island_4 : decode cX4_island 4 = .ok (.ifCond .ne 10, 3) := by decide +kernel
theorem dX4_island_7 : decode cX4_island 7 = .ok (.aload_n 0, 1) := by decide +kernel
theorem dX4_island_8 : decode cX4_island 8 = .ok (.bipush (-2), 2) := by decide +kernel
theorem dX4_island_10 : decode cX4_island 10 = .ok (.invokevirtual 64, 3) := by decide +kernel
theorem dX4_island_13 : decode cX4_island 13 = .ok (.ireturn, 1) := by decide +kernel
theorem dX4_island_14 : decode cX4_island 14 = .ok (.aload_n 0, 1) := by decide +kernel
theorem dX4_island_15 : decode cX4_island 15 = .ok (.getfield 10, 3) := by decide +kernel
theorem dX4_island_18 : decode cX4_island 18 = .ok (.getfield 68, 3) := by decide +kernel
theorem dX4_island_21 : decode cX4_island 21 = .ok (.getfield 72, 3) := by decide +kernel
theorem dX4_island_24 : decode cX4_island 24 = .ok (.istore_n 2, 1) := by decide +kernel
theorem dX4_island_25 : decode cX4_island 25 = .ok (.aload_n 0, 1) := by decide +kernel
theorem dX4_island_26 : decode cX4_island 26 = .ok (.getfield 10, 3) := by decide +kernel
theorem dX4_island_29 : decode cX4_island 29 = .ok (.iload_n 1, 1) := by decide +kernel
theorem dX4_island_30 : decode cX4_island 30 = .ok (.invokevirtual 77, 3) := by decide +kernel
theorem dX4_island_33 : decode cX4_island 33 = .ok (.iload_n 2, 1) := by decide +kernel
theorem dX4_island_34 : decode cX4_island 34 = .ok (.ireturn, 1) := by decide +kernel
theorem dX4_clerk_0 : decode cX4_clerk 0 = .ok (.iload_n 1, 1) := by decide +kernel
theorem dX4_clerk_1 : decode cX4_clerk 1 = .ok (.invokestatic 60, 3) := by decide +kernel
theorem dX4_clerk_4 : decode cX4_clerk 4 = .ok (.ifCond .ne 10, 3) := by decide +kernel
theorem dX4_clerk_7 : decode cX4_clerk 7 = .ok (.aload_n 0, 1) := by decide +kernel
theorem dX4_clerk_8 : decode cX4_clerk 8 = .ok (.bipush (-2), 2) := by decide +kernel
theorem dX4_clerk_10 : decode cX4_clerk 10 = .ok (.invokevirtual 64, 3) := by decide +kernel
theorem dX4_clerk_13 : decode cX4_clerk 13 = .ok (.ireturn, 1) := by decide +kernel
theorem dX4_clerk_14 : decode cX4_clerk 14 = .ok (.aload_n 0, 1) := by decide +kernel
theorem dX4_clerk_15 : decode cX4_clerk 15 = .ok (.getfield 10, 3) := by decide +kernel
theorem dX4_clerk_18 : decode cX4_clerk 18 = .ok (.getfield 68, 3) := by decide +kernel
theorem dX4_clerk_21 : decode cX4_clerk 21 = .ok (.getfield 81, 3) := by decide +kernel
theorem dX4_clerk_24 : decode cX4_clerk 24 = .ok (.istore_n 2, 1) := by decide +kernel
theorem dX4_clerk_25 : decode cX4_clerk 25 = .ok (.aload_n 0, 1) := by decide +kernel
theorem dX4_clerk_26 : decode cX4_clerk 26 = .ok (.getfield 10, 3) := by decide +kernel
theorem dX4_clerk_29 : decode cX4_clerk 29 = .ok (.getfield 68, 3) := by decide +kernel
theorem dX4_clerk_32 : decode cX4_clerk 32 = .ok (.iload_n 1, 1) := by decide +kernel
theorem dX4_clerk_33 : decode cX4_clerk 33 = .ok (.putfield 81, 3) := by decide +kernel
theorem dX4_clerk_36 : decode cX4_clerk 36 = .ok (.aload_n 0, 1) := by decide +kernel
theorem dX4_clerk_37 : decode cX4_clerk 37 = .ok (.getfield 10, 3) := by decide +kernel
theorem dX4_clerk_40 : decode cX4_clerk 40 = .ok (.iconst 0, 1) := by decide +kernel
theorem dX4_clerk_41 : decode cX4_clerk 41 = .ok (.putfield 84, 3) := by decide +kernel
theorem dX4_clerk_44 : decode cX4_clerk 44 = .ok (.iload_n 2, 1) := by decide +kernel
theorem dX4_clerk_45 : decode cX4_clerk 45 = .ok (.ireturn, 1) := by decide +kernel
theorem dX4_vines_0 : decode cX4_vines 0 = .ok (.iload_n 1, 1) := by decide +kernel
theorem dX4_vines_1 : decode cX4_vines 1 = .ok (.invokestatic 87, 3) := by decide +kernel
theorem dX4_vines_4 : decode cX4_vines 4 = .ok (.ifCond .eq 13, 3) := by decide +kernel
theorem dX4_vines_7 : decode cX4_vines 7 = .ok (.iload_n 2, 1) := by decide +kernel
theorem dX4_vines_8 : decode cX4_vines 8 = .ok (.iconst 0, 1) := by decide +kernel
theorem dX4_vines_9 : decode cX4_vines 9 = .ok (.bipush 9, 2) := by decide +kernel
theorem dX4_vines_11 : decode cX4_vines 11 = .ok (.invokestatic 90, 3) := by decide +kernel
theorem dX4_vines_14 : decode cX4_vines 14 = .ok (.ifCond .ne 10, 3) := by decide +kernel
theorem dX4_vines_17 : decode cX4_vines 17 = .ok (.aload_n 0, 1) := by decide +kernel
theorem dX4_vines_18 : decode cX4_vines 18 = .ok (.bipush (-2), 2) := by decide +kernel
theorem dX4_vines_20 : decode cX4_vines 20 = .ok (.invokevirtual 64, 3) := by decide +kernel
theorem dX4_vines_23 : decode cX4_vines 23 = .ok (.ireturn, 1) := by decide +kernel
theorem dX4_vines_24 : decode cX4_vines 24 = .ok (.aload_n 0, 1) := by decide +kernel
theorem dX4_vines_25 : decode cX4_vines 25 = .ok (.getfield 10, 3) := by decide +kernel
theorem dX4_vines_28 : decode cX4_vines 28 = .ok (.getfield 68, 3) := by decide +kernel
theorem dX4_vines_31 : decode cX4_vines 31 = .ok (.getfield 94, 3) := by decide +kernel
theorem dX4_vines_34 : decode cX4_vines 34 = .ok (.iload_n 1, 1) := by decide +kernel
theorem dX4_vines_35 : decode cX4_vines 35 = .ok (.iaload, 1) := by decide +kernel
theorem dX4_vines_36 : decode cX4_vines 36 = .ok (.istore_n 3, 1) := by decide +kernel
theorem dX4_vines_37 : decode cX4_vines 37 = .ok (.aload_n 0, 1) := by decide +kernel
theorem dX4_vines_38 : decode cX4_vines 38 = .ok (.getfield 10, 3) := by decide +kernel
theorem dX4_vines_41 : decode cX4_vines 41 = .ok (.getfield 68, 3) := by decide +kernel
theorem dX4_vines_44 : decode cX4_vines 44 = .ok (.getfield 94, 3) := by decide +kernel
theorem dX4_vines_47 : decode cX4_vines 47 = .ok (.iload_n 1, 1) := by decide +kernel
theorem dX4_vines_48 : decode cX4_vines 48 = .ok (.iload_n 2, 1) := by decide +kernel
theorem dX4_vines_49 : decode cX4_vines 49 = .ok (.iastore, 1) := by decide +kernel
theorem dX4_vines_50 : decode cX4_vines 50 = .ok (.aload_n 0, 1) := by decide +kernel
theorem dX4_vines_51 : decode cX4_vines 51 = .ok (.getfield 10, 3) := by decide +kernel
theorem dX4_vines_54 : decode cX4_vines 54 = .ok (.iconst 0, 1) := by decide +kernel
theorem dX4_vines_55 : decode cX4_vines 55 = .ok (.putfield 84, 3) := by decide +kernel
theorem dX4_vines_58 : decode cX4_vines 58 = .ok (.iload_n 3, 1) := by decide +kernel
theorem dX4_vines_59 : decode cX4_vines 59 = .ok (.ireturn, 1) := by decide +kernel
theorem dX4_hill_0 : decode cX4_hill 0 = .ok (.iload_n 1, 1) := by decide +kernel
theorem dX4_hill_1 : decode cX4_hill 1 = .ok (.invokestatic 60, 3) := by decide +kernel
theorem dX4_hill_4 : decode cX4_hill 4 = .ok (.ifCond .eq 20, 3) := by decide +kernel
theorem dX4_hill_7 : decode cX4_hill 7 = .ok (.iload_n 2, 1) := by decide +kernel
theorem dX4_hill_8 : decode cX4_hill 8 = .ok (.invokestatic 87, 3) := by decide +kernel
theorem dX4_hill_11 : decode cX4_hill 11 = .ok (.ifCond .eq 13, 3) := by decide +kernel
theorem dX4_hill_14 : decode cX4_hill 14 = .ok (.iload_n 3, 1) := by decide +kernel
theorem dX4_hill_15 : decode cX4_hill 15 = .ok (.iconst 0, 1) := by decide +kernel
theorem dX4_hill_16 : decode cX4_hill 16 = .ok (.bipush 59, 2) := by decide +kernel
theorem dX4_hill_18 : decode cX4_hill 18 = .ok (.invokestatic 90, 3) := by decide +kernel
theorem dX4_hill_21 : decode cX4_hill 21 = .ok (.ifCond .ne 10, 3) := by decide +kernel
theorem dX4_hill_24 : decode cX4_hill 24 = .ok (.aload_n 0, 1) := by decide +kernel
theorem dX4_hill_25 : decode cX4_hill 25 = .ok (.bipush (-2), 2) := by decide +kernel
theorem dX4_hill_27 : decode cX4_hill 27 = .ok (.invokevirtual 64, 3) := by decide +kernel
theorem dX4_hill_30 : decode cX4_hill 30 = .ok (.ireturn, 1) := by decide +kernel
theorem dX4_hill_31 : decode cX4_hill 31 = .ok (.aload_n 0, 1) := by decide +kernel
theorem dX4_hill_32 : decode cX4_hill 32 = .ok (.getfield 10, 3) := by decide +kernel
theorem dX4_hill_35 : decode cX4_hill 35 = .ok (.getfield 68, 3) := by decide +kernel
theorem dX4_hill_38 : decode cX4_hill 38 = .ok (.iload_n 2, 1) := by decide +kernel
theorem dX4_hill_39 : decode cX4_hill 39 = .ok (.invokevirtual 97, 3) := by decide +kernel
theorem dX4_hill_42 : decode cX4_hill 42 = .ok (.ifCond .eq 10, 3) := by decide +kernel
theorem dX4_hill_45 : decode cX4_hill 45 = .ok (.aload_n 0, 1) := by decide +kernel
theorem dX4_hill_46 : decode cX4_hill 46 = .ok (.bipush (-3), 2) := by decide +kernel
theorem dX4_hill_48 : decode cX4_hill 48 = .ok (.invokevirtual 64, 3) := by decide +kernel
theorem dX4_hill_51 : decode cX4_hill 51 = .ok (.ireturn, 1) := by decide +kernel
theorem dX4_hill_52 : decode cX4_hill 52 = .ok (.aload_n 0, 1) := by decide +kernel
theorem dX4_hill_53 : decode cX4_hill 53 = .ok (.getfield 10, 3) := by decide +kernel
theorem dX4_hill_56 : decode cX4_hill 56 = .ok (.getfield 68, 3) := by decide +kernel
theorem dX4_hill_59 : decode cX4_hill 59 = .ok (.getfield 72, 3) := by decide +kernel
theorem dX4_hill_62 : decode cX4_hill 62 = .ok (.bipush 7, 2) := by decide +kernel
theorem dX4_hill_64 : decode cX4_hill 64 = .ok (.if_icmp .lt 10, 3) := by decide +kernel
theorem dX4_hill_67 : decode cX4_hill 67 = .ok (.aload_n 0, 1) := by decide +kernel
theorem dX4_hill_68 : decode cX4_hill 68 = .ok (.bipush (-4), 2) := by decide +kernel
theorem dX4_hill_70 : decode cX4_hill 70 = .ok (.invokevirtual 64, 3) := by decide +kernel
theorem dX4_hill_73 : decode cX4_hill 73 = .ok (.ireturn, 1) := by decide +kernel
theorem dX4_hill_74 : decode cX4_hill 74 = .ok (.aload_n 0, 1) := by decide +kernel
theorem dX4_hill_75 : decode cX4_hill 75 = .ok (.getfield 10, 3) := by decide +kernel
theorem dX4_hill_78 : decode cX4_hill 78 = .ok (.getfield 68, 3) := by decide +kernel
theorem dX4_hill_81 : decode cX4_hill 81 = .ok (.iload_n 1, 1) := by decide +kernel
theorem dX4_hill_82 : decode cX4_hill 82 = .ok (.iload_n 2, 1) := by decide +kernel
theorem dX4_hill_83 : decode cX4_hill 83 = .ok (.iload_n 3, 1) := by decide +kernel
theorem dX4_hill_84 : decode cX4_hill 84 = .ok (.invokevirtual 100, 3) := by decide +kernel
theorem dX4_hill_87 : decode cX4_hill 87 = .ok (.aload_n 0, 1) := by decide +kernel
theorem dX4_hill_88 : decode cX4_hill 88 = .ok (.getfield 10, 3) := by decide +kernel
theorem dX4_hill_91 : decode cX4_hill 91 = .ok (.iconst 0, 1) := by decide +kernel
theorem dX4_hill_92 : decode cX4_hill 92 = .ok (.putfield 84, 3) := by decide +kernel
theorem dX4_hill_95 : decode cX4_hill 95 = .ok (.aload_n 0, 1) := by decide +kernel
theorem dX4_hill_96 : decode cX4_hill 96 = .ok (.getfield 10, 3) := by decide +kernel
theorem dX4_hill_99 : decode cX4_hill 99 = .ok (.getfield 68, 3) := by decide +kernel
theorem dX4_hill_102 : decode cX4_hill 102 = .ok (.getfield 72, 3) := by decide +kernel
theorem dX4_hill_105 : decode cX4_hill 105 = .ok (.iconst 1, 1) := by decide +kernel
theorem dX4_hill_106 : decode cX4_hill 106 = .ok (.isub, 1) := by decide +kernel
theorem dX4_hill_107 : decode cX4_hill 107 = .ok (.ireturn, 1) := by decide +kernel
theorem dX4_type_0 : decode cX4_type 0 = .ok (.iload_n 1, 1) := by decide +kernel
theorem dX4_type_1 : decode cX4_type 1 = .ok (.iconst 0, 1) := by decide +kernel
theorem dX4_type_2 : decode cX4_type 2 = .ok (.bipush 127, 2) := by decide +kernel
theorem dX4_type_4 : decode cX4_type 4 = .ok (.invokestatic 90, 3) := by decide +kernel
theorem dX4_type_7 : decode cX4_type 7 = .ok (.ifCond .ne 10, 3) := by decide +kernel
theorem dX4_type_10 : decode cX4_type 10 = .ok (.aload_n 0, 1) := by decide +kernel
theorem dX4_type_11 : decode cX4_type 11 = .ok (.bipush (-2), 2) := by decide +kernel
theorem dX4_type_13 : decode cX4_type 13 = .ok (.invokevirtual 64, 3) := by decide +kernel
theorem dX4_type_16 : decode cX4_type 16 = .ok (.ireturn, 1) := by decide +kernel
theorem dX4_type_17 : decode cX4_type 17 = .ok (.aload_n 0, 1) := by decide +kernel
theorem dX4_type_18 : decode cX4_type 18 = .ok (.getfield 32, 3) := by decide +kernel
theorem dX4_type_21 : decode cX4_type 21 = .ok (.getfield 104, 3) := by decide +kernel
theorem dX4_type_24 : decode cX4_type 24 = .ok (.sipush 150, 3) := by decide +kernel
theorem dX4_type_27 : decode cX4_type 27 = .ok (.if_icmp .lt 10, 3) := by decide +kernel
theorem dX4_type_30 : decode cX4_type 30 = .ok (.aload_n 0, 1) := by decide +kernel
theorem dX4_type_31 : decode cX4_type 31 = .ok (.bipush (-4), 2) := by decide +kernel
theorem dX4_type_33 : decode cX4_type 33 = .ok (.invokevirtual 64, 3) := by decide +kernel
theorem dX4_type_36 : decode cX4_type 36 = .ok (.ireturn, 1) := by decide +kernel
theorem dX4_type_37 : decode cX4_type 37 = .ok (.aload_n 0, 1) := by decide +kernel
theorem dX4_type_38 : decode cX4_type 38 = .ok (.getfield 32, 3) := by decide +kernel
theorem dX4_type_41 : decode cX4_type 41 = .ok (.iload_n 1, 1) := by decide +kernel
theorem dX4_type_42 : decode cX4_type 42 = .ok (.invokevirtual 107, 3) := by decide +kernel
theorem dX4_type_45 : decode cX4_type 45 = .ok (.aload_n 0, 1) := by decide +kernel
theorem dX4_type_46 : decode cX4_type 46 = .ok (.getfield 32, 3) := by decide +kernel
theorem dX4_type_49 : decode cX4_type 49 = .ok (.getfield 104, 3) := by decide +kernel
theorem dX4_type_52 : decode cX4_type 52 = .ok (.ireturn, 1) := by decide +kernel
theorem dX4_clear_0 : decode cX4_clear 0 = .ok (.aload_n 0, 1) := by decide +kernel
theorem dX4_clear_1 : decode cX4_clear 1 = .ok (.getfield 32, 3) := by decide +kernel
theorem dX4_clear_4 : decode cX4_clear 4 = .ok (.getfield 104, 3) := by decide +kernel
theorem dX4_clear_7 : decode cX4_clear 7 = .ok (.istore_n 1, 1) := by decide +kernel
theorem dX4_clear_8 : decode cX4_clear 8 = .ok (.aload_n 0, 1) := by decide +kernel
theorem dX4_clear_9 : decode cX4_clear 9 = .ok (.getfield 32, 3) := by decide +kernel
theorem dX4_clear_12 : decode cX4_clear 12 = .ok (.iconst 0, 1) := by decide +kernel
theorem dX4_clear_13 : decode cX4_clear 13 = .ok (.putfield 104, 3) := by decide +kernel
theorem dX4_clear_16 : decode cX4_clear 16 = .ok (.iload_n 1, 1) := by decide +kernel
theorem dX4_clear_17 : decode cX4_clear 17 = .ok (.ireturn, 1) := by decide +kernel
theorem dX4_read_0 : decode cX4_read 0 = .ok (.aload_n 0, 1) := by decide +kernel
theorem dX4_read_1 : decode cX4_read 1 = .ok (.getfield 32, 3) := by decide +kernel
theorem dX4_read_4 : decode cX4_read 4 = .ok (.invokevirtual 110, 3) := by decide +kernel
theorem dX4_read_7 : decode cX4_read 7 = .ok (.ifCond .ne 14, 3) := by decide +kernel
theorem dX4_read_10 : decode cX4_read 10 = .ok (.bipush (-10), 2) := by decide +kernel
theorem dX4_read_12 : decode cX4_read 12 = .ok (.aload_n 0, 1) := by decide +kernel
theorem dX4_read_13 : decode cX4_read 13 = .ok (.getfield 32, 3) := by decide +kernel
theorem dX4_read_16 : decode cX4_read 16 = .ok (.getfield 114, 3) := by decide +kernel
theorem dX4_read_19 : decode cX4_read 19 = .ok (.isub, 1) := by decide +kernel
theorem dX4_read_20 : decode cX4_read 20 = .ok (.ireturn, 1) := by decide +kernel
theorem dX4_read_21 : decode cX4_read 21 = .ok (.aload_n 0, 1) := by decide +kernel
theorem dX4_read_22 : decode cX4_read 22 = .ok (.getfield 10, 3) := by decide +kernel
theorem dX4_read_25 : decode cX4_read 25 = .ok (.iconst 0, 1) := by decide +kernel
theorem dX4_read_26 : decode cX4_read 26 = .ok (.invokevirtual 77, 3) := by decide +kernel
theorem dX4_read_29 : decode cX4_read 29 = .ok (.aload_n 0, 1) := by decide +kernel
theorem dX4_read_30 : decode cX4_read 30 = .ok (.getfield 10, 3) := by decide +kernel
theorem dX4_read_33 : decode cX4_read 33 = .ok (.getfield 68, 3) := by decide +kernel
theorem dX4_read_36 : decode cX4_read 36 = .ok (.aload_n 0, 1) := by decide +kernel
theorem dX4_read_37 : decode cX4_read 37 = .ok (.getfield 32, 3) := by decide +kernel
theorem dX4_read_40 : decode cX4_read 40 = .ok (.getfield 117, 3) := by decide +kernel
theorem dX4_read_43 : decode cX4_read 43 = .ok (.invokevirtual 118, 3) := by decide +kernel
theorem dX4_read_46 : decode cX4_read 46 = .ok (.aload_n 0, 1) := by decide +kernel
theorem dX4_read_47 : decode cX4_read 47 = .ok (.getfield 32, 3) := by decide +kernel
theorem dX4_read_50 : decode cX4_read 50 = .ok (.getfield 122, 3) := by decide +kernel
theorem dX4_read_53 : decode cX4_read 53 = .ok (.ireturn, 1) := by decide +kernel
theorem dX4_day_0 : decode cX4_day 0 = .ok (.aload_n 0, 1) := by decide +kernel
theorem dX4_day_1 : decode cX4_day 1 = .ok (.getfield 10, 3) := by decide +kernel
theorem dX4_day_4 : decode cX4_day 4 = .ok (.getfield 68, 3) := by decide +kernel
theorem dX4_day_7 : decode cX4_day 7 = .ok (.iload_n 1, 1) := by decide +kernel
theorem dX4_day_8 : decode cX4_day 8 = .ok (.invokevirtual 125, 3) := by decide +kernel
theorem dX4_day_11 : decode cX4_day 11 = .ok (.ifCond .ne 10, 3) := by decide +kernel
theorem dX4_day_14 : decode cX4_day 14 = .ok (.aload_n 0, 1) := by decide +kernel
theorem dX4_day_15 : decode cX4_day 15 = .ok (.bipush (-2), 2) := by decide +kernel
theorem dX4_day_17 : decode cX4_day 17 = .ok (.invokevirtual 64, 3) := by decide +kernel
theorem dX4_day_20 : decode cX4_day 20 = .ok (.ireturn, 1) := by decide +kernel
theorem dX4_day_21 : decode cX4_day 21 = .ok (.aload_n 0, 1) := by decide +kernel
theorem dX4_day_22 : decode cX4_day 22 = .ok (.getfield 10, 3) := by decide +kernel
theorem dX4_day_25 : decode cX4_day 25 = .ok (.getfield 68, 3) := by decide +kernel
theorem dX4_day_28 : decode cX4_day 28 = .ok (.getfield 128, 3) := by decide +kernel
theorem dX4_day_31 : decode cX4_day 31 = .ok (.sipush 9999, 3) := by decide +kernel
theorem dX4_day_34 : decode cX4_day 34 = .ok (.if_icmp .lt 10, 3) := by decide +kernel
theorem dX4_day_37 : decode cX4_day 37 = .ok (.aload_n 0, 1) := by decide +kernel
theorem dX4_day_38 : decode cX4_day 38 = .ok (.bipush (-3), 2) := by decide +kernel
theorem dX4_day_40 : decode cX4_day 40 = .ok (.invokevirtual 64, 3) := by decide +kernel
theorem dX4_day_43 : decode cX4_day 43 = .ok (.ireturn, 1) := by decide +kernel
theorem dX4_day_44 : decode cX4_day 44 = .ok (.aload_n 0, 1) := by decide +kernel
theorem dX4_day_45 : decode cX4_day 45 = .ok (.getfield 10, 3) := by decide +kernel
theorem dX4_day_48 : decode cX4_day 48 = .ok (.invokevirtual 131, 3) := by decide +kernel
theorem dX4_day_51 : decode cX4_day 51 = .ok (.aload_n 0, 1) := by decide +kernel
theorem dX4_day_52 : decode cX4_day 52 = .ok (.getfield 10, 3) := by decide +kernel
theorem dX4_day_55 : decode cX4_day 55 = .ok (.getfield 68, 3) := by decide +kernel
theorem dX4_day_58 : decode cX4_day 58 = .ok (.iload_n 1, 1) := by decide +kernel
theorem dX4_day_59 : decode cX4_day 59 = .ok (.invokevirtual 134, 3) := by decide +kernel
theorem dX4_day_62 : decode cX4_day 62 = .ok (.ireturn, 1) := by decide +kernel
theorem dX4_putBack_0 : decode cX4_putBack 0 = .ok (.iload_n 1, 1) := by decide +kernel
theorem dX4_putBack_1 : decode cX4_putBack 1 = .ok (.invokestatic 87, 3) := by decide +kernel
theorem dX4_putBack_4 : decode cX4_putBack 4 = .ok (.ifCond .eq 13, 3) := by decide +kernel
theorem dX4_putBack_7 : decode cX4_putBack 7 = .ok (.iload_n 2, 1) := by decide +kernel
theorem dX4_putBack_8 : decode cX4_putBack 8 = .ok (.iconst 1, 1) := by decide +kernel
theorem dX4_putBack_9 : decode cX4_putBack 9 = .ok (.bipush 9, 2) := by decide +kernel
theorem dX4_putBack_11 : decode cX4_putBack 11 = .ok (.invokestatic 90, 3) := by decide +kernel
theorem dX4_putBack_14 : decode cX4_putBack 14 = .ok (.ifCond .ne 10, 3) := by decide +kernel
theorem dX4_putBack_17 : decode cX4_putBack 17 = .ok (.aload_n 0, 1) := by decide +kernel
theorem dX4_putBack_18 : decode cX4_putBack 18 = .ok (.bipush (-2), 2) := by decide +kernel
theorem dX4_putBack_20 : decode cX4_putBack 20 = .ok (.invokevirtual 64, 3) := by decide +kernel
theorem dX4_putBack_23 : decode cX4_putBack 23 = .ok (.ireturn, 1) := by decide +kernel
theorem dX4_putBack_24 : decode cX4_putBack 24 = .ok (.aload_n 0, 1) := by decide +kernel
theorem dX4_putBack_25 : decode cX4_putBack 25 = .ok (.getfield 10, 3) := by decide +kernel
theorem dX4_putBack_28 : decode cX4_putBack 28 = .ok (.getfield 68, 3) := by decide +kernel
theorem dX4_putBack_31 : decode cX4_putBack 31 = .ok (.getfield 94, 3) := by decide +kernel
theorem dX4_putBack_34 : decode cX4_putBack 34 = .ok (.iload_n 1, 1) := by decide +kernel
theorem dX4_putBack_35 : decode cX4_putBack 35 = .ok (.iaload, 1) := by decide +kernel
theorem dX4_putBack_36 : decode cX4_putBack 36 = .ok (.bipush 9, 2) := by decide +kernel
theorem dX4_putBack_38 : decode cX4_putBack 38 = .ok (.if_icmp .lt 10, 3) := by decide +kernel
theorem dX4_putBack_41 : decode cX4_putBack 41 = .ok (.aload_n 0, 1) := by decide +kernel
theorem dX4_putBack_42 : decode cX4_putBack 42 = .ok (.bipush (-3), 2) := by decide +kernel
theorem dX4_putBack_44 : decode cX4_putBack 44 = .ok (.invokevirtual 64, 3) := by decide +kernel
theorem dX4_putBack_47 : decode cX4_putBack 47 = .ok (.ireturn, 1) := by decide +kernel
theorem dX4_putBack_48 : decode cX4_putBack 48 = .ok (.aload_n 0, 1) := by decide +kernel
theorem dX4_putBack_49 : decode cX4_putBack 49 = .ok (.getfield 10, 3) := by decide +kernel
theorem dX4_putBack_52 : decode cX4_putBack 52 = .ok (.invokevirtual 131, 3) := by decide +kernel
theorem dX4_putBack_55 : decode cX4_putBack 55 = .ok (.aload_n 0, 1) := by decide +kernel
theorem dX4_putBack_56 : decode cX4_putBack 56 = .ok (.getfield 10, 3) := by decide +kernel
theorem dX4_putBack_59 : decode cX4_putBack 59 = .ok (.getfield 68, 3) := by decide +kernel
theorem dX4_putBack_62 : decode cX4_putBack 62 = .ok (.getfield 94, 3) := by decide +kernel
theorem dX4_putBack_65 : decode cX4_putBack 65 = .ok (.iload_n 1, 1) := by decide +kernel
theorem dX4_putBack_66 : decode cX4_putBack 66 = .ok (.bipush 9, 2) := by decide +kernel
theorem dX4_putBack_68 : decode cX4_putBack 68 = .ok (.aload_n 0, 1) := by decide +kernel
theorem dX4_putBack_69 : decode cX4_putBack 69 = .ok (.getfield 10, 3) := by decide +kernel
theorem dX4_putBack_72 : decode cX4_putBack 72 = .ok (.getfield 68, 3) := by decide +kernel
theorem dX4_putBack_75 : decode cX4_putBack 75 = .ok (.getfield 94, 3) := by decide +kernel
theorem dX4_putBack_78 : decode cX4_putBack 78 = .ok (.iload_n 1, 1) := by decide +kernel
theorem dX4_putBack_79 : decode cX4_putBack 79 = .ok (.iaload, 1) := by decide +kernel
theorem dX4_putBack_80 : decode cX4_putBack 80 = .ok (.iload_n 2, 1) := by decide +kernel
theorem dX4_putBack_81 : decode cX4_putBack 81 = .ok (.iadd, 1) := by decide +kernel
theorem dX4_putBack_82 : decode cX4_putBack 82 = .ok (.invokestatic 137, 3) := by decide +kernel
theorem dX4_putBack_85 : decode cX4_putBack 85 = .ok (.iastore, 1) := by decide +kernel
theorem dX4_putBack_86 : decode cX4_putBack 86 = .ok (.aload_n 0, 1) := by decide +kernel
theorem dX4_putBack_87 : decode cX4_putBack 87 = .ok (.getfield 10, 3) := by decide +kernel
theorem dX4_putBack_90 : decode cX4_putBack 90 = .ok (.getfield 68, 3) := by decide +kernel
theorem dX4_putBack_93 : decode cX4_putBack 93 = .ok (.getfield 94, 3) := by decide +kernel
theorem dX4_putBack_96 : decode cX4_putBack 96 = .ok (.iload_n 1, 1) := by decide +kernel
theorem dX4_putBack_97 : decode cX4_putBack 97 = .ok (.iaload, 1) := by decide +kernel
theorem dX4_putBack_98 : decode cX4_putBack 98 = .ok (.ireturn, 1) := by decide +kernel
theorem dX4_undo_0 : decode cX4_undo 0 = .ok (.aload_n 0, 1) := by decide +kernel
theorem dX4_undo_1 : decode cX4_undo 1 = .ok (.getfield 10, 3) := by decide +kernel
theorem dX4_undo_4 : decode cX4_undo 4 = .ok (.getfield 84, 3) := by decide +kernel
theorem dX4_undo_7 : decode cX4_undo 7 = .ok (.ifCond .ne 10, 3) := by decide +kernel
theorem dX4_undo_10 : decode cX4_undo 10 = .ok (.aload_n 0, 1) := by decide +kernel
theorem dX4_undo_11 : decode cX4_undo 11 = .ok (.bipush (-3), 2) := by decide +kernel
theorem dX4_undo_13 : decode cX4_undo 13 = .ok (.invokevirtual 64, 3) := by decide +kernel
theorem dX4_undo_16 : decode cX4_undo 16 = .ok (.ireturn, 1) := by decide +kernel
theorem dX4_undo_17 : decode cX4_undo 17 = .ok (.aload_n 0, 1) := by decide +kernel
theorem dX4_undo_18 : decode cX4_undo 18 = .ok (.getfield 10, 3) := by decide +kernel
theorem dX4_undo_21 : decode cX4_undo 21 = .ok (.invokevirtual 143, 3) := by decide +kernel
theorem dX4_undo_24 : decode cX4_undo 24 = .ok (.aload_n 0, 1) := by decide +kernel
theorem dX4_undo_25 : decode cX4_undo 25 = .ok (.getfield 10, 3) := by decide +kernel
theorem dX4_undo_28 : decode cX4_undo 28 = .ok (.getfield 68, 3) := by decide +kernel
theorem dX4_undo_31 : decode cX4_undo 31 = .ok (.getfield 128, 3) := by decide +kernel
theorem dX4_undo_34 : decode cX4_undo 34 = .ok (.ireturn, 1) := by decide +kernel
theorem dX4_of_0 : decode cX4_of 0 = .ok (.aload_n 0, 1) := by decide +kernel
theorem dX4_of_1 : decode cX4_of 1 = .ok (.getfield 10, 3) := by decide +kernel
theorem dX4_of_4 : decode cX4_of 4 = .ok (.getfield 68, 3) := by decide +kernel
theorem dX4_of_7 : decode cX4_of 7 = .ok (.iload_n 1, 1) := by decide +kernel
theorem dX4_of_8 : decode cX4_of 8 = .ok (.invokevirtual 146, 3) := by decide +kernel
theorem dX4_of_11 : decode cX4_of 11 = .ok (.ifCond .eq 12, 3) := by decide +kernel
theorem dX4_of_14 : decode cX4_of 14 = .ok (.iload_n 2, 1) := by decide +kernel
theorem dX4_of_15 : decode cX4_of 15 = .ok (.iconst 0, 1) := by decide +kernel
theorem dX4_of_16 : decode cX4_of 16 = .ok (.iconst 4, 1) := by decide +kernel
theorem dX4_of_17 : decode cX4_of 17 = .ok (.invokestatic 90, 3) := by decide +kernel
theorem dX4_of_20 : decode cX4_of 20 = .ok (.ifCond .ne 10, 3) := by decide +kernel
theorem dX4_of_23 : decode cX4_of 23 = .ok (.aload_n 0, 1) := by decide +kernel
theorem dX4_of_24 : decode cX4_of 24 = .ok (.bipush (-2), 2) := by decide +kernel
theorem dX4_of_26 : decode cX4_of 26 = .ok (.invokevirtual 64, 3) := by decide +kernel
theorem dX4_of_29 : decode cX4_of 29 = .ok (.ireturn, 1) := by decide +kernel
theorem dX4_of_30 : decode cX4_of 30 = .ok (.aload_n 0, 1) := by decide +kernel
theorem dX4_of_31 : decode cX4_of 31 = .ok (.getfield 10, 3) := by decide +kernel
theorem dX4_of_34 : decode cX4_of 34 = .ok (.getfield 68, 3) := by decide +kernel
theorem dX4_of_37 : decode cX4_of 37 = .ok (.astore_n 3, 1) := by decide +kernel
theorem dX4_of_38 : decode cX4_of 38 = .ok (.iload_n 2, 1) := by decide +kernel
theorem dX4_of_39 : decode cX4_of 39 = .ok (.tableswitch 72 0 3 #[29, 36, 43, 50], 29) := by decide +kernel
theorem dX4_of_68 : decode cX4_of 68 = .ok (.aload_n 3, 1) := by decide +kernel
theorem dX4_of_69 : decode cX4_of 69 = .ok (.getfield 149, 3) := by decide +kernel
theorem dX4_of_72 : decode cX4_of 72 = .ok (.iload_n 1, 1) := by decide +kernel
theorem dX4_of_73 : decode cX4_of 73 = .ok (.iaload, 1) := by decide +kernel
theorem dX4_of_74 : decode cX4_of 74 = .ok (.ireturn, 1) := by decide +kernel
theorem dX4_of_75 : decode cX4_of 75 = .ok (.aload_n 3, 1) := by decide +kernel
theorem dX4_of_76 : decode cX4_of 76 = .ok (.getfield 152, 3) := by decide +kernel
theorem dX4_of_79 : decode cX4_of 79 = .ok (.iload_n 1, 1) := by decide +kernel
theorem dX4_of_80 : decode cX4_of 80 = .ok (.iaload, 1) := by decide +kernel
theorem dX4_of_81 : decode cX4_of 81 = .ok (.ireturn, 1) := by decide +kernel
theorem dX4_of_82 : decode cX4_of 82 = .ok (.aload_n 3, 1) := by decide +kernel
theorem dX4_of_83 : decode cX4_of 83 = .ok (.getfield 155, 3) := by decide +kernel
theorem dX4_of_86 : decode cX4_of 86 = .ok (.iload_n 1, 1) := by decide +kernel
theorem dX4_of_87 : decode cX4_of 87 = .ok (.iaload, 1) := by decide +kernel
theorem dX4_of_88 : decode cX4_of 88 = .ok (.ireturn, 1) := by decide +kernel
theorem dX4_of_89 : decode cX4_of 89 = .ok (.aload_n 3, 1) := by decide +kernel
theorem dX4_of_90 : decode cX4_of 90 = .ok (.getfield 149, 3) := by decide +kernel
theorem dX4_of_93 : decode cX4_of 93 = .ok (.iload_n 1, 1) := by decide +kernel
theorem dX4_of_94 : decode cX4_of 94 = .ok (.iaload, 1) := by decide +kernel
theorem dX4_of_95 : decode cX4_of 95 = .ok (.aload_n 3, 1) := by decide +kernel
theorem dX4_of_96 : decode cX4_of 96 = .ok (.getfield 155, 3) := by decide +kernel
theorem dX4_of_99 : decode cX4_of 99 = .ok (.iload_n 1, 1) := by decide +kernel
theorem dX4_of_100 : decode cX4_of 100 = .ok (.iaload, 1) := by decide +kernel
theorem dX4_of_101 : decode cX4_of 101 = .ok (.aload_n 3, 1) := by decide +kernel
theorem dX4_of_102 : decode cX4_of 102 = .ok (.getfield 128, 3) := by decide +kernel
theorem dX4_of_105 : decode cX4_of 105 = .ok (.iconst 1, 1) := by decide +kernel
theorem dX4_of_106 : decode cX4_of 106 = .ok (.iadd, 1) := by decide +kernel
theorem dX4_of_107 : decode cX4_of 107 = .ok (.invokestatic 158, 3) := by decide +kernel
theorem dX4_of_110 : decode cX4_of 110 = .ok (.ireturn, 1) := by decide +kernel
theorem dX4_of_111 : decode cX4_of 111 = .ok (.aload_n 3, 1) := by decide +kernel
theorem dX4_of_112 : decode cX4_of 112 = .ok (.getfield 81, 3) := by decide +kernel
theorem dX4_of_115 : decode cX4_of 115 = .ok (.aload_n 3, 1) := by decide +kernel
theorem dX4_of_116 : decode cX4_of 116 = .ok (.getfield 155, 3) := by decide +kernel
theorem dX4_of_119 : decode cX4_of 119 = .ok (.iload_n 1, 1) := by decide +kernel
theorem dX4_of_120 : decode cX4_of 120 = .ok (.iaload, 1) := by decide +kernel
theorem dX4_of_121 : decode cX4_of 121 = .ok (.aload_n 3, 1) := by decide +kernel
theorem dX4_of_122 : decode cX4_of 122 = .ok (.getfield 128, 3) := by decide +kernel
theorem dX4_of_125 : decode cX4_of 125 = .ok (.iconst 1, 1) := by decide +kernel
theorem dX4_of_126 : decode cX4_of 126 = .ok (.iadd, 1) := by decide +kernel
theorem dX4_of_127 : decode cX4_of 127 = .ok (.invokestatic 162, 3) := by decide +kernel
theorem dX4_of_130 : decode cX4_of 130 = .ok (.ireturn, 1) := by decide +kernel
theorem dX4_has_0 : decode cX4_has 0 = .ok (.iload_n 1, 1) := by decide +kernel
theorem dX4_has_1 : decode cX4_has 1 = .ok (.invokestatic 87, 3) := by decide +kernel
theorem dX4_has_4 : decode cX4_has 4 = .ok (.ifCond .ne 10, 3) := by decide +kernel
theorem dX4_has_7 : decode cX4_has 7 = .ok (.aload_n 0, 1) := by decide +kernel
theorem dX4_has_8 : decode cX4_has 8 = .ok (.bipush (-2), 2) := by decide +kernel
theorem dX4_has_10 : decode cX4_has 10 = .ok (.invokevirtual 64, 3) := by decide +kernel
theorem dX4_has_13 : decode cX4_has 13 = .ok (.ireturn, 1) := by decide +kernel
theorem dX4_has_14 : decode cX4_has 14 = .ok (.aload_n 0, 1) := by decide +kernel
theorem dX4_has_15 : decode cX4_has 15 = .ok (.getfield 10, 3) := by decide +kernel
theorem dX4_has_18 : decode cX4_has 18 = .ok (.getfield 68, 3) := by decide +kernel
theorem dX4_has_21 : decode cX4_has 21 = .ok (.getfield 94, 3) := by decide +kernel
theorem dX4_has_24 : decode cX4_has 24 = .ok (.iload_n 1, 1) := by decide +kernel
theorem dX4_has_25 : decode cX4_has 25 = .ok (.iaload, 1) := by decide +kernel
theorem dX4_has_26 : decode cX4_has 26 = .ok (.ireturn, 1) := by decide +kernel
theorem dX4_high_0 : decode cX4_high 0 = .ok (.aload_n 0, 1) := by decide +kernel
theorem dX4_high_1 : decode cX4_high 1 = .ok (.getfield 10, 3) := by decide +kernel
theorem dX4_high_4 : decode cX4_high 4 = .ok (.getfield 68, 3) := by decide +kernel
theorem dX4_high_7 : decode cX4_high 7 = .ok (.iload_n 1, 1) := by decide +kernel
theorem dX4_high_8 : decode cX4_high 8 = .ok (.invokevirtual 146, 3) := by decide +kernel
theorem dX4_high_11 : decode cX4_high 11 = .ok (.ifCond .eq 13, 3) := by decide +kernel
theorem dX4_high_14 : decode cX4_high 14 = .ok (.iload_n 2, 1) := by decide +kernel
theorem dX4_high_15 : decode cX4_high 15 = .ok (.iconst 0, 1) := by decide +kernel
theorem dX4_high_16 : decode cX4_high 16 = .ok (.bipush 30, 2) := by decide +kernel
theorem dX4_high_18 : decode cX4_high 18 = .ok (.invokestatic 90, 3) := by decide +kernel
theorem dX4_high_21 : decode cX4_high 21 = .ok (.ifCond .ne 10, 3) := by decide +kernel
theorem dX4_high_24 : decode cX4_high 24 = .ok (.aload_n 0, 1) := by decide +kernel
theorem dX4_high_25 : decode cX4_high 25 = .ok (.bipush (-2), 2) := by decide +kernel
theorem dX4_high_27 : decode cX4_high 27 = .ok (.invokevirtual 64, 3) := by decide +kernel
theorem dX4_high_30 : decode cX4_high 30 = .ok (.ireturn, 1) := by decide +kernel
theorem dX4_high_31 : decode cX4_high 31 = .ok (.aload_n 0, 1) := by decide +kernel
theorem dX4_high_32 : decode cX4_high 32 = .ok (.getfield 25, 3) := by decide +kernel
theorem dX4_high_35 : decode cX4_high 35 = .ok (.aload_n 0, 1) := by decide +kernel
theorem dX4_high_36 : decode cX4_high 36 = .ok (.getfield 10, 3) := by decide +kernel
theorem dX4_high_39 : decode cX4_high 39 = .ok (.getfield 68, 3) := by decide +kernel
theorem dX4_high_42 : decode cX4_high 42 = .ok (.invokevirtual 165, 3) := by decide +kernel
theorem dX4_high_45 : decode cX4_high 45 = .ok (.astore_n 3, 1) := by decide +kernel
theorem dX4_high_46 : decode cX4_high 46 = .ok (.aload_n 3, 1) := by decide +kernel
theorem dX4_high_47 : decode cX4_high 47 = .ok (.iload_n 2, 1) := by decide +kernel
theorem dX4_high_48 : decode cX4_high 48 = .ok (.invokevirtual 169, 3) := by decide +kernel
theorem dX4_high_51 : decode cX4_high 51 = .ok (.pop, 1) := by decide +kernel
theorem dX4_high_52 : decode cX4_high 52 = .ok (.aload_n 3, 1) := by decide +kernel
theorem dX4_high_53 : decode cX4_high 53 = .ok (.getfield 155, 3) := by decide +kernel
theorem dX4_high_56 : decode cX4_high 56 = .ok (.iload_n 1, 1) := by decide +kernel
theorem dX4_high_57 : decode cX4_high 57 = .ok (.iaload, 1) := by decide +kernel
theorem dX4_high_58 : decode cX4_high 58 = .ok (.ireturn, 1) := by decide +kernel
theorem dX4_goes_0 : decode cX4_goes 0 = .ok (.aload_n 0, 1) := by decide +kernel
theorem dX4_goes_1 : decode cX4_goes 1 = .ok (.getfield 10, 3) := by decide +kernel
theorem dX4_goes_4 : decode cX4_goes 4 = .ok (.getfield 68, 3) := by decide +kernel
theorem dX4_goes_7 : decode cX4_goes 7 = .ok (.iload_n 1, 1) := by decide +kernel
theorem dX4_goes_8 : decode cX4_goes 8 = .ok (.invokevirtual 146, 3) := by decide +kernel
theorem dX4_goes_11 : decode cX4_goes 11 = .ok (.ifCond .ne 10, 3) := by decide +kernel
theorem dX4_goes_14 : decode cX4_goes 14 = .ok (.aload_n 0, 1) := by decide +kernel
theorem dX4_goes_15 : decode cX4_goes 15 = .ok (.bipush (-2), 2) := by decide +kernel
theorem dX4_goes_17 : decode cX4_goes 17 = .ok (.invokevirtual 64, 3) := by decide +kernel
theorem dX4_goes_20 : decode cX4_goes 20 = .ok (.ireturn, 1) := by decide +kernel
theorem dX4_goes_21 : decode cX4_goes 21 = .ok (.aload_n 0, 1) := by decide +kernel
theorem dX4_goes_22 : decode cX4_goes 22 = .ok (.getfield 25, 3) := by decide +kernel
theorem dX4_goes_25 : decode cX4_goes 25 = .ok (.aload_n 0, 1) := by decide +kernel
theorem dX4_goes_26 : decode cX4_goes 26 = .ok (.getfield 10, 3) := by decide +kernel
theorem dX4_goes_29 : decode cX4_goes 29 = .ok (.getfield 68, 3) := by decide +kernel
theorem dX4_goes_32 : decode cX4_goes 32 = .ok (.invokevirtual 165, 3) := by decide +kernel
theorem dX4_goes_35 : decode cX4_goes 35 = .ok (.astore_n 2, 1) := by decide +kernel
theorem dX4_goes_36 : decode cX4_goes 36 = .ok (.iconst 1, 1) := by decide +kernel
theorem dX4_goes_37 : decode cX4_goes 37 = .ok (.istore_n 3, 1) := by decide +kernel
theorem dX4_goes_38 : decode cX4_goes 38 = .ok (.iload_n 3, 1) := by decide +kernel
theorem dX4_goes_39 : decode cX4_goes 39 = .ok (.bipush 60, 2) := by decide +kernel
theorem dX4_goes_41 : decode cX4_goes 41 = .ok (.if_icmp .gt 29, 3) := by decide +kernel
theorem dX4_goes_44 : decode cX4_goes 44 = .ok (.aload_n 2, 1) := by decide +kernel
theorem dX4_goes_45 : decode cX4_goes 45 = .ok (.bipush 7, 2) := by decide +kernel
theorem dX4_goes_47 : decode cX4_goes 47 = .ok (.invokevirtual 134, 3) := by decide +kernel
theorem dX4_goes_50 : decode cX4_goes 50 = .ok (.pop, 1) := by decide +kernel
theorem dX4_goes_51 : decode cX4_goes 51 = .ok (.aload_n 2, 1) := by decide +kernel
theorem dX4_goes_52 : decode cX4_goes 52 = .ok (.getfield 172, 3) := by decide +kernel
theorem dX4_goes_55 : decode cX4_goes 55 = .ok (.iload_n 1, 1) := by decide +kernel
theorem dX4_goes_56 : decode cX4_goes 56 = .ok (.invokestatic 175, 3) := by decide +kernel
theorem dX4_goes_59 : decode cX4_goes 59 = .ok (.ifCond .eq 5, 3) := by decide +kernel
theorem dX4_goes_62 : decode cX4_goes 62 = .ok (.iload_n 3, 1) := by decide +kernel
theorem dX4_goes_63 : decode cX4_goes 63 = .ok (.ireturn, 1) := by decide +kernel
theorem dX4_goes_64 : decode cX4_goes 64 = .ok (.iinc 3 1, 3) := by decide +kernel
theorem dX4_goes_67 : decode cX4_goes 67 = .ok (.goto (-29), 3) := by decide +kernel
theorem dX4_goes_70 : decode cX4_goes 70 = .ok (.iconst (-1), 1) := by decide +kernel
theorem dX4_goes_71 : decode cX4_goes 71 = .ok (.ireturn, 1) := by decide +kernel
theorem dX4_lost_0 : decode cX4_lost 0 = .ok (.iload_n 1, 1) := by decide +kernel
theorem dX4_lost_1 : decode cX4_lost 1 = .ok (.iconst 0, 1) := by decide +kernel
theorem dX4_lost_2 : decode cX4_lost 2 = .ok (.bipush 30, 2) := by decide +kernel
theorem dX4_lost_4 : decode cX4_lost 4 = .ok (.invokestatic 90, 3) := by decide +kernel
theorem dX4_lost_7 : decode cX4_lost 7 = .ok (.ifCond .ne 10, 3) := by decide +kernel
theorem dX4_lost_10 : decode cX4_lost 10 = .ok (.aload_n 0, 1) := by decide +kernel
theorem dX4_lost_11 : decode cX4_lost 11 = .ok (.bipush (-2), 2) := by decide +kernel
theorem dX4_lost_13 : decode cX4_lost 13 = .ok (.invokevirtual 64, 3) := by decide +kernel
theorem dX4_lost_16 : decode cX4_lost 16 = .ok (.ireturn, 1) := by decide +kernel
theorem dX4_lost_17 : decode cX4_lost 17 = .ok (.aload_n 0, 1) := by decide +kernel
theorem dX4_lost_18 : decode cX4_lost 18 = .ok (.getfield 25, 3) := by decide +kernel
theorem dX4_lost_21 : decode cX4_lost 21 = .ok (.aload_n 0, 1) := by decide +kernel
theorem dX4_lost_22 : decode cX4_lost 22 = .ok (.getfield 10, 3) := by decide +kernel
theorem dX4_lost_25 : decode cX4_lost 25 = .ok (.getfield 68, 3) := by decide +kernel
theorem dX4_lost_28 : decode cX4_lost 28 = .ok (.invokevirtual 165, 3) := by decide +kernel
theorem dX4_lost_31 : decode cX4_lost 31 = .ok (.iload_n 1, 1) := by decide +kernel
theorem dX4_lost_32 : decode cX4_lost 32 = .ok (.invokevirtual 169, 3) := by decide +kernel
theorem dX4_lost_35 : decode cX4_lost 35 = .ok (.ireturn, 1) := by decide +kernel
theorem dX4_chain_0 : decode cX4_chain 0 = .ok (.aload_n 0, 1) := by decide +kernel
theorem dX4_chain_1 : decode cX4_chain 1 = .ok (.getfield 10, 3) := by decide +kernel
theorem dX4_chain_4 : decode cX4_chain 4 = .ok (.getfield 68, 3) := by decide +kernel
theorem dX4_chain_7 : decode cX4_chain 7 = .ok (.iload_n 1, 1) := by decide +kernel
theorem dX4_chain_8 : decode cX4_chain 8 = .ok (.invokevirtual 146, 3) := by decide +kernel
theorem dX4_chain_11 : decode cX4_chain 11 = .ok (.ifCond .ne 10, 3) := by decide +kernel
theorem dX4_chain_14 : decode cX4_chain 14 = .ok (.aload_n 0, 1) := by decide +kernel
theorem dX4_chain_15 : decode cX4_chain 15 = .ok (.bipush (-2), 2) := by decide +kernel
theorem dX4_chain_17 : decode cX4_chain 17 = .ok (.invokevirtual 64, 3) := by decide +kernel
theorem dX4_chain_20 : decode cX4_chain 20 = .ok (.ireturn, 1) := by decide +kernel
theorem dX4_chain_21 : decode cX4_chain 21 = .ok (.aload_n 0, 1) := by decide +kernel
theorem dX4_chain_22 : decode cX4_chain 22 = .ok (.getfield 25, 3) := by decide +kernel
theorem dX4_chain_25 : decode cX4_chain 25 = .ok (.aload_n 0, 1) := by decide +kernel
theorem dX4_chain_26 : decode cX4_chain 26 = .ok (.getfield 10, 3) := by decide +kernel
theorem dX4_chain_29 : decode cX4_chain 29 = .ok (.getfield 68, 3) := by decide +kernel
theorem dX4_chain_32 : decode cX4_chain 32 = .ok (.invokevirtual 165, 3) := by decide +kernel
theorem dX4_chain_35 : decode cX4_chain 35 = .ok (.astore_n 2, 1) := by decide +kernel
theorem dX4_chain_36 : decode cX4_chain 36 = .ok (.aload_n 2, 1) := by decide +kernel
theorem dX4_chain_37 : decode cX4_chain 37 = .ok (.getfield 155, 3) := by decide +kernel
theorem dX4_chain_40 : decode cX4_chain 40 = .ok (.iload_n 1, 1) := by decide +kernel
theorem dX4_chain_41 : decode cX4_chain 41 = .ok (.bipush 60, 2) := by decide +kernel
theorem dX4_chain_43 : decode cX4_chain 43 = .ok (.iastore, 1) := by decide +kernel
theorem dX4_chain_44 : decode cX4_chain 44 = .ok (.aload_n 2, 1) := by decide +kernel
theorem dX4_chain_45 : decode cX4_chain 45 = .ok (.invokevirtual 179, 3) := by decide +kernel
theorem dX4_chain_48 : decode cX4_chain 48 = .ok (.pop, 1) := by decide +kernel
theorem dX4_chain_49 : decode cX4_chain 49 = .ok (.aload_n 2, 1) := by decide +kernel
theorem dX4_chain_50 : decode cX4_chain 50 = .ok (.getfield 172, 3) := by decide +kernel
theorem dX4_chain_53 : decode cX4_chain 53 = .ok (.ireturn, 1) := by decide +kernel
theorem dX4_plan_0 : decode cX4_plan 0 = .ok (.iload_n 1, 1) := by decide +kernel
theorem dX4_plan_1 : decode cX4_plan 1 = .ok (.iconst 1, 1) := by decide +kernel
theorem dX4_plan_2 : decode cX4_plan 2 = .ok (.iconst 4, 1) := by decide +kernel
theorem dX4_plan_3 : decode cX4_plan 3 = .ok (.invokestatic 90, 3) := by decide +kernel
theorem dX4_plan_6 : decode cX4_plan 6 = .ok (.ifCond .eq 13, 3) := by decide +kernel
theorem dX4_plan_9 : decode cX4_plan 9 = .ok (.iload_n 2, 1) := by decide +kernel
theorem dX4_plan_10 : decode cX4_plan 10 = .ok (.ifCond .ge 19, 3) := by decide +kernel
theorem dX4_plan_13 : decode cX4_plan 13 = .ok (.iload_n 2, 1) := by decide +kernel
theorem dX4_plan_14 : decode cX4_plan 14 = .ok (.bipush (-2), 2) := by decide +kernel
theorem dX4_plan_16 : decode cX4_plan 16 = .ok (.if_icmp .eq 13, 3) := by decide +kernel
theorem dX4_plan_19 : decode cX4_plan 19 = .ok (.aload_n 0, 1) := by decide +kernel
theorem dX4_plan_20 : decode cX4_plan 20 = .ok (.bipush (-2), 2) := by decide +kernel
theorem dX4_plan_22 : decode cX4_plan 22 = .ok (.invokevirtual 64, 3) := by decide +kernel
theorem dX4_plan_25 : decode cX4_plan 25 = .ok (.pop, 1) := by decide +kernel
theorem dX4_plan_26 : decode cX4_plan 26 = .ok (.bipush (-10), 2) := by decide +kernel
theorem dX4_plan_28 : decode cX4_plan 28 = .ok (.ireturn, 1) := by decide +kernel
theorem dX4_plan_29 : decode cX4_plan 29 = .ok (.iload_n 2, 1) := by decide +kernel
theorem dX4_plan_30 : decode cX4_plan 30 = .ok (.iload_n 1, 1) := by decide +kernel
theorem dX4_plan_31 : decode cX4_plan 31 = .ok (.if_icmp .lt 6, 3) := by decide +kernel
theorem dX4_plan_34 : decode cX4_plan 34 = .ok (.bipush (-5), 2) := by decide +kernel
theorem dX4_plan_36 : decode cX4_plan 36 = .ok (.ireturn, 1) := by decide +kernel
theorem dX4_plan_37 : decode cX4_plan 37 = .ok (.aload_n 0, 1) := by decide +kernel
theorem dX4_plan_38 : decode cX4_plan 38 = .ok (.getfield 25, 3) := by decide +kernel
theorem dX4_plan_41 : decode cX4_plan 41 = .ok (.aload_n 0, 1) := by decide +kernel
theorem dX4_plan_42 : decode cX4_plan 42 = .ok (.getfield 10, 3) := by decide +kernel
theorem dX4_plan_45 : decode cX4_plan 45 = .ok (.getfield 68, 3) := by decide +kernel
theorem dX4_plan_48 : decode cX4_plan 48 = .ok (.iload_n 1, 1) := by decide +kernel
theorem dX4_plan_49 : decode cX4_plan 49 = .ok (.invokevirtual 183, 3) := by decide +kernel
theorem dX4_plan_52 : decode cX4_plan 52 = .ok (.iload_n 2, 1) := by decide +kernel
theorem dX4_plan_53 : decode cX4_plan 53 = .ok (.bipush (-2), 2) := by decide +kernel
theorem dX4_plan_55 : decode cX4_plan 55 = .ok (.if_icmp .ne 11, 3) := by decide +kernel
theorem dX4_plan_58 : decode cX4_plan 58 = .ok (.aload_n 0, 1) := by decide +kernel
theorem dX4_plan_59 : decode cX4_plan 59 = .ok (.getfield 25, 3) := by decide +kernel
theorem dX4_plan_62 : decode cX4_plan 62 = .ok (.getfield 187, 3) := by decide +kernel
theorem dX4_plan_65 : decode cX4_plan 65 = .ok (.ireturn, 1) := by decide +kernel
theorem dX4_plan_66 : decode cX4_plan 66 = .ok (.aload_n 0, 1) := by decide +kernel
theorem dX4_plan_67 : decode cX4_plan 67 = .ok (.getfield 25, 3) := by decide +kernel
theorem dX4_plan_70 : decode cX4_plan 70 = .ok (.getfield 190, 3) := by decide +kernel
theorem dX4_plan_73 : decode cX4_plan 73 = .ok (.iload_n 2, 1) := by decide +kernel
theorem dX4_plan_74 : decode cX4_plan 74 = .ok (.iaload, 1) := by decide +kernel
theorem dX4_plan_75 : decode cX4_plan 75 = .ok (.istore_n 3, 1) := by decide +kernel
theorem dX4_plan_76 : decode cX4_plan 76 = .ok (.iload_n 3, 1) := by decide +kernel
theorem dX4_plan_77 : decode cX4_plan 77 = .ok (.bipush 7, 2) := by decide +kernel
theorem dX4_plan_79 : decode cX4_plan 79 = .ok (.if_icmp .ne 7, 3) := by decide +kernel
theorem dX4_plan_82 : decode cX4_plan 82 = .ok (.iconst (-1), 1) := by decide +kernel
theorem dX4_plan_83 : decode cX4_plan 83 = .ok (.goto 4, 3) := by decide +kernel
theorem dX4_plan_86 : decode cX4_plan 86 = .ok (.iload_n 3, 1) := by decide +kernel
theorem dX4_plan_87 : decode cX4_plan 87 = .ok (.ireturn, 1) := by decide +kernel
theorem dX4_askFirst_0 : decode cX4_askFirst 0 = .ok (.iload_n 1, 1) := by decide +kernel
theorem dX4_askFirst_1 : decode cX4_askFirst 1 = .ok (.iconst 1, 1) := by decide +kernel
theorem dX4_askFirst_2 : decode cX4_askFirst 2 = .ok (.bipush 30, 2) := by decide +kernel
theorem dX4_askFirst_4 : decode cX4_askFirst 4 = .ok (.invokestatic 90, 3) := by decide +kernel
theorem dX4_askFirst_7 : decode cX4_askFirst 7 = .ok (.ifCond .eq 12, 3) := by decide +kernel
theorem dX4_askFirst_10 : decode cX4_askFirst 10 = .ok (.iload_n 2, 1) := by decide +kernel
theorem dX4_askFirst_11 : decode cX4_askFirst 11 = .ok (.iconst 0, 1) := by decide +kernel
theorem dX4_askFirst_12 : decode cX4_askFirst 12 = .ok (.iconst 1, 1) := by decide +kernel
theorem dX4_askFirst_13 : decode cX4_askFirst 13 = .ok (.invokestatic 90, 3) := by decide +kernel
theorem dX4_askFirst_16 : decode cX4_askFirst 16 = .ok (.ifCond .ne 10, 3) := by decide +kernel
theorem dX4_askFirst_19 : decode cX4_askFirst 19 = .ok (.aload_n 0, 1) := by decide +kernel
theorem dX4_askFirst_20 : decode cX4_askFirst 20 = .ok (.bipush (-2), 2) := by decide +kernel
theorem dX4_askFirst_22 : decode cX4_askFirst 22 = .ok (.invokevirtual 64, 3) := by decide +kernel
theorem dX4_askFirst_25 : decode cX4_askFirst 25 = .ok (.ireturn, 1) := by decide +kernel
theorem dX4_askFirst_26 : decode cX4_askFirst 26 = .ok (.iconst (-1), 1) := by decide +kernel
theorem dX4_askFirst_27 : decode cX4_askFirst 27 = .ok (.istore_n 3, 1) := by decide +kernel
theorem dX4_askFirst_28 : decode cX4_askFirst 28 = .ok (.iconst (-1), 1) := by decide +kernel
theorem dX4_askFirst_29 : decode cX4_askFirst 29 = .ok (.istore 4, 2) := by decide +kernel
theorem dX4_askFirst_31 : decode cX4_askFirst 31 = .ok (.iconst 0, 1) := by decide +kernel
theorem dX4_askFirst_32 : decode cX4_askFirst 32 = .ok (.istore 5, 2) := by decide +kernel
theorem dX4_askFirst_34 : decode cX4_askFirst 34 = .ok (.iload 5, 2) := by decide +kernel
theorem dX4_askFirst_36 : decode cX4_askFirst 36 = .ok (.aload_n 0, 1) := by decide +kernel
theorem dX4_askFirst_37 : decode cX4_askFirst 37 = .ok (.getfield 10, 3) := by decide +kernel
theorem dX4_askFirst_40 : decode cX4_askFirst 40 = .ok (.getfield 68, 3) := by decide +kernel
theorem dX4_askFirst_43 : decode cX4_askFirst 43 = .ok (.getfield 72, 3) := by decide +kernel
theorem dX4_askFirst_46 : decode cX4_askFirst 46 = .ok (.if_icmp .ge 66, 3) := by decide +kernel
theorem dX4_askFirst_49 : decode cX4_askFirst 49 = .ok (.aload_n 0, 1) := by decide +kernel
theorem dX4_askFirst_50 : decode cX4_askFirst 50 = .ok (.getfield 25, 3) := by decide +kernel
theorem dX4_askFirst_53 : decode cX4_askFirst 53 = .ok (.aload_n 0, 1) := by decide +kernel
theorem dX4_askFirst_54 : decode cX4_askFirst 54 = .ok (.getfield 10, 3) := by decide +kernel
theorem dX4_askFirst_57 : decode cX4_askFirst 57 = .ok (.getfield 68, 3) := by decide +kernel
theorem dX4_askFirst_60 : decode cX4_askFirst 60 = .ok (.invokevirtual 165, 3) := by decide +kernel
theorem dX4_askFirst_63 : decode cX4_askFirst 63 = .ok (.astore 6, 2) := by decide +kernel
theorem dX4_askFirst_65 : decode cX4_askFirst 65 = .ok (.aload 6, 2) := by decide +kernel
theorem dX4_askFirst_67 : decode cX4_askFirst 67 = .ok (.iload 5, 2) := by decide +kernel
theorem dX4_askFirst_69 : decode cX4_askFirst 69 = .ok (.invokevirtual 134, 3) := by decide +kernel
theorem dX4_askFirst_72 : decode cX4_askFirst 72 = .ok (.istore 7, 2) := by decide +kernel
theorem dX4_askFirst_74 : decode cX4_askFirst 74 = .ok (.iload 7, 2) := by decide +kernel
theorem dX4_askFirst_76 : decode cX4_askFirst 76 = .ok (.aload 6, 2) := by decide +kernel
theorem dX4_askFirst_78 : decode cX4_askFirst 78 = .ok (.iload_n 1, 1) := by decide +kernel
theorem dX4_askFirst_79 : decode cX4_askFirst 79 = .ok (.iconst 1, 1) := by decide +kernel
theorem dX4_askFirst_80 : decode cX4_askFirst 80 = .ok (.isub, 1) := by decide +kernel
theorem dX4_askFirst_81 : decode cX4_askFirst 81 = .ok (.invokevirtual 169, 3) := by decide +kernel
theorem dX4_askFirst_84 : decode cX4_askFirst 84 = .ok (.iadd, 1) := by decide +kernel
theorem dX4_askFirst_85 : decode cX4_askFirst 85 = .ok (.istore 7, 2) := by decide +kernel
theorem dX4_askFirst_87 : decode cX4_askFirst 87 = .ok (.iload_n 3, 1) := by decide +kernel
theorem dX4_askFirst_88 : decode cX4_askFirst 88 = .ok (.iconst (-1), 1) := by decide +kernel
theorem dX4_askFirst_89 : decode cX4_askFirst 89 = .ok (.if_icmp .eq 10, 3) := by decide +kernel
theorem dX4_askFirst_92 : decode cX4_askFirst 92 = .ok (.iload 7, 2) := by decide +kernel
theorem dX4_askFirst_94 : decode cX4_askFirst 94 = .ok (.iload 4, 2) := by decide +kernel
theorem dX4_askFirst_96 : decode cX4_askFirst 96 = .ok (.if_icmp .ge 10, 3) := by decide +kernel
theorem dX4_askFirst_99 : decode cX4_askFirst 99 = .ok (.iload 5, 2) := by decide +kernel
theorem dX4_askFirst_101 : decode cX4_askFirst 101 = .ok (.istore_n 3, 1) := by decide +kernel
theorem dX4_askFirst_102 : decode cX4_askFirst 102 = .ok (.iload 7, 2) := by decide +kernel
theorem dX4_askFirst_104 : decode cX4_askFirst 104 = .ok (.istore 4, 2) := by decide +kernel
theorem dX4_askFirst_106 : decode cX4_askFirst 106 = .ok (.iinc 5 1, 3) := by decide +kernel
theorem dX4_askFirst_109 : decode cX4_askFirst 109 = .ok (.goto (-75), 3) := by decide +kernel
theorem dX4_askFirst_112 : decode cX4_askFirst 112 = .ok (.iload_n 2, 1) := by decide +kernel
theorem dX4_askFirst_113 : decode cX4_askFirst 113 = .ok (.ifCond .ne 7, 3) := by decide +kernel
theorem dX4_askFirst_116 : decode cX4_askFirst 116 = .ok (.iload_n 3, 1) := by decide +kernel
theorem dX4_askFirst_117 : decode cX4_askFirst 117 = .ok (.goto 5, 3) := by decide +kernel
theorem dX4_askFirst_120 : decode cX4_askFirst 120 = .ok (.iload 4, 2) := by decide +kernel
theorem dX4_askFirst_122 : decode cX4_askFirst 122 = .ok (.ireturn, 1) := by decide +kernel
theorem dX4_calm_0 : decode cX4_calm 0 = .ok (.iload_n 1, 1) := by decide +kernel
theorem dX4_calm_1 : decode cX4_calm 1 = .ok (.iconst 1, 1) := by decide +kernel
theorem dX4_calm_2 : decode cX4_calm 2 = .ok (.bipush 30, 2) := by decide +kernel
theorem dX4_calm_4 : decode cX4_calm 4 = .ok (.invokestatic 90, 3) := by decide +kernel
theorem dX4_calm_7 : decode cX4_calm 7 = .ok (.ifCond .eq 12, 3) := by decide +kernel
theorem dX4_calm_10 : decode cX4_calm 10 = .ok (.iload_n 2, 1) := by decide +kernel
theorem dX4_calm_11 : decode cX4_calm 11 = .ok (.iconst 0, 1) := by decide +kernel
theorem dX4_calm_12 : decode cX4_calm 12 = .ok (.iconst 1, 1) := by decide +kernel
theorem dX4_calm_13 : decode cX4_calm 13 = .ok (.invokestatic 90, 3) := by decide +kernel
theorem dX4_calm_16 : decode cX4_calm 16 = .ok (.ifCond .ne 10, 3) := by decide +kernel
theorem dX4_calm_19 : decode cX4_calm 19 = .ok (.aload_n 0, 1) := by decide +kernel
theorem dX4_calm_20 : decode cX4_calm 20 = .ok (.bipush (-2), 2) := by decide +kernel
theorem dX4_calm_22 : decode cX4_calm 22 = .ok (.invokevirtual 64, 3) := by decide +kernel
theorem dX4_calm_25 : decode cX4_calm 25 = .ok (.ireturn, 1) := by decide +kernel
theorem dX4_calm_26 : decode cX4_calm 26 = .ok (.iconst (-1), 1) := by decide +kernel
theorem dX4_calm_27 : decode cX4_calm 27 = .ok (.istore_n 3, 1) := by decide +kernel
theorem dX4_calm_28 : decode cX4_calm 28 = .ok (.iconst (-1), 1) := by decide +kernel
theorem dX4_calm_29 : decode cX4_calm 29 = .ok (.istore 4, 2) := by decide +kernel
theorem dX4_calm_31 : decode cX4_calm 31 = .ok (.iconst 0, 1) := by decide +kernel
theorem dX4_calm_32 : decode cX4_calm 32 = .ok (.istore 5, 2) := by decide +kernel
theorem dX4_calm_34 : decode cX4_calm 34 = .ok (.iload 5, 2) := by decide +kernel
theorem dX4_calm_36 : decode cX4_calm 36 = .ok (.bipush 6, 2) := by decide +kernel
theorem dX4_calm_38 : decode cX4_calm 38 = .ok (.if_icmp .ge 59, 3) := by decide +kernel
theorem dX4_calm_41 : decode cX4_calm 41 = .ok (.aload_n 0, 1) := by decide +kernel
theorem dX4_calm_42 : decode cX4_calm 42 = .ok (.getfield 25, 3) := by decide +kernel
theorem dX4_calm_45 : decode cX4_calm 45 = .ok (.aload_n 0, 1) := by decide +kernel
theorem dX4_calm_46 : decode cX4_calm 46 = .ok (.getfield 10, 3) := by decide +kernel
theorem dX4_calm_49 : decode cX4_calm 49 = .ok (.getfield 68, 3) := by decide +kernel
theorem dX4_calm_52 : decode cX4_calm 52 = .ok (.invokevirtual 165, 3) := by decide +kernel
theorem dX4_calm_55 : decode cX4_calm 55 = .ok (.astore 6, 2) := by decide +kernel
theorem dX4_calm_57 : decode cX4_calm 57 = .ok (.aload 6, 2) := by decide +kernel
theorem dX4_calm_59 : decode cX4_calm 59 = .ok (.iload 5, 2) := by decide +kernel
theorem dX4_calm_61 : decode cX4_calm 61 = .ok (.putfield 81, 3) := by decide +kernel
theorem dX4_calm_64 : decode cX4_calm 64 = .ok (.aload 6, 2) := by decide +kernel
theorem dX4_calm_66 : decode cX4_calm 66 = .ok (.iload_n 1, 1) := by decide +kernel
theorem dX4_calm_67 : decode cX4_calm 67 = .ok (.invokevirtual 193, 3) := by decide +kernel
theorem dX4_calm_70 : decode cX4_calm 70 = .ok (.istore 7, 2) := by decide +kernel
theorem dX4_calm_72 : decode cX4_calm 72 = .ok (.iload_n 3, 1) := by decide +kernel
theorem dX4_calm_73 : decode cX4_calm 73 = .ok (.iconst (-1), 1) := by decide +kernel
theorem dX4_calm_74 : decode cX4_calm 74 = .ok (.if_icmp .eq 10, 3) := by decide +kernel
theorem dX4_calm_77 : decode cX4_calm 77 = .ok (.iload 7, 2) := by decide +kernel
theorem dX4_calm_79 : decode cX4_calm 79 = .ok (.iload 4, 2) := by decide +kernel
theorem dX4_calm_81 : decode cX4_calm 81 = .ok (.if_icmp .ge 10, 3) := by decide +kernel
theorem dX4_calm_84 : decode cX4_calm 84 = .ok (.iload 5, 2) := by decide +kernel
theorem dX4_calm_86 : decode cX4_calm 86 = .ok (.istore_n 3, 1) := by decide +kernel
theorem dX4_calm_87 : decode cX4_calm 87 = .ok (.iload 7, 2) := by decide +kernel
theorem dX4_calm_89 : decode cX4_calm 89 = .ok (.istore 4, 2) := by decide +kernel
theorem dX4_calm_91 : decode cX4_calm 91 = .ok (.iinc 5 1, 3) := by decide +kernel
theorem dX4_calm_94 : decode cX4_calm 94 = .ok (.goto (-60), 3) := by decide +kernel
theorem dX4_calm_97 : decode cX4_calm 97 = .ok (.iload_n 2, 1) := by decide +kernel
theorem dX4_calm_98 : decode cX4_calm 98 = .ok (.ifCond .ne 7, 3) := by decide +kernel
theorem dX4_calm_101 : decode cX4_calm 101 = .ok (.iload_n 3, 1) := by decide +kernel
theorem dX4_calm_102 : decode cX4_calm 102 = .ok (.goto 5, 3) := by decide +kernel
theorem dX4_calm_105 : decode cX4_calm 105 = .ok (.iload 4, 2) := by decide +kernel
theorem dX4_calm_107 : decode cX4_calm 107 = .ok (.ireturn, 1) := by decide +kernel
theorem dX4_seen_0 : decode cX4_seen 0 = .ok (.aload_n 0, 1) := by decide +kernel
theorem dX4_seen_1 : decode cX4_seen 1 = .ok (.getfield 10, 3) := by decide +kernel
theorem dX4_seen_4 : decode cX4_seen 4 = .ok (.getfield 68, 3) := by decide +kernel
theorem dX4_seen_7 : decode cX4_seen 7 = .ok (.iload_n 1, 1) := by decide +kernel
theorem dX4_seen_8 : decode cX4_seen 8 = .ok (.invokevirtual 146, 3) := by decide +kernel
theorem dX4_seen_11 : decode cX4_seen 11 = .ok (.ifCond .eq 34, 3) := by decide +kernel
theorem dX4_seen_14 : decode cX4_seen 14 = .ok (.iload_n 2, 1) := by decide +kernel
theorem dX4_seen_15 : decode cX4_seen 15 = .ok (.iconst 0, 1) := by decide +kernel
theorem dX4_seen_16 : decode cX4_seen 16 = .ok (.bipush 99, 2) := by decide +kernel
theorem dX4_seen_18 : decode cX4_seen 18 = .ok (.invokestatic 90, 3) := by decide +kernel
theorem dX4_seen_21 : decode cX4_seen 21 = .ok (.ifCond .eq 24, 3) := by decide +kernel
theorem dX4_seen_24 : decode cX4_seen 24 = .ok (.iload_n 3, 1) := by decide +kernel
theorem dX4_seen_25 : decode cX4_seen 25 = .ok (.iconst 0, 1) := by decide +kernel
theorem dX4_seen_26 : decode cX4_seen 26 = .ok (.bipush 59, 2) := by decide +kernel
theorem dX4_seen_28 : decode cX4_seen 28 = .ok (.invokestatic 90, 3) := by decide +kernel
theorem dX4_seen_31 : decode cX4_seen 31 = .ok (.ifCond .eq 14, 3) := by decide +kernel
theorem dX4_seen_34 : decode cX4_seen 34 = .ok (.iload 4, 2) := by decide +kernel
theorem dX4_seen_36 : decode cX4_seen 36 = .ok (.iconst 0, 1) := by decide +kernel
theorem dX4_seen_37 : decode cX4_seen 37 = .ok (.bipush 99, 2) := by decide +kernel
theorem dX4_seen_39 : decode cX4_seen 39 = .ok (.invokestatic 90, 3) := by decide +kernel
theorem dX4_seen_42 : decode cX4_seen 42 = .ok (.ifCond .ne 10, 3) := by decide +kernel
theorem dX4_seen_45 : decode cX4_seen 45 = .ok (.aload_n 0, 1) := by decide +kernel
theorem dX4_seen_46 : decode cX4_seen 46 = .ok (.bipush (-2), 2) := by decide +kernel
theorem dX4_seen_48 : decode cX4_seen 48 = .ok (.invokevirtual 64, 3) := by decide +kernel
theorem dX4_seen_51 : decode cX4_seen 51 = .ok (.ireturn, 1) := by decide +kernel
theorem dX4_seen_52 : decode cX4_seen 52 = .ok (.aload_n 0, 1) := by decide +kernel
theorem dX4_seen_53 : decode cX4_seen 53 = .ok (.getfield 10, 3) := by decide +kernel
theorem dX4_seen_56 : decode cX4_seen 56 = .ok (.getfield 196, 3) := by decide +kernel
theorem dX4_seen_59 : decode cX4_seen 59 = .ok (.iconst 5, 1) := by decide +kernel
theorem dX4_seen_60 : decode cX4_seen 60 = .ok (.if_icmp .lt 10, 3) := by decide +kernel
theorem dX4_seen_63 : decode cX4_seen 63 = .ok (.aload_n 0, 1) := by decide +kernel
theorem dX4_seen_64 : decode cX4_seen 64 = .ok (.bipush (-4), 2) := by decide +kernel
theorem dX4_seen_66 : decode cX4_seen 66 = .ok (.invokevirtual 64, 3) := by decide +kernel
theorem dX4_seen_69 : decode cX4_seen 69 = .ok (.ireturn, 1) := by decide +kernel
theorem dX4_seen_70 : decode cX4_seen 70 = .ok (.aload_n 0, 1) := by decide +kernel
theorem dX4_seen_71 : decode cX4_seen 71 = .ok (.getfield 10, 3) := by decide +kernel
theorem dX4_seen_74 : decode cX4_seen 74 = .ok (.iload_n 1, 1) := by decide +kernel
theorem dX4_seen_75 : decode cX4_seen 75 = .ok (.iload_n 2, 1) := by decide +kernel
theorem dX4_seen_76 : decode cX4_seen 76 = .ok (.iload_n 3, 1) := by decide +kernel
theorem dX4_seen_77 : decode cX4_seen 77 = .ok (.iload 4, 2) := by decide +kernel
theorem dX4_seen_79 : decode cX4_seen 79 = .ok (.invokevirtual 199, 3) := by decide +kernel
theorem dX4_seen_82 : decode cX4_seen 82 = .ok (.aload_n 0, 1) := by decide +kernel
theorem dX4_seen_83 : decode cX4_seen 83 = .ok (.getfield 10, 3) := by decide +kernel
theorem dX4_seen_86 : decode cX4_seen 86 = .ok (.getfield 196, 3) := by decide +kernel
theorem dX4_seen_89 : decode cX4_seen 89 = .ok (.ireturn, 1) := by decide +kernel
theorem dX4_which_0 : decode cX4_which 0 = .ok (.aload_n 0, 1) := by decide +kernel
theorem dX4_which_1 : decode cX4_which 1 = .ok (.getfield 10, 3) := by decide +kernel
theorem dX4_which_4 : decode cX4_which 4 = .ok (.getfield 68, 3) := by decide +kernel
theorem dX4_which_7 : decode cX4_which 7 = .ok (.iload_n 1, 1) := by decide +kernel
theorem dX4_which_8 : decode cX4_which 8 = .ok (.invokevirtual 146, 3) := by decide +kernel
theorem dX4_which_11 : decode cX4_which 11 = .ok (.ifCond .ne 10, 3) := by decide +kernel
theorem dX4_which_14 : decode cX4_which 14 = .ok (.aload_n 0, 1) := by decide +kernel
theorem dX4_which_15 : decode cX4_which 15 = .ok (.bipush (-2), 2) := by decide +kernel
theorem dX4_which_17 : decode cX4_which 17 = .ok (.invokevirtual 64, 3) := by decide +kernel
theorem dX4_which_20 : decode cX4_which 20 = .ok (.ireturn, 1) := by decide +kernel
theorem dX4_which_21 : decode cX4_which 21 = .ok (.aload_n 0, 1) := by decide +kernel
theorem dX4_which_22 : decode cX4_which 22 = .ok (.getfield 10, 3) := by decide +kernel
theorem dX4_which_25 : decode cX4_which 25 = .ok (.iload_n 1, 1) := by decide +kernel
theorem dX4_which_26 : decode cX4_which 26 = .ok (.invokevirtual 203, 3) := by decide +kernel
theorem dX4_which_29 : decode cX4_which 29 = .ok (.ireturn, 1) := by decide +kernel
theorem dX4_next_0 : decode cX4_next 0 = .ok (.aload_n 0, 1) := by decide +kernel
theorem dX4_next_1 : decode cX4_next 1 = .ok (.getfield 10, 3) := by decide +kernel
theorem dX4_next_4 : decode cX4_next 4 = .ok (.getfield 68, 3) := by decide +kernel
theorem dX4_next_7 : decode cX4_next 7 = .ok (.iload_n 1, 1) := by decide +kernel
theorem dX4_next_8 : decode cX4_next 8 = .ok (.invokevirtual 146, 3) := by decide +kernel
theorem dX4_next_11 : decode cX4_next 11 = .ok (.ifCond .ne 10, 3) := by decide +kernel
theorem dX4_next_14 : decode cX4_next 14 = .ok (.aload_n 0, 1) := by decide +kernel
theorem dX4_next_15 : decode cX4_next 15 = .ok (.bipush (-2), 2) := by decide +kernel
theorem dX4_next_17 : decode cX4_next 17 = .ok (.invokevirtual 64, 3) := by decide +kernel
theorem dX4_next_20 : decode cX4_next 20 = .ok (.ireturn, 1) := by decide +kernel
theorem dX4_next_21 : decode cX4_next 21 = .ok (.aload_n 0, 1) := by decide +kernel
theorem dX4_next_22 : decode cX4_next 22 = .ok (.iconst 0, 1) := by decide +kernel
theorem dX4_next_23 : decode cX4_next 23 = .ok (.aload_n 0, 1) := by decide +kernel
theorem dX4_next_24 : decode cX4_next 24 = .ok (.getfield 10, 3) := by decide +kernel
theorem dX4_next_27 : decode cX4_next 27 = .ok (.iload_n 1, 1) := by decide +kernel
theorem dX4_next_28 : decode cX4_next 28 = .ok (.invokevirtual 203, 3) := by decide +kernel
theorem dX4_next_31 : decode cX4_next 31 = .ok (.iconst 5, 1) := by decide +kernel
theorem dX4_next_32 : decode cX4_next 32 = .ok (.bipush 10, 2) := by decide +kernel
theorem dX4_next_34 : decode cX4_next 34 = .ok (.bipush 13, 2) := by decide +kernel
theorem dX4_next_36 : decode cX4_next 36 = .ok (.invokevirtual 206, 3) := by decide +kernel
theorem dX4_next_39 : decode cX4_next 39 = .ok (.ireturn, 1) := by decide +kernel
theorem dX4_mark_0 : decode cX4_mark 0 = .ok (.iload_n 1, 1) := by decide +kernel
theorem dX4_mark_1 : decode cX4_mark 1 = .ok (.iconst 0, 1) := by decide +kernel
theorem dX4_mark_2 : decode cX4_mark 2 = .ok (.bipush 99, 2) := by decide +kernel
theorem dX4_mark_4 : decode cX4_mark 4 = .ok (.invokestatic 90, 3) := by decide +kernel
theorem dX4_mark_7 : decode cX4_mark 7 = .ok (.ifCond .eq 23, 3) := by decide +kernel
theorem dX4_mark_10 : decode cX4_mark 10 = .ok (.iload_n 2, 1) := by decide +kernel
theorem dX4_mark_11 : decode cX4_mark 11 = .ok (.iconst 0, 1) := by decide +kernel
theorem dX4_mark_12 : decode cX4_mark 12 = .ok (.bipush 59, 2) := by decide +kernel
theorem dX4_mark_14 : decode cX4_mark 14 = .ok (.invokestatic 90, 3) := by decide +kernel
theorem dX4_mark_17 : decode cX4_mark 17 = .ok (.ifCond .eq 13, 3) := by decide +kernel
theorem dX4_mark_20 : decode cX4_mark 20 = .ok (.iload_n 3, 1) := by decide +kernel
theorem dX4_mark_21 : decode cX4_mark 21 = .ok (.iconst 0, 1) := by decide +kernel
theorem dX4_mark_22 : decode cX4_mark 22 = .ok (.bipush 40, 2) := by decide +kernel
theorem dX4_mark_24 : decode cX4_mark 24 = .ok (.invokestatic 90, 3) := by decide +kernel
theorem dX4_mark_27 : decode cX4_mark 27 = .ok (.ifCond .ne 10, 3) := by decide +kernel
theorem dX4_mark_30 : decode cX4_mark 30 = .ok (.aload_n 0, 1) := by decide +kernel
theorem dX4_mark_31 : decode cX4_mark 31 = .ok (.bipush (-2), 2) := by decide +kernel
theorem dX4_mark_33 : decode cX4_mark 33 = .ok (.invokevirtual 64, 3) := by decide +kernel
theorem dX4_mark_36 : decode cX4_mark 36 = .ok (.ireturn, 1) := by decide +kernel
theorem dX4_mark_37 : decode cX4_mark 37 = .ok (.aload_n 0, 1) := by decide +kernel
theorem dX4_mark_38 : decode cX4_mark 38 = .ok (.getfield 10, 3) := by decide +kernel
theorem dX4_mark_41 : decode cX4_mark 41 = .ok (.getfield 210, 3) := by decide +kernel
theorem dX4_mark_44 : decode cX4_mark 44 = .ok (.bipush 6, 2) := by decide +kernel
theorem dX4_mark_46 : decode cX4_mark 46 = .ok (.if_icmp .lt 10, 3) := by decide +kernel
theorem dX4_mark_49 : decode cX4_mark 49 = .ok (.aload_n 0, 1) := by decide +kernel
theorem dX4_mark_50 : decode cX4_mark 50 = .ok (.bipush (-4), 2) := by decide +kernel
theorem dX4_mark_52 : decode cX4_mark 52 = .ok (.invokevirtual 64, 3) := by decide +kernel
theorem dX4_mark_55 : decode cX4_mark 55 = .ok (.ireturn, 1) := by decide +kernel
theorem dX4_mark_56 : decode cX4_mark 56 = .ok (.aload_n 0, 1) := by decide +kernel
theorem dX4_mark_57 : decode cX4_mark 57 = .ok (.getfield 10, 3) := by decide +kernel
theorem dX4_mark_60 : decode cX4_mark 60 = .ok (.iload_n 1, 1) := by decide +kernel
theorem dX4_mark_61 : decode cX4_mark 61 = .ok (.iload_n 2, 1) := by decide +kernel
theorem dX4_mark_62 : decode cX4_mark 62 = .ok (.iload_n 3, 1) := by decide +kernel
theorem dX4_mark_63 : decode cX4_mark 63 = .ok (.invokevirtual 213, 3) := by decide +kernel
theorem dX4_mark_66 : decode cX4_mark 66 = .ok (.aload_n 0, 1) := by decide +kernel
theorem dX4_mark_67 : decode cX4_mark 67 = .ok (.getfield 10, 3) := by decide +kernel
theorem dX4_mark_70 : decode cX4_mark 70 = .ok (.getfield 210, 3) := by decide +kernel
theorem dX4_mark_73 : decode cX4_mark 73 = .ok (.ireturn, 1) := by decide +kernel
theorem dX4_forget_0 : decode cX4_forget 0 = .ok (.iload_n 1, 1) := by decide +kernel
theorem dX4_forget_1 : decode cX4_forget 1 = .ok (.iconst 0, 1) := by decide +kernel
theorem dX4_forget_2 : decode cX4_forget 2 = .ok (.iconst 1, 1) := by decide +kernel
theorem dX4_forget_3 : decode cX4_forget 3 = .ok (.invokestatic 90, 3) := by decide +kernel
theorem dX4_forget_6 : decode cX4_forget 6 = .ok (.ifCond .ne 10, 3) := by decide +kernel
theorem dX4_forget_9 : decode cX4_forget 9 = .ok (.aload_n 0, 1) := by decide +kernel
theorem dX4_forget_10 : decode cX4_forget 10 = .ok (.bipush (-2), 2) := by decide +kernel
theorem dX4_forget_12 : decode cX4_forget 12 = .ok (.invokevirtual 64, 3) := by decide +kernel
theorem dX4_forget_15 : decode cX4_forget 15 = .ok (.ireturn, 1) := by decide +kernel
theorem dX4_forget_16 : decode cX4_forget 16 = .ok (.iload_n 1, 1) := by decide +kernel
theorem dX4_forget_17 : decode cX4_forget 17 = .ok (.ifCond .ne 22, 3) := by decide +kernel
theorem dX4_forget_20 : decode cX4_forget 20 = .ok (.aload_n 0, 1) := by decide +kernel
theorem dX4_forget_21 : decode cX4_forget 21 = .ok (.getfield 10, 3) := by decide +kernel
theorem dX4_forget_24 : decode cX4_forget 24 = .ok (.getfield 196, 3) := by decide +kernel
theorem dX4_forget_27 : decode cX4_forget 27 = .ok (.istore_n 2, 1) := by decide +kernel
theorem dX4_forget_28 : decode cX4_forget 28 = .ok (.aload_n 0, 1) := by decide +kernel
theorem dX4_forget_29 : decode cX4_forget 29 = .ok (.getfield 10, 3) := by decide +kernel
theorem dX4_forget_32 : decode cX4_forget 32 = .ok (.iconst 0, 1) := by decide +kernel
theorem dX4_forget_33 : decode cX4_forget 33 = .ok (.putfield 196, 3) := by decide +kernel
theorem dX4_forget_36 : decode cX4_forget 36 = .ok (.goto 19, 3) := by decide +kernel
theorem dX4_forget_39 : decode cX4_forget 39 = .ok (.aload_n 0, 1) := by decide +kernel
theorem dX4_forget_40 : decode cX4_forget 40 = .ok (.getfield 10, 3) := by decide +kernel
theorem dX4_forget_43 : decode cX4_forget 43 = .ok (.getfield 210, 3) := by decide +kernel
theorem dX4_forget_46 : decode cX4_forget 46 = .ok (.istore_n 2, 1) := by decide +kernel
theorem dX4_forget_47 : decode cX4_forget 47 = .ok (.aload_n 0, 1) := by decide +kernel
theorem dX4_forget_48 : decode cX4_forget 48 = .ok (.getfield 10, 3) := by decide +kernel
theorem dX4_forget_51 : decode cX4_forget 51 = .ok (.iconst 0, 1) := by decide +kernel
theorem dX4_forget_52 : decode cX4_forget 52 = .ok (.putfield 210, 3) := by decide +kernel
theorem dX4_forget_55 : decode cX4_forget 55 = .ok (.iload_n 2, 1) := by decide +kernel
theorem dX4_forget_56 : decode cX4_forget 56 = .ok (.ireturn, 1) := by decide +kernel
theorem dX4_kinds_0 : decode cX4_kinds 0 = .ok (.aload_n 0, 1) := by decide +kernel
theorem dX4_kinds_1 : decode cX4_kinds 1 = .ok (.getfield 10, 3) := by decide +kernel
theorem dX4_kinds_4 : decode cX4_kinds 4 = .ok (.invokevirtual 216, 3) := by decide +kernel
theorem dX4_kinds_7 : decode cX4_kinds 7 = .ok (.ireturn, 1) := by decide +kernel
theorem dX4_look_0 : decode cX4_look 0 = .ok (.aload_n 0, 1) := by decide +kernel
theorem dX4_look_1 : decode cX4_look 1 = .ok (.iconst 1, 1) := by decide +kernel
theorem dX4_look_2 : decode cX4_look 2 = .ok (.aload_n 0, 1) := by decide +kernel
theorem dX4_look_3 : decode cX4_look 3 = .ok (.getfield 10, 3) := by decide +kernel
theorem dX4_look_6 : decode cX4_look 6 = .ok (.invokevirtual 216, 3) := by decide +kernel
theorem dX4_look_9 : decode cX4_look 9 = .ok (.bipush 59, 2) := by decide +kernel
theorem dX4_look_11 : decode cX4_look 11 = .ok (.iconst 1, 1) := by decide +kernel
theorem dX4_look_12 : decode cX4_look 12 = .ok (.iconst 5, 1) := by decide +kernel
theorem dX4_look_13 : decode cX4_look 13 = .ok (.invokevirtual 206, 3) := by decide +kernel
theorem dX4_look_16 : decode cX4_look 16 = .ok (.ireturn, 1) := by decide +kernel
theorem dX4_waiting_0 : decode cX4_waiting 0 = .ok (.iload_n 1, 1) := by decide +kernel
theorem dX4_waiting_1 : decode cX4_waiting 1 = .ok (.iconst (-1), 1) := by decide +kernel
theorem dX4_waiting_2 : decode cX4_waiting 2 = .ok (.if_icmp .ge 13, 3) := by decide +kernel
theorem dX4_waiting_5 : decode cX4_waiting 5 = .ok (.aload_n 0, 1) := by decide +kernel
theorem dX4_waiting_6 : decode cX4_waiting 6 = .ok (.bipush (-2), 2) := by decide +kernel
theorem dX4_waiting_8 : decode cX4_waiting 8 = .ok (.invokevirtual 64, 3) := by decide +kernel
theorem dX4_waiting_11 : decode cX4_waiting 11 = .ok (.pop, 1) := by decide +kernel
theorem dX4_waiting_12 : decode cX4_waiting 12 = .ok (.bipush (-10), 2) := by decide +kernel
theorem dX4_waiting_14 : decode cX4_waiting 14 = .ok (.ireturn, 1) := by decide +kernel
theorem dX4_waiting_15 : decode cX4_waiting 15 = .ok (.aload_n 0, 1) := by decide +kernel
theorem dX4_waiting_16 : decode cX4_waiting 16 = .ok (.invokevirtual 219, 3) := by decide +kernel
theorem dX4_waiting_19 : decode cX4_waiting 19 = .ok (.iconst 0, 1) := by decide +kernel
theorem dX4_waiting_20 : decode cX4_waiting 20 = .ok (.istore_n 2, 1) := by decide +kernel
theorem dX4_waiting_21 : decode cX4_waiting 21 = .ok (.iconst 0, 1) := by decide +kernel
theorem dX4_waiting_22 : decode cX4_waiting 22 = .ok (.istore_n 3, 1) := by decide +kernel
theorem dX4_waiting_23 : decode cX4_waiting 23 = .ok (.iload_n 3, 1) := by decide +kernel
theorem dX4_waiting_24 : decode cX4_waiting 24 = .ok (.bipush 8, 2) := by decide +kernel
theorem dX4_waiting_26 : decode cX4_waiting 26 = .ok (.if_icmp .ge 80, 3) := by decide +kernel
theorem dX4_waiting_29 : decode cX4_waiting 29 = .ok (.iconst 0, 1) := by decide +kernel
theorem dX4_waiting_30 : decode cX4_waiting 30 = .ok (.istore 4, 2) := by decide +kernel
theorem dX4_waiting_32 : decode cX4_waiting 32 = .ok (.iload 4, 2) := by decide +kernel
theorem dX4_waiting_34 : decode cX4_waiting 34 = .ok (.bipush 8, 2) := by decide +kernel
theorem dX4_waiting_36 : decode cX4_waiting 36 = .ok (.if_icmp .ge 64, 3) := by decide +kernel
theorem dX4_waiting_39 : decode cX4_waiting 39 = .ok (.aload_n 0, 1) := by decide +kernel
theorem dX4_waiting_40 : decode cX4_waiting 40 = .ok (.getfield 10, 3) := by decide +kernel
theorem dX4_waiting_43 : decode cX4_waiting 43 = .ok (.getfield 68, 3) := by decide +kernel
theorem dX4_waiting_46 : decode cX4_waiting 46 = .ok (.iload_n 3, 1) := by decide +kernel
theorem dX4_waiting_47 : decode cX4_waiting 47 = .ok (.invokevirtual 125, 3) := by decide +kernel
theorem dX4_waiting_50 : decode cX4_waiting 50 = .ok (.ifCond .eq 44, 3) := by decide +kernel
theorem dX4_waiting_53 : decode cX4_waiting 53 = .ok (.aload_n 0, 1) := by decide +kernel
theorem dX4_waiting_54 : decode cX4_waiting 54 = .ok (.getfield 10, 3) := by decide +kernel
theorem dX4_waiting_57 : decode cX4_waiting 57 = .ok (.getfield 68, 3) := by decide +kernel
theorem dX4_waiting_60 : decode cX4_waiting 60 = .ok (.iload 4, 2) := by decide +kernel
theorem dX4_waiting_62 : decode cX4_waiting 62 = .ok (.invokevirtual 125, 3) := by decide +kernel
theorem dX4_waiting_65 : decode cX4_waiting 65 = .ok (.ifCond .eq 29, 3) := by decide +kernel
theorem dX4_waiting_68 : decode cX4_waiting 68 = .ok (.aload_n 0, 1) := by decide +kernel
theorem dX4_waiting_69 : decode cX4_waiting 69 = .ok (.iload_n 3, 1) := by decide +kernel
theorem dX4_waiting_70 : decode cX4_waiting 70 = .ok (.iload 4, 2) := by decide +kernel
theorem dX4_waiting_72 : decode cX4_waiting 72 = .ok (.invokevirtual 222, 3) := by decide +kernel
theorem dX4_waiting_75 : decode cX4_waiting 75 = .ok (.ifCond .eq 19, 3) := by decide +kernel
theorem dX4_waiting_78 : decode cX4_waiting 78 = .ok (.iload_n 2, 1) := by decide +kernel
theorem dX4_waiting_79 : decode cX4_waiting 79 = .ok (.iload_n 1, 1) := by decide +kernel
theorem dX4_waiting_80 : decode cX4_waiting 80 = .ok (.if_icmp .ne 11, 3) := by decide +kernel
theorem dX4_waiting_83 : decode cX4_waiting 83 = .ok (.bipush 10, 2) := by decide +kernel
theorem dX4_waiting_85 : decode cX4_waiting 85 = .ok (.iload_n 3, 1) := by decide +kernel
theorem dX4_waiting_86 : decode cX4_waiting 86 = .ok (.imul, 1) := by decide +kernel
theorem dX4_waiting_87 : decode cX4_waiting 87 = .ok (.iload 4, 2) := by decide +kernel
theorem dX4_waiting_89 : decode cX4_waiting 89 = .ok (.iadd, 1) := by decide +kernel
theorem dX4_waiting_90 : decode cX4_waiting 90 = .ok (.ireturn, 1) := by decide +kernel
theorem dX4_waiting_91 : decode cX4_waiting 91 = .ok (.iinc 2 1, 3) := by decide +kernel
theorem dX4_waiting_94 : decode cX4_waiting 94 = .ok (.iinc 4 1, 3) := by decide +kernel
theorem dX4_waiting_97 : decode cX4_waiting 97 = .ok (.goto (-65), 3) := by decide +kernel
theorem dX4_waiting_100 : decode cX4_waiting 100 = .ok (.iinc 3 1, 3) := by decide +kernel
theorem dX4_waiting_103 : decode cX4_waiting 103 = .ok (.goto (-80), 3) := by decide +kernel
theorem dX4_waiting_106 : decode cX4_waiting 106 = .ok (.iload_n 1, 1) := by decide +kernel
theorem dX4_waiting_107 : decode cX4_waiting 107 = .ok (.iconst (-1), 1) := by decide +kernel
theorem dX4_waiting_108 : decode cX4_waiting 108 = .ok (.if_icmp .ne 7, 3) := by decide +kernel
theorem dX4_waiting_111 : decode cX4_waiting 111 = .ok (.iload_n 2, 1) := by decide +kernel
theorem dX4_waiting_112 : decode cX4_waiting 112 = .ok (.goto 5, 3) := by decide +kernel
theorem dX4_waiting_115 : decode cX4_waiting 115 = .ok (.bipush (-5), 2) := by decide +kernel
theorem dX4_waiting_117 : decode cX4_waiting 117 = .ok (.ireturn, 1) := by decide +kernel
theorem dX4_chance_0 : decode cX4_chance 0 = .ok (.iload_n 1, 1) := by decide +kernel
theorem dX4_chance_1 : decode cX4_chance 1 = .ok (.iconst 0, 1) := by decide +kernel
theorem dX4_chance_2 : decode cX4_chance 2 = .ok (.iconst 4, 1) := by decide +kernel
theorem dX4_chance_3 : decode cX4_chance 3 = .ok (.invokestatic 90, 3) := by decide +kernel
theorem dX4_chance_6 : decode cX4_chance 6 = .ok (.ifCond .eq 23, 3) := by decide +kernel
theorem dX4_chance_9 : decode cX4_chance 9 = .ok (.iload_n 2, 1) := by decide +kernel
theorem dX4_chance_10 : decode cX4_chance 10 = .ok (.iconst 0, 1) := by decide +kernel
theorem dX4_chance_11 : decode cX4_chance 11 = .ok (.bipush 50, 2) := by decide +kernel
theorem dX4_chance_13 : decode cX4_chance 13 = .ok (.invokestatic 90, 3) := by decide +kernel
theorem dX4_chance_16 : decode cX4_chance 16 = .ok (.ifCond .eq 13, 3) := by decide +kernel
theorem dX4_chance_19 : decode cX4_chance 19 = .ok (.iload_n 3, 1) := by decide +kernel
theorem dX4_chance_20 : decode cX4_chance 20 = .ok (.iconst 0, 1) := by decide +kernel
theorem dX4_chance_21 : decode cX4_chance 21 = .ok (.bipush 10, 2) := by decide +kernel
theorem dX4_chance_23 : decode cX4_chance 23 = .ok (.invokestatic 90, 3) := by decide +kernel
theorem dX4_chance_26 : decode cX4_chance 26 = .ok (.ifCond .ne 10, 3) := by decide +kernel
theorem dX4_chance_29 : decode cX4_chance 29 = .ok (.aload_n 0, 1) := by decide +kernel
theorem dX4_chance_30 : decode cX4_chance 30 = .ok (.bipush (-2), 2) := by decide +kernel
theorem dX4_chance_32 : decode cX4_chance 32 = .ok (.invokevirtual 64, 3) := by decide +kernel
theorem dX4_chance_35 : decode cX4_chance 35 = .ok (.ireturn, 1) := by decide +kernel
theorem dX4_chance_36 : decode cX4_chance 36 = .ok (.lconst 1, 1) := by decide +kernel
theorem dX4_chance_37 : decode cX4_chance 37 = .ok (.lstore 4, 2) := by decide +kernel
theorem dX4_chance_39 : decode cX4_chance 39 = .ok (.iconst 0, 1) := by decide +kernel
theorem dX4_chance_40 : decode cX4_chance 40 = .ok (.istore 6, 2) := by decide +kernel
theorem dX4_chance_42 : decode cX4_chance 42 = .ok (.iload 6, 2) := by decide +kernel
theorem dX4_chance_44 : decode cX4_chance 44 = .ok (.iload_n 1, 1) := by decide +kernel
theorem dX4_chance_45 : decode cX4_chance 45 = .ok (.if_icmp .ge 17, 3) := by decide +kernel
theorem dX4_chance_48 : decode cX4_chance 48 = .ok (.lload 4, 2) := by decide +kernel
theorem dX4_chance_50 : decode cX4_chance 50 = .ok (.ldc2_w 225, 3) := by decide +kernel
theorem dX4_chance_53 : decode cX4_chance 53 = .ok (.lmul, 1) := by decide +kernel
theorem dX4_chance_54 : decode cX4_chance 54 = .ok (.lstore 4, 2) := by decide +kernel
theorem dX4_chance_56 : decode cX4_chance 56 = .ok (.iinc 6 1, 3) := by decide +kernel
theorem dX4_chance_59 : decode cX4_chance 59 = .ok (.goto (-17), 3) := by decide +kernel
theorem dX4_chance_62 : decode cX4_chance 62 = .ok (.aload_n 0, 1) := by decide +kernel
theorem dX4_chance_63 : decode cX4_chance 63 = .ok (.aload_n 0, 1) := by decide +kernel
theorem dX4_chance_64 : decode cX4_chance 64 = .ok (.getfield 25, 3) := by decide +kernel
theorem dX4_chance_67 : decode cX4_chance 67 = .ok (.aload_n 0, 1) := by decide +kernel
theorem dX4_chance_68 : decode cX4_chance 68 = .ok (.getfield 10, 3) := by decide +kernel
theorem dX4_chance_71 : decode cX4_chance 71 = .ok (.getfield 68, 3) := by decide +kernel
theorem dX4_chance_74 : decode cX4_chance 74 = .ok (.iload_n 1, 1) := by decide +kernel
theorem dX4_chance_75 : decode cX4_chance 75 = .ok (.iload_n 2, 1) := by decide +kernel
theorem dX4_chance_76 : decode cX4_chance 76 = .ok (.iload_n 3, 1) := by decide +kernel
theorem dX4_chance_77 : decode cX4_chance 77 = .ok (.invokevirtual 227, 3) := by decide +kernel
theorem dX4_chance_80 : decode cX4_chance 80 = .ok (.lload 4, 2) := by decide +kernel
theorem dX4_chance_82 : decode cX4_chance 82 = .ok (.invokevirtual 231, 3) := by decide +kernel
theorem dX4_chance_85 : decode cX4_chance 85 = .ok (.iconst 1, 1) := by decide +kernel
theorem dX4_chance_86 : decode cX4_chance 86 = .ok (.ireturn, 1) := by decide +kernel
theorem dX4_years_0 : decode cX4_years 0 = .ok (.iload_n 1, 1) := by decide +kernel
theorem dX4_years_1 : decode cX4_years 1 = .ok (.iconst 0, 1) := by decide +kernel
theorem dX4_years_2 : decode cX4_years 2 = .ok (.ldc 235, 2) := by decide +kernel
theorem dX4_years_4 : decode cX4_years 4 = .ok (.invokestatic 90, 3) := by decide +kernel
theorem dX4_years_7 : decode cX4_years 7 = .ok (.ifCond .eq 13, 3) := by decide +kernel
theorem dX4_years_10 : decode cX4_years 10 = .ok (.iload_n 2, 1) := by decide +kernel
theorem dX4_years_11 : decode cX4_years 11 = .ok (.iconst 0, 1) := by decide +kernel
theorem dX4_years_12 : decode cX4_years 12 = .ok (.bipush 60, 2) := by decide +kernel
theorem dX4_years_14 : decode cX4_years 14 = .ok (.invokestatic 90, 3) := by decide +kernel
theorem dX4_years_17 : decode cX4_years 17 = .ok (.ifCond .ne 10, 3) := by decide +kernel
theorem dX4_years_20 : decode cX4_years 20 = .ok (.aload_n 0, 1) := by decide +kernel
theorem dX4_years_21 : decode cX4_years 21 = .ok (.bipush (-2), 2) := by decide +kernel
theorem dX4_years_23 : decode cX4_years 23 = .ok (.invokevirtual 64, 3) := by decide +kernel
theorem dX4_years_26 : decode cX4_years 26 = .ok (.ireturn, 1) := by decide +kernel
theorem dX4_years_27 : decode cX4_years 27 = .ok (.aload_n 0, 1) := by decide +kernel
theorem dX4_years_28 : decode cX4_years 28 = .ok (.getfield 25, 3) := by decide +kernel
theorem dX4_years_31 : decode cX4_years 31 = .ok (.aload_n 0, 1) := by decide +kernel
theorem dX4_years_32 : decode cX4_years 32 = .ok (.getfield 10, 3) := by decide +kernel
theorem dX4_years_35 : decode cX4_years 35 = .ok (.getfield 68, 3) := by decide +kernel
theorem dX4_years_38 : decode cX4_years 38 = .ok (.invokevirtual 165, 3) := by decide +kernel
theorem dX4_years_41 : decode cX4_years 41 = .ok (.astore_n 3, 1) := by decide +kernel
theorem dX4_years_42 : decode cX4_years 42 = .ok (.iload_n 1, 1) := by decide +kernel
theorem dX4_years_43 : decode cX4_years 43 = .ok (.i2l, 1) := by decide +kernel
theorem dX4_years_44 : decode cX4_years 44 = .ok (.lstore 4, 2) := by decide +kernel
theorem dX4_years_46 : decode cX4_years 46 = .ok (.iconst 0, 1) := by decide +kernel
theorem dX4_years_47 : decode cX4_years 47 = .ok (.istore 6, 2) := by decide +kernel
theorem dX4_years_49 : decode cX4_years 49 = .ok (.iconst 0, 1) := by decide +kernel
theorem dX4_years_50 : decode cX4_years 50 = .ok (.istore 7, 2) := by decide +kernel
theorem dX4_years_52 : decode cX4_years 52 = .ok (.iload 7, 2) := by decide +kernel
theorem dX4_years_54 : decode cX4_years 54 = .ok (.iload_n 2, 1) := by decide +kernel
theorem dX4_years_55 : decode cX4_years 55 = .ok (.if_icmp .ge 63, 3) := by decide +kernel
theorem dX4_years_58 : decode cX4_years 58 = .ok (.lload 4, 2) := by decide +kernel
theorem dX4_years_60 : decode cX4_years 60 = .ok (.ldc2_w 236, 3) := by decide +kernel
theorem dX4_years_63 : decode cX4_years 63 = .ok (.lmul, 1) := by decide +kernel
theorem dX4_years_64 : decode cX4_years 64 = .ok (.ldc2_w 238, 3) := by decide +kernel
theorem dX4_years_67 : decode cX4_years 67 = .ok (.ladd, 1) := by decide +kernel
theorem dX4_years_68 : decode cX4_years 68 = .ok (.ldc2_w 240, 3) := by decide +kernel
theorem dX4_years_71 : decode cX4_years 71 = .ok (.lrem, 1) := by decide +kernel
theorem dX4_years_72 : decode cX4_years 72 = .ok (.lstore 4, 2) := by decide +kernel
theorem dX4_years_74 : decode cX4_years 74 = .ok (.lload 4, 2) := by decide +kernel
theorem dX4_years_76 : decode cX4_years 76 = .ok (.ldc2_w 242, 3) := by decide +kernel
theorem dX4_years_79 : decode cX4_years 79 = .ok (.ldiv, 1) := by decide +kernel
theorem dX4_years_80 : decode cX4_years 80 = .ok (.ldc2_w 244, 3) := by decide +kernel
theorem dX4_years_83 : decode cX4_years 83 = .ok (.lrem, 1) := by decide +kernel
theorem dX4_years_84 : decode cX4_years 84 = .ok (.l2i, 1) := by decide +kernel
theorem dX4_years_85 : decode cX4_years 85 = .ok (.istore 8, 2) := by decide +kernel
theorem dX4_years_87 : decode cX4_years 87 = .ok (.iload 6, 2) := by decide +kernel
theorem dX4_years_89 : decode cX4_years 89 = .ok (.aload_n 3, 1) := by decide +kernel
theorem dX4_years_90 : decode cX4_years 90 = .ok (.aload_n 3, 1) := by decide +kernel
theorem dX4_years_91 : decode cX4_years 91 = .ok (.iload 8, 2) := by decide +kernel
theorem dX4_years_93 : decode cX4_years 93 = .ok (.invokevirtual 146, 3) := by decide +kernel
theorem dX4_years_96 : decode cX4_years 96 = .ok (.ifCond .eq 8, 3) := by decide +kernel
theorem dX4_years_99 : decode cX4_years 99 = .ok (.iload 8, 2) := by decide +kernel
theorem dX4_years_101 : decode cX4_years 101 = .ok (.goto 5, 3) := by decide +kernel
theorem dX4_years_104 : decode cX4_years 104 = .ok (.bipush 7, 2) := by decide +kernel
theorem dX4_years_106 : decode cX4_years 106 = .ok (.invokevirtual 134, 3) := by decide +kernel
theorem dX4_years_109 : decode cX4_years 109 = .ok (.iadd, 1) := by decide +kernel
theorem dX4_years_110 : decode cX4_years 110 = .ok (.istore 6, 2) := by decide +kernel
theorem dX4_years_112 : decode cX4_years 112 = .ok (.iinc 7 1, 3) := by decide +kernel
theorem dX4_years_115 : decode cX4_years 115 = .ok (.goto (-63), 3) := by decide +kernel
theorem dX4_years_118 : decode cX4_years 118 = .ok (.iload 6, 2) := by decide +kernel
theorem dX4_years_120 : decode cX4_years 120 = .ok (.ireturn, 1) := by decide +kernel
theorem dX4_part_0 : decode cX4_part 0 = .ok (.iload_n 1, 1) := by decide +kernel
theorem dX4_part_1 : decode cX4_part 1 = .ok (.iconst 0, 1) := by decide +kernel
theorem dX4_part_2 : decode cX4_part 2 = .ok (.iconst 1, 1) := by decide +kernel
theorem dX4_part_3 : decode cX4_part 3 = .ok (.invokestatic 90, 3) := by decide +kernel
theorem dX4_part_6 : decode cX4_part 6 = .ok (.ifCond .ne 11, 3) := by decide +kernel
theorem dX4_part_9 : decode cX4_part 9 = .ok (.aload_n 0, 1) := by decide +kernel
theorem dX4_part_10 : decode cX4_part 10 = .ok (.bipush (-2), 2) := by decide +kernel
theorem dX4_part_12 : decode cX4_part 12 = .ok (.invokevirtual 64, 3) := by decide +kernel
theorem dX4_part_15 : decode cX4_part 15 = .ok (.i2l, 1) := by decide +kernel
theorem dX4_part_16 : decode cX4_part 16 = .ok (.lreturn, 1) := by decide +kernel
theorem dX4_part_17 : decode cX4_part 17 = .ok (.iload_n 1, 1) := by decide +kernel
theorem dX4_part_18 : decode cX4_part 18 = .ok (.ifCond .ne 10, 3) := by decide +kernel
theorem dX4_part_21 : decode cX4_part 21 = .ok (.aload_n 0, 1) := by decide +kernel
theorem dX4_part_22 : decode cX4_part 22 = .ok (.getfield 43, 3) := by decide +kernel
theorem dX4_part_25 : decode cX4_part 25 = .ok (.goto 7, 3) := by decide +kernel
theorem dX4_part_28 : decode cX4_part 28 = .ok (.aload_n 0, 1) := by decide +kernel
theorem dX4_part_29 : decode cX4_part 29 = .ok (.getfield 47, 3) := by decide +kernel
theorem dX4_part_32 : decode cX4_part 32 = .ok (.lreturn, 1) := by decide +kernel
theorem dX4_image_0 : decode cX4_image 0 = .ok (.iload_n 1, 1) := by decide +kernel
theorem dX4_image_1 : decode cX4_image 1 = .ok (.iconst 0, 1) := by decide +kernel
theorem dX4_image_2 : decode cX4_image 2 = .ok (.iconst 1, 1) := by decide +kernel
theorem dX4_image_3 : decode cX4_image 3 = .ok (.invokestatic 90, 3) := by decide +kernel
theorem dX4_image_6 : decode cX4_image 6 = .ok (.ifCond .ne 10, 3) := by decide +kernel
theorem dX4_image_9 : decode cX4_image 9 = .ok (.aload_n 0, 1) := by decide +kernel
theorem dX4_image_10 : decode cX4_image 10 = .ok (.bipush (-2), 2) := by decide +kernel
theorem dX4_image_12 : decode cX4_image 12 = .ok (.invokevirtual 64, 3) := by decide +kernel
theorem dX4_image_15 : decode cX4_image 15 = .ok (.ireturn, 1) := by decide +kernel
theorem dX4_image_16 : decode cX4_image 16 = .ok (.aload_n 0, 1) := by decide +kernel
theorem dX4_image_17 : decode cX4_image 17 = .ok (.iload_n 1, 1) := by decide +kernel
theorem dX4_image_18 : decode cX4_image 18 = .ok (.invokevirtual 246, 3) := by decide +kernel
theorem dX4_image_21 : decode cX4_image 21 = .ok (.astore_n 2, 1) := by decide +kernel
theorem dX4_image_22 : decode cX4_image 22 = .ok (.aload_n 2, 1) := by decide +kernel
theorem dX4_image_23 : decode cX4_image 23 = .ok (.aload_n 0, 1) := by decide +kernel
theorem dX4_image_24 : decode cX4_image 24 = .ok (.getfield 10, 3) := by decide +kernel
theorem dX4_image_27 : decode cX4_image 27 = .ok (.invokevirtual 250, 3) := by decide +kernel
theorem dX4_image_30 : decode cX4_image 30 = .ok (.aload_n 2, 1) := by decide +kernel
theorem dX4_image_31 : decode cX4_image 31 = .ok (.iconst 1, 1) := by decide +kernel
theorem dX4_image_32 : decode cX4_image 32 = .ok (.putfield 253, 3) := by decide +kernel
theorem dX4_image_35 : decode cX4_image 35 = .ok (.iconst 1, 1) := by decide +kernel
theorem dX4_image_36 : decode cX4_image 36 = .ok (.ireturn, 1) := by decide +kernel
theorem dX4_from_0 : decode cX4_from 0 = .ok (.iload_n 1, 1) := by decide +kernel
theorem dX4_from_1 : decode cX4_from 1 = .ok (.iconst 0, 1) := by decide +kernel
theorem dX4_from_2 : decode cX4_from 2 = .ok (.iconst 1, 1) := by decide +kernel
theorem dX4_from_3 : decode cX4_from 3 = .ok (.invokestatic 90, 3) := by decide +kernel
theorem dX4_from_6 : decode cX4_from 6 = .ok (.ifCond .ne 10, 3) := by decide +kernel
theorem dX4_from_9 : decode cX4_from 9 = .ok (.aload_n 0, 1) := by decide +kernel
theorem dX4_from_10 : decode cX4_from 10 = .ok (.bipush (-2), 2) := by decide +kernel
theorem dX4_from_12 : decode cX4_from 12 = .ok (.invokevirtual 64, 3) := by decide +kernel
theorem dX4_from_15 : decode cX4_from 15 = .ok (.ireturn, 1) := by decide +kernel
theorem dX4_from_16 : decode cX4_from 16 = .ok (.aload_n 0, 1) := by decide +kernel
theorem dX4_from_17 : decode cX4_from 17 = .ok (.iload_n 1, 1) := by decide +kernel
theorem dX4_from_18 : decode cX4_from 18 = .ok (.invokevirtual 246, 3) := by decide +kernel
theorem dX4_from_21 : decode cX4_from 21 = .ok (.astore_n 2, 1) := by decide +kernel
theorem dX4_from_22 : decode cX4_from 22 = .ok (.aload_n 2, 1) := by decide +kernel
theorem dX4_from_23 : decode cX4_from 23 = .ok (.getfield 253, 3) := by decide +kernel
theorem dX4_from_26 : decode cX4_from 26 = .ok (.ifCond .ne 10, 3) := by decide +kernel
theorem dX4_from_29 : decode cX4_from 29 = .ok (.aload_n 0, 1) := by decide +kernel
theorem dX4_from_30 : decode cX4_from 30 = .ok (.bipush (-3), 2) := by decide +kernel
theorem dX4_from_32 : decode cX4_from 32 = .ok (.invokevirtual 64, 3) := by decide +kernel
theorem dX4_from_35 : decode cX4_from 35 = .ok (.ireturn, 1) := by decide +kernel
theorem dX4_from_36 : decode cX4_from 36 = .ok (.aload_n 0, 1) := by decide +kernel
theorem dX4_from_37 : decode cX4_from 37 = .ok (.getfield 10, 3) := by decide +kernel
theorem dX4_from_40 : decode cX4_from 40 = .ok (.aload_n 2, 1) := by decide +kernel
theorem dX4_from_41 : decode cX4_from 41 = .ok (.invokevirtual 250, 3) := by decide +kernel
theorem dX4_from_44 : decode cX4_from 44 = .ok (.iconst 1, 1) := by decide +kernel
theorem dX4_from_45 : decode cX4_from 45 = .ok (.ireturn, 1) := by decide +kernel
theorem dX4_status_0 : decode cX4_status 0 = .ok (.iload_n 1, 1) := by decide +kernel
theorem dX4_status_1 : decode cX4_status 1 = .ok (.tableswitch 42 0 2 #[27, 32, 37], 27) := by decide +kernel
theorem dX4_status_28 : decode cX4_status 28 = .ok (.aload_n 0, 1) := by decide +kernel
theorem dX4_status_29 : decode cX4_status 29 = .ok (.getfield 50, 3) := by decide +kernel
theorem dX4_status_32 : decode cX4_status 32 = .ok (.ireturn, 1) := by decide +kernel
theorem dX4_status_33 : decode cX4_status 33 = .ok (.aload_n 0, 1) := by decide +kernel
theorem dX4_status_34 : decode cX4_status 34 = .ok (.getfield 54, 3) := by decide +kernel
theorem dX4_status_37 : decode cX4_status 37 = .ok (.ireturn, 1) := by decide +kernel
theorem dX4_status_38 : decode cX4_status 38 = .ok (.aload_n 0, 1) := by decide +kernel
theorem dX4_status_39 : decode cX4_status 39 = .ok (.getfield 57, 3) := by decide +kernel
theorem dX4_status_42 : decode cX4_status 42 = .ok (.ireturn, 1) := by decide +kernel
theorem dX4_status_43 : decode cX4_status 43 = .ok (.aload_n 0, 1) := by decide +kernel
theorem dX4_status_44 : decode cX4_status 44 = .ok (.bipush (-2), 2) := by decide +kernel
theorem dX4_status_46 : decode cX4_status 46 = .ok (.invokevirtual 64, 3) := by decide +kernel
theorem dX4_status_49 : decode cX4_status 49 = .ok (.pop, 1) := by decide +kernel
theorem dX4_status_50 : decode cX4_status 50 = .ok (.iconst (-1), 1) := by decide +kernel
theorem dX4_status_51 : decode cX4_status 51 = .ok (.ireturn, 1) := by decide +kernel
theorem dX4_count_0 : decode cX4_count 0 = .ok (.iload_n 1, 1) := by decide +kernel
theorem dX4_count_1 : decode cX4_count 1 = .ok (.tableswitch 153 0 9 #[55, 66, 77, 88, 99, 110, 121, 129, 137, 145], 55) := by decide +kernel
theorem dX4_count_56 : decode cX4_count 56 = .ok (.aload_n 0, 1) := by decide +kernel
theorem dX4_count_57 : decode cX4_count 57 = .ok (.getfield 10, 3) := by decide +kernel
theorem dX4_count_60 : decode cX4_count 60 = .ok (.getfield 68, 3) := by decide +kernel
theorem dX4_count_63 : decode cX4_count 63 = .ok (.getfield 72, 3) := by decide +kernel
theorem dX4_count_66 : decode cX4_count 66 = .ok (.ireturn, 1) := by decide +kernel
theorem dX4_count_67 : decode cX4_count 67 = .ok (.aload_n 0, 1) := by decide +kernel
theorem dX4_count_68 : decode cX4_count 68 = .ok (.getfield 10, 3) := by decide +kernel
theorem dX4_count_71 : decode cX4_count 71 = .ok (.getfield 68, 3) := by decide +kernel
theorem dX4_count_74 : decode cX4_count 74 = .ok (.invokevirtual 257, 3) := by decide +kernel
theorem dX4_count_77 : decode cX4_count 77 = .ok (.ireturn, 1) := by decide +kernel
theorem dX4_count_78 : decode cX4_count 78 = .ok (.aload_n 0, 1) := by decide +kernel
theorem dX4_count_79 : decode cX4_count 79 = .ok (.getfield 10, 3) := by decide +kernel
theorem dX4_count_82 : decode cX4_count 82 = .ok (.getfield 68, 3) := by decide +kernel
theorem dX4_count_85 : decode cX4_count 85 = .ok (.getfield 260, 3) := by decide +kernel
theorem dX4_count_88 : decode cX4_count 88 = .ok (.ireturn, 1) := by decide +kernel
theorem dX4_count_89 : decode cX4_count 89 = .ok (.aload_n 0, 1) := by decide +kernel
theorem dX4_count_90 : decode cX4_count 90 = .ok (.getfield 10, 3) := by decide +kernel
theorem dX4_count_93 : decode cX4_count 93 = .ok (.getfield 68, 3) := by decide +kernel
theorem dX4_count_96 : decode cX4_count 96 = .ok (.getfield 128, 3) := by decide +kernel
theorem dX4_count_99 : decode cX4_count 99 = .ok (.ireturn, 1) := by decide +kernel
theorem dX4_count_100 : decode cX4_count 100 = .ok (.aload_n 0, 1) := by decide +kernel
theorem dX4_count_101 : decode cX4_count 101 = .ok (.getfield 10, 3) := by decide +kernel
theorem dX4_count_104 : decode cX4_count 104 = .ok (.getfield 68, 3) := by decide +kernel
theorem dX4_count_107 : decode cX4_count 107 = .ok (.invokevirtual 263, 3) := by decide +kernel
theorem dX4_count_110 : decode cX4_count 110 = .ok (.ireturn, 1) := by decide +kernel
theorem dX4_count_111 : decode cX4_count 111 = .ok (.aload_n 0, 1) := by decide +kernel
theorem dX4_count_112 : decode cX4_count 112 = .ok (.getfield 10, 3) := by decide +kernel
theorem dX4_count_115 : decode cX4_count 115 = .ok (.getfield 68, 3) := by decide +kernel
theorem dX4_count_118 : decode cX4_count 118 = .ok (.getfield 81, 3) := by decide +kernel
theorem dX4_count_121 : decode cX4_count 121 = .ok (.ireturn, 1) := by decide +kernel
theorem dX4_count_122 : decode cX4_count 122 = .ok (.aload_n 0, 1) := by decide +kernel
theorem dX4_count_123 : decode cX4_count 123 = .ok (.getfield 10, 3) := by decide +kernel
theorem dX4_count_126 : decode cX4_count 126 = .ok (.getfield 196, 3) := by decide +kernel
theorem dX4_count_129 : decode cX4_count 129 = .ok (.ireturn, 1) := by decide +kernel
theorem dX4_count_130 : decode cX4_count 130 = .ok (.aload_n 0, 1) := by decide +kernel
theorem dX4_count_131 : decode cX4_count 131 = .ok (.getfield 10, 3) := by decide +kernel
theorem dX4_count_134 : decode cX4_count 134 = .ok (.getfield 210, 3) := by decide +kernel
theorem dX4_count_137 : decode cX4_count 137 = .ok (.ireturn, 1) := by decide +kernel
theorem dX4_count_138 : decode cX4_count 138 = .ok (.aload_n 0, 1) := by decide +kernel
theorem dX4_count_139 : decode cX4_count 139 = .ok (.getfield 10, 3) := by decide +kernel
theorem dX4_count_142 : decode cX4_count 142 = .ok (.getfield 84, 3) := by decide +kernel
theorem dX4_count_145 : decode cX4_count 145 = .ok (.ireturn, 1) := by decide +kernel
theorem dX4_count_146 : decode cX4_count 146 = .ok (.aload_n 0, 1) := by decide +kernel
theorem dX4_count_147 : decode cX4_count 147 = .ok (.getfield 32, 3) := by decide +kernel
theorem dX4_count_150 : decode cX4_count 150 = .ok (.getfield 104, 3) := by decide +kernel
theorem dX4_count_153 : decode cX4_count 153 = .ok (.ireturn, 1) := by decide +kernel
theorem dX4_count_154 : decode cX4_count 154 = .ok (.aload_n 0, 1) := by decide +kernel
theorem dX4_count_155 : decode cX4_count 155 = .ok (.bipush (-2), 2) := by decide +kernel
theorem dX4_count_157 : decode cX4_count 157 = .ok (.invokevirtual 64, 3) := by decide +kernel
theorem dX4_count_160 : decode cX4_count 160 = .ok (.ireturn, 1) := by decide +kernel
theorem dX4_digest_0 : decode cX4_digest 0 = .ok (.ldc2_w 266, 3) := by decide +kernel
theorem dX4_digest_3 : decode cX4_digest 3 = .ok (.lstore_n 1, 1) := by decide +kernel
theorem dX4_digest_4 : decode cX4_digest 4 = .ok (.iconst 0, 1) := by decide +kernel
theorem dX4_digest_5 : decode cX4_digest 5 = .ok (.istore_n 3, 1) := by decide +kernel
theorem dX4_digest_6 : decode cX4_digest 6 = .ok (.iload_n 3, 1) := by decide +kernel
theorem dX4_digest_7 : decode cX4_digest 7 = .ok (.bipush 9, 2) := by decide +kernel
theorem dX4_digest_9 : decode cX4_digest 9 = .ok (.if_icmp .gt 22, 3) := by decide +kernel
theorem dX4_digest_12 : decode cX4_digest 12 = .ok (.ldc2_w 268, 3) := by decide +kernel
theorem dX4_digest_15 : decode cX4_digest 15 = .ok (.lload_n 1, 1) := by decide +kernel
theorem dX4_digest_16 : decode cX4_digest 16 = .ok (.lmul, 1) := by decide +kernel
theorem dX4_digest_17 : decode cX4_digest 17 = .ok (.aload_n 0, 1) := by decide +kernel
theorem dX4_digest_18 : decode cX4_digest 18 = .ok (.iload_n 3, 1) := by decide +kernel
theorem dX4_digest_19 : decode cX4_digest 19 = .ok (.invokevirtual 270, 3) := by decide +kernel
theorem dX4_digest_22 : decode cX4_digest 22 = .ok (.i2l, 1) := by decide +kernel
theorem dX4_digest_23 : decode cX4_digest 23 = .ok (.ladd, 1) := by decide +kernel
theorem dX4_digest_24 : decode cX4_digest 24 = .ok (.lstore_n 1, 1) := by decide +kernel
theorem dX4_digest_25 : decode cX4_digest 25 = .ok (.iinc 3 1, 3) := by decide +kernel
theorem dX4_digest_28 : decode cX4_digest 28 = .ok (.goto (-22), 3) := by decide +kernel
theorem dX4_digest_31 : decode cX4_digest 31 = .ok (.aload_n 0, 1) := by decide +kernel
theorem dX4_digest_32 : decode cX4_digest 32 = .ok (.getfield 10, 3) := by decide +kernel
theorem dX4_digest_35 : decode cX4_digest 35 = .ok (.getfield 68, 3) := by decide +kernel
theorem dX4_digest_38 : decode cX4_digest 38 = .ok (.astore_n 3, 1) := by decide +kernel
theorem dX4_digest_39 : decode cX4_digest 39 = .ok (.iconst 0, 1) := by decide +kernel
theorem dX4_digest_40 : decode cX4_digest 40 = .ok (.istore 4, 2) := by decide +kernel
theorem dX4_digest_42 : decode cX4_digest 42 = .ok (.iload 4, 2) := by decide +kernel
theorem dX4_digest_44 : decode cX4_digest 44 = .ok (.aload_n 3, 1) := by decide +kernel
theorem dX4_digest_45 : decode cX4_digest 45 = .ok (.getfield 72, 3) := by decide +kernel
theorem dX4_digest_48 : decode cX4_digest 48 = .ok (.if_icmp .ge 54, 3) := by decide +kernel
theorem dX4_digest_51 : decode cX4_digest 51 = .ok (.ldc2_w 268, 3) := by decide +kernel
theorem dX4_digest_54 : decode cX4_digest 54 = .ok (.lload_n 1, 1) := by decide +kernel
theorem dX4_digest_55 : decode cX4_digest 55 = .ok (.lmul, 1) := by decide +kernel
theorem dX4_digest_56 : decode cX4_digest 56 = .ok (.aload_n 3, 1) := by decide +kernel
theorem dX4_digest_57 : decode cX4_digest 57 = .ok (.getfield 149, 3) := by decide +kernel
theorem dX4_digest_60 : decode cX4_digest 60 = .ok (.iload 4, 2) := by decide +kernel
theorem dX4_digest_62 : decode cX4_digest 62 = .ok (.iaload, 1) := by decide +kernel
theorem dX4_digest_63 : decode cX4_digest 63 = .ok (.i2l, 1) := by decide +kernel
theorem dX4_digest_64 : decode cX4_digest 64 = .ok (.ladd, 1) := by decide +kernel
theorem dX4_digest_65 : decode cX4_digest 65 = .ok (.lstore_n 1, 1) := by decide +kernel
theorem dX4_digest_66 : decode cX4_digest 66 = .ok (.ldc2_w 268, 3) := by decide +kernel
theorem dX4_digest_69 : decode cX4_digest 69 = .ok (.lload_n 1, 1) := by decide +kernel
theorem dX4_digest_70 : decode cX4_digest 70 = .ok (.lmul, 1) := by decide +kernel
theorem dX4_digest_71 : decode cX4_digest 71 = .ok (.aload_n 3, 1) := by decide +kernel
theorem dX4_digest_72 : decode cX4_digest 72 = .ok (.getfield 152, 3) := by decide +kernel
theorem dX4_digest_75 : decode cX4_digest 75 = .ok (.iload 4, 2) := by decide +kernel
theorem dX4_digest_77 : decode cX4_digest 77 = .ok (.iaload, 1) := by decide +kernel
theorem dX4_digest_78 : decode cX4_digest 78 = .ok (.i2l, 1) := by decide +kernel
theorem dX4_digest_79 : decode cX4_digest 79 = .ok (.ladd, 1) := by decide +kernel
theorem dX4_digest_80 : decode cX4_digest 80 = .ok (.lstore_n 1, 1) := by decide +kernel
theorem dX4_digest_81 : decode cX4_digest 81 = .ok (.ldc2_w 268, 3) := by decide +kernel
theorem dX4_digest_84 : decode cX4_digest 84 = .ok (.lload_n 1, 1) := by decide +kernel
theorem dX4_digest_85 : decode cX4_digest 85 = .ok (.lmul, 1) := by decide +kernel
theorem dX4_digest_86 : decode cX4_digest 86 = .ok (.aload_n 3, 1) := by decide +kernel
theorem dX4_digest_87 : decode cX4_digest 87 = .ok (.getfield 155, 3) := by decide +kernel
theorem dX4_digest_90 : decode cX4_digest 90 = .ok (.iload 4, 2) := by decide +kernel
theorem dX4_digest_92 : decode cX4_digest 92 = .ok (.iaload, 1) := by decide +kernel
theorem dX4_digest_93 : decode cX4_digest 93 = .ok (.i2l, 1) := by decide +kernel
theorem dX4_digest_94 : decode cX4_digest 94 = .ok (.ladd, 1) := by decide +kernel
theorem dX4_digest_95 : decode cX4_digest 95 = .ok (.lstore_n 1, 1) := by decide +kernel
theorem dX4_digest_96 : decode cX4_digest 96 = .ok (.iinc 4 1, 3) := by decide +kernel
theorem dX4_digest_99 : decode cX4_digest 99 = .ok (.goto (-57), 3) := by decide +kernel
theorem dX4_digest_102 : decode cX4_digest 102 = .ok (.lload_n 1, 1) := by decide +kernel
theorem dX4_digest_103 : decode cX4_digest 103 = .ok (.aload_n 3, 1) := by decide +kernel
theorem dX4_digest_104 : decode cX4_digest 104 = .ok (.getfield 94, 3) := by decide +kernel
theorem dX4_digest_107 : decode cX4_digest 107 = .ok (.bipush 20, 2) := by decide +kernel
theorem dX4_digest_109 : decode cX4_digest 109 = .ok (.invokestatic 273, 3) := by decide +kernel
theorem dX4_digest_112 : decode cX4_digest 112 = .ok (.lstore_n 1, 1) := by decide +kernel
theorem dX4_digest_113 : decode cX4_digest 113 = .ok (.lload_n 1, 1) := by decide +kernel
theorem dX4_digest_114 : decode cX4_digest 114 = .ok (.aload_n 0, 1) := by decide +kernel
theorem dX4_digest_115 : decode cX4_digest 115 = .ok (.getfield 10, 3) := by decide +kernel
theorem dX4_digest_118 : decode cX4_digest 118 = .ok (.getfield 277, 3) := by decide +kernel
theorem dX4_digest_121 : decode cX4_digest 121 = .ok (.aload_n 0, 1) := by decide +kernel
theorem dX4_digest_122 : decode cX4_digest 122 = .ok (.getfield 10, 3) := by decide +kernel
theorem dX4_digest_125 : decode cX4_digest 125 = .ok (.getfield 196, 3) := by decide +kernel
theorem dX4_digest_128 : decode cX4_digest 128 = .ok (.iconst 4, 1) := by decide +kernel
theorem dX4_digest_129 : decode cX4_digest 129 = .ok (.imul, 1) := by decide +kernel
theorem dX4_digest_130 : decode cX4_digest 130 = .ok (.invokestatic 273, 3) := by decide +kernel
theorem dX4_digest_133 : decode cX4_digest 133 = .ok (.lstore_n 1, 1) := by decide +kernel
theorem dX4_digest_134 : decode cX4_digest 134 = .ok (.lload_n 1, 1) := by decide +kernel
theorem dX4_digest_135 : decode cX4_digest 135 = .ok (.aload_n 0, 1) := by decide +kernel
theorem dX4_digest_136 : decode cX4_digest 136 = .ok (.getfield 10, 3) := by decide +kernel
theorem dX4_digest_139 : decode cX4_digest 139 = .ok (.getfield 280, 3) := by decide +kernel
theorem dX4_digest_142 : decode cX4_digest 142 = .ok (.aload_n 0, 1) := by decide +kernel
theorem dX4_digest_143 : decode cX4_digest 143 = .ok (.getfield 10, 3) := by decide +kernel
theorem dX4_digest_146 : decode cX4_digest 146 = .ok (.getfield 210, 3) := by decide +kernel
theorem dX4_digest_149 : decode cX4_digest 149 = .ok (.iconst 3, 1) := by decide +kernel
theorem dX4_digest_150 : decode cX4_digest 150 = .ok (.imul, 1) := by decide +kernel
theorem dX4_digest_151 : decode cX4_digest 151 = .ok (.invokestatic 273, 3) := by decide +kernel
theorem dX4_digest_154 : decode cX4_digest 154 = .ok (.lstore_n 1, 1) := by decide +kernel
theorem dX4_digest_155 : decode cX4_digest 155 = .ok (.ldc2_w 268, 3) := by decide +kernel
theorem dX4_digest_158 : decode cX4_digest 158 = .ok (.lload_n 1, 1) := by decide +kernel
theorem dX4_digest_159 : decode cX4_digest 159 = .ok (.lmul, 1) := by decide +kernel
theorem dX4_digest_160 : decode cX4_digest 160 = .ok (.aload_n 0, 1) := by decide +kernel
theorem dX4_digest_161 : decode cX4_digest 161 = .ok (.getfield 43, 3) := by decide +kernel
theorem dX4_digest_164 : decode cX4_digest 164 = .ok (.ladd, 1) := by decide +kernel
theorem dX4_digest_165 : decode cX4_digest 165 = .ok (.lstore_n 1, 1) := by decide +kernel
theorem dX4_digest_166 : decode cX4_digest 166 = .ok (.ldc2_w 268, 3) := by decide +kernel
theorem dX4_digest_169 : decode cX4_digest 169 = .ok (.lload_n 1, 1) := by decide +kernel
theorem dX4_digest_170 : decode cX4_digest 170 = .ok (.lmul, 1) := by decide +kernel
theorem dX4_digest_171 : decode cX4_digest 171 = .ok (.aload_n 0, 1) := by decide +kernel
theorem dX4_digest_172 : decode cX4_digest 172 = .ok (.getfield 47, 3) := by decide +kernel
theorem dX4_digest_175 : decode cX4_digest 175 = .ok (.ladd, 1) := by decide +kernel
theorem dX4_digest_176 : decode cX4_digest 176 = .ok (.lreturn, 1) := by decide +kernel
theorem dX4_growth_0 : decode cX4_growth 0 = .ok (.iload_n 0, 1) := by decide +kernel
theorem dX4_growth_1 : decode cX4_growth 1 = .ok (.tableswitch 73 1 5 #[35, 40, 45, 52, 59], 35) := by decide +kernel
theorem dX4_growth_36 : decode cX4_growth 36 = .ok (.iload_n 2, 1) := by decide +kernel
theorem dX4_growth_37 : decode cX4_growth 37 = .ok (.invokestatic 283, 3) := by decide +kernel
theorem dX4_growth_40 : decode cX4_growth 40 = .ok (.ireturn, 1) := by decide +kernel
theorem dX4_growth_41 : decode cX4_growth 41 = .ok (.iload_n 1, 1) := by decide +kernel
theorem dX4_growth_42 : decode cX4_growth 42 = .ok (.invokestatic 286, 3) := by decide +kernel
theorem dX4_growth_45 : decode cX4_growth 45 = .ok (.ireturn, 1) := by decide +kernel
theorem dX4_growth_46 : decode cX4_growth 46 = .ok (.iconst 2, 1) := by decide +kernel
theorem dX4_growth_47 : decode cX4_growth 47 = .ok (.iload_n 2, 1) := by decide +kernel
theorem dX4_growth_48 : decode cX4_growth 48 = .ok (.invokestatic 283, 3) := by decide +kernel
theorem dX4_growth_51 : decode cX4_growth 51 = .ok (.imul, 1) := by decide +kernel
theorem dX4_growth_52 : decode cX4_growth 52 = .ok (.ireturn, 1) := by decide +kernel
theorem dX4_growth_53 : decode cX4_growth 53 = .ok (.iload_n 1, 1) := by decide +kernel
theorem dX4_growth_54 : decode cX4_growth 54 = .ok (.invokestatic 286, 3) := by decide +kernel
theorem dX4_growth_57 : decode cX4_growth 57 = .ok (.iconst 3, 1) := by decide +kernel
theorem dX4_growth_58 : decode cX4_growth 58 = .ok (.iadd, 1) := by decide +kernel
theorem dX4_growth_59 : decode cX4_growth 59 = .ok (.ireturn, 1) := by decide +kernel
theorem dX4_growth_60 : decode cX4_growth 60 = .ok (.iload_n 2, 1) := by decide +kernel
theorem dX4_growth_61 : decode cX4_growth 61 = .ok (.iconst 2, 1) := by decide +kernel
theorem dX4_growth_62 : decode cX4_growth 62 = .ok (.irem, 1) := by decide +kernel
theorem dX4_growth_63 : decode cX4_growth 63 = .ok (.ifCond .eq 7, 3) := by decide +kernel
theorem dX4_growth_66 : decode cX4_growth 66 = .ok (.iconst 0, 1) := by decide +kernel
theorem dX4_growth_67 : decode cX4_growth 67 = .ok (.goto 6, 3) := by decide +kernel
theorem dX4_growth_70 : decode cX4_growth 70 = .ok (.invokestatic 289, 3) := by decide +kernel
theorem dX4_growth_73 : decode cX4_growth 73 = .ok (.ireturn, 1) := by decide +kernel
theorem dX4_growth_74 : decode cX4_growth 74 = .ok (.invokestatic 289, 3) := by decide +kernel
theorem dX4_growth_77 : decode cX4_growth 77 = .ok (.ireturn, 1) := by decide +kernel
theorem dX4_wallGrowth_0 : decode cX4_wallGrowth 0 = .ok (.iconst 2, 1) := by decide +kernel
theorem dX4_wallGrowth_1 : decode cX4_wallGrowth 1 = .ok (.ireturn, 1) := by decide +kernel
theorem dX4_shadeGrowth_0 : decode cX4_shadeGrowth 0 = .ok (.iload_n 0, 1) := by decide +kernel
theorem dX4_shadeGrowth_1 : decode cX4_shadeGrowth 1 = .ok (.bipush 7, 2) := by decide +kernel
theorem dX4_shadeGrowth_3 : decode cX4_shadeGrowth 3 = .ok (.irem, 1) := by decide +kernel
theorem dX4_shadeGrowth_4 : decode cX4_shadeGrowth 4 = .ok (.iconst 3, 1) := by decide +kernel
theorem dX4_shadeGrowth_5 : decode cX4_shadeGrowth 5 = .ok (.if_icmp .lt 11, 3) := by decide +kernel
theorem dX4_shadeGrowth_8 : decode cX4_shadeGrowth 8 = .ok (.invokestatic 289, 3) := by decide +kernel
theorem dX4_shadeGrowth_11 : decode cX4_shadeGrowth 11 = .ok (.iconst 2, 1) := by decide +kernel
theorem dX4_shadeGrowth_12 : decode cX4_shadeGrowth 12 = .ok (.iadd, 1) := by decide +kernel
theorem dX4_shadeGrowth_13 : decode cX4_shadeGrowth 13 = .ok (.goto 6, 3) := by decide +kernel
theorem dX4_shadeGrowth_16 : decode cX4_shadeGrowth 16 = .ok (.invokestatic 289, 3) := by decide +kernel
theorem dX4_shadeGrowth_19 : decode cX4_shadeGrowth 19 = .ok (.ireturn, 1) := by decide +kernel
theorem dX4_spoonGrowth_0 : decode cX4_spoonGrowth 0 = .ok (.invokestatic 289, 3) := by decide +kernel
theorem dX4_spoonGrowth_3 : decode cX4_spoonGrowth 3 = .ok (.iload_n 0, 1) := by decide +kernel
theorem dX4_spoonGrowth_4 : decode cX4_spoonGrowth 4 = .ok (.bipush 10, 2) := by decide +kernel
theorem dX4_spoonGrowth_6 : decode cX4_spoonGrowth 6 = .ok (.idiv, 1) := by decide +kernel
theorem dX4_spoonGrowth_7 : decode cX4_spoonGrowth 7 = .ok (.iadd, 1) := by decide +kernel
theorem dX4_spoonGrowth_8 : decode cX4_spoonGrowth 8 = .ok (.ireturn, 1) := by decide +kernel
theorem dX4_fall_0 : decode cX4_fall 0 = .ok (.iload_n 0, 1) := by decide +kernel
theorem dX4_fall_1 : decode cX4_fall 1 = .ok (.tableswitch 83 1 5 #[35, 39, 44, 51, 65], 35) := by decide +kernel
theorem dX4_fall_36 : decode cX4_fall 36 = .ok (.invokestatic 292, 3) := by decide +kernel
theorem dX4_fall_39 : decode cX4_fall 39 = .ok (.ireturn, 1) := by decide +kernel
theorem dX4_fall_40 : decode cX4_fall 40 = .ok (.iload_n 1, 1) := by decide +kernel
theorem dX4_fall_41 : decode cX4_fall 41 = .ok (.invokestatic 295, 3) := by decide +kernel
theorem dX4_fall_44 : decode cX4_fall 44 = .ok (.ireturn, 1) := by decide +kernel
theorem dX4_fall_45 : decode cX4_fall 45 = .ok (.iload_n 1, 1) := by decide +kernel
theorem dX4_fall_46 : decode cX4_fall 46 = .ok (.invokestatic 295, 3) := by decide +kernel
theorem dX4_fall_49 : decode cX4_fall 49 = .ok (.iconst 4, 1) := by decide +kernel
theorem dX4_fall_50 : decode cX4_fall 50 = .ok (.iadd, 1) := by decide +kernel
theorem dX4_fall_51 : decode cX4_fall 51 = .ok (.ireturn, 1) := by decide +kernel
theorem dX4_fall_52 : decode cX4_fall 52 = .ok (.iload_n 1, 1) := by decide +kernel
theorem dX4_fall_53 : decode cX4_fall 53 = .ok (.bipush 40, 2) := by decide +kernel
theorem dX4_fall_55 : decode cX4_fall 55 = .ok (.if_icmp .lt 7, 3) := by decide +kernel
theorem dX4_fall_58 : decode cX4_fall 58 = .ok (.iconst 0, 1) := by decide +kernel
theorem dX4_fall_59 : decode cX4_fall 59 = .ok (.goto 6, 3) := by decide +kernel
theorem dX4_fall_62 : decode cX4_fall 62 = .ok (.invokestatic 292, 3) := by decide +kernel
theorem dX4_fall_65 : decode cX4_fall 65 = .ok (.ireturn, 1) := by decide +kernel
theorem dX4_fall_66 : decode cX4_fall 66 = .ok (.iload_n 2, 1) := by decide +kernel
theorem dX4_fall_67 : decode cX4_fall 67 = .ok (.iconst 3, 1) := by decide +kernel
theorem dX4_fall_68 : decode cX4_fall 68 = .ok (.irem, 1) := by decide +kernel
theorem dX4_fall_69 : decode cX4_fall 69 = .ok (.ifCond .ne 11, 3) := by decide +kernel
theorem dX4_fall_72 : decode cX4_fall 72 = .ok (.iconst 2, 1) := by decide +kernel
theorem dX4_fall_73 : decode cX4_fall 73 = .ok (.invokestatic 298, 3) := by decide +kernel
theorem dX4_fall_76 : decode cX4_fall 76 = .ok (.imul, 1) := by decide +kernel
theorem dX4_fall_77 : decode cX4_fall 77 = .ok (.goto 6, 3) := by decide +kernel
theorem dX4_fall_80 : decode cX4_fall 80 = .ok (.invokestatic 298, 3) := by decide +kernel
theorem dX4_fall_83 : decode cX4_fall 83 = .ok (.ireturn, 1) := by decide +kernel
theorem dX4_fall_84 : decode cX4_fall 84 = .ok (.invokestatic 298, 3) := by decide +kernel
theorem dX4_fall_87 : decode cX4_fall 87 = .ok (.ireturn, 1) := by decide +kernel
theorem dX4_plainFall_0 : decode cX4_plainFall 0 = .ok (.bipush 8, 2) := by decide +kernel
theorem dX4_plainFall_2 : decode cX4_plainFall 2 = .ok (.ireturn, 1) := by decide +kernel
theorem dX4_oldFall_0 : decode cX4_oldFall 0 = .ok (.invokestatic 298, 3) := by decide +kernel
theorem dX4_oldFall_3 : decode cX4_oldFall 3 = .ok (.iconst 2, 1) := by decide +kernel
theorem dX4_oldFall_4 : decode cX4_oldFall 4 = .ok (.idiv, 1) := by decide +kernel
theorem dX4_oldFall_5 : decode cX4_oldFall 5 = .ok (.ireturn, 1) := by decide +kernel
theorem dX4_lampFall_0 : decode cX4_lampFall 0 = .ok (.invokestatic 298, 3) := by decide +kernel
theorem dX4_lampFall_3 : decode cX4_lampFall 3 = .ok (.iload_n 0, 1) := by decide +kernel
theorem dX4_lampFall_4 : decode cX4_lampFall 4 = .ok (.iconst 5, 1) := by decide +kernel
theorem dX4_lampFall_5 : decode cX4_lampFall 5 = .ok (.idiv, 1) := by decide +kernel
theorem dX4_lampFall_6 : decode cX4_lampFall 6 = .ok (.iadd, 1) := by decide +kernel
theorem dX4_lampFall_7 : decode cX4_lampFall 7 = .ok (.ireturn, 1) := by decide +kernel
theorem dX4_within_0 : decode cX4_within 0 = .ok (.iload_n 0, 1) := by decide +kernel
theorem dX4_within_1 : decode cX4_within 1 = .ok (.iload_n 1, 1) := by decide +kernel
theorem dX4_within_2 : decode cX4_within 2 = .ok (.if_icmp .lt 12, 3) := by decide +kernel
theorem dX4_within_5 : decode cX4_within 5 = .ok (.iload_n 0, 1) := by decide +kernel
theorem dX4_within_6 : decode cX4_within 6 = .ok (.iload_n 2, 1) := by decide +kernel
theorem dX4_within_7 : decode cX4_within 7 = .ok (.if_icmp .gt 7, 3) := by decide +kernel
theorem dX4_within_10 : decode cX4_within 10 = .ok (.iconst 1, 1) := by decide +kernel
theorem dX4_within_11 : decode cX4_within 11 = .ok (.goto 4, 3) := by decide +kernel
theorem dX4_within_14 : decode cX4_within 14 = .ok (.iconst 0, 1) := by decide +kernel
theorem dX4_within_15 : decode cX4_within 15 = .ok (.ireturn, 1) := by decide +kernel
theorem dX4_isKind_0 : decode cX4_isKind 0 = .ok (.iload_n 0, 1) := by decide +kernel
theorem dX4_isKind_1 : decode cX4_isKind 1 = .ok (.iconst 0, 1) := by decide +kernel
theorem dX4_isKind_2 : decode cX4_isKind 2 = .ok (.iconst 5, 1) := by decide +kernel
theorem dX4_isKind_3 : decode cX4_isKind 3 = .ok (.invokestatic 90, 3) := by decide +kernel
theorem dX4_isKind_6 : decode cX4_isKind 6 = .ok (.ireturn, 1) := by decide +kernel
theorem dX4_isCell_0 : decode cX4_isCell 0 = .ok (.iload_n 0, 1) := by decide +kernel
theorem dX4_isCell_1 : decode cX4_isCell 1 = .ok (.iconst 0, 1) := by decide +kernel
theorem dX4_isCell_2 : decode cX4_isCell 2 = .ok (.bipush 19, 2) := by decide +kernel
theorem dX4_isCell_4 : decode cX4_isCell 4 = .ok (.invokestatic 90, 3) := by decide +kernel
theorem dX4_isCell_7 : decode cX4_isCell 7 = .ok (.ireturn, 1) := by decide +kernel
theorem dX4_holds_0 : decode cX4_holds 0 = .ok (.iload_n 0, 1) := by decide +kernel
theorem dX4_holds_1 : decode cX4_holds 1 = .ok (.iload_n 1, 1) := by decide +kernel
theorem dX4_holds_2 : decode cX4_holds 2 = .ok (.ishr, 1) := by decide +kernel
theorem dX4_holds_3 : decode cX4_holds 3 = .ok (.iconst 1, 1) := by decide +kernel
theorem dX4_holds_4 : decode cX4_holds 4 = .ok (.iand, 1) := by decide +kernel
theorem dX4_holds_5 : decode cX4_holds 5 = .ok (.iconst 1, 1) := by decide +kernel
theorem dX4_holds_6 : decode cX4_holds 6 = .ok (.if_icmp .ne 7, 3) := by decide +kernel
theorem dX4_holds_9 : decode cX4_holds 9 = .ok (.iconst 1, 1) := by decide +kernel
theorem dX4_holds_10 : decode cX4_holds 10 = .ok (.goto 4, 3) := by decide +kernel
theorem dX4_holds_13 : decode cX4_holds 13 = .ok (.iconst 0, 1) := by decide +kernel
theorem dX4_holds_14 : decode cX4_holds 14 = .ok (.ireturn, 1) := by decide +kernel
theorem dX4_mix_0 : decode cX4_mix 0 = .ok (.iconst 0, 1) := by decide +kernel
theorem dX4_mix_1 : decode cX4_mix 1 = .ok (.istore 4, 2) := by decide +kernel
theorem dX4_mix_3 : decode cX4_mix 3 = .ok (.iload 4, 2) := by decide +kernel
theorem dX4_mix_5 : decode cX4_mix 5 = .ok (.iload_n 3, 1) := by decide +kernel
theorem dX4_mix_6 : decode cX4_mix 6 = .ok (.if_icmp .ge 28, 3) := by decide +kernel
theorem dX4_mix_9 : decode cX4_mix 9 = .ok (.iload 4, 2) := by decide +kernel
theorem dX4_mix_11 : decode cX4_mix 11 = .ok (.aload_n 2, 1) := by decide +kernel
theorem dX4_mix_12 : decode cX4_mix 12 = .ok (.arraylength, 1) := by decide +kernel
theorem dX4_mix_13 : decode cX4_mix 13 = .ok (.if_icmp .ge 21, 3) := by decide +kernel
theorem dX4_mix_16 : decode cX4_mix 16 = .ok (.ldc2_w 268, 3) := by decide +kernel
theorem dX4_mix_19 : decode cX4_mix 19 = .ok (.lload_n 0, 1) := by decide +kernel
theorem dX4_mix_20 : decode cX4_mix 20 = .ok (.lmul, 1) := by decide +kernel
theorem dX4_mix_21 : decode cX4_mix 21 = .ok (.aload_n 2, 1) := by decide +kernel
theorem dX4_mix_22 : decode cX4_mix 22 = .ok (.iload 4, 2) := by decide +kernel
theorem dX4_mix_24 : decode cX4_mix 24 = .ok (.iaload, 1) := by decide +kernel
theorem dX4_mix_25 : decode cX4_mix 25 = .ok (.i2l, 1) := by decide +kernel
theorem dX4_mix_26 : decode cX4_mix 26 = .ok (.ladd, 1) := by decide +kernel
theorem dX4_mix_27 : decode cX4_mix 27 = .ok (.lstore_n 0, 1) := by decide +kernel
theorem dX4_mix_28 : decode cX4_mix 28 = .ok (.iinc 4 1, 3) := by decide +kernel
theorem dX4_mix_31 : decode cX4_mix 31 = .ok (.goto (-28), 3) := by decide +kernel
theorem dX4_mix_34 : decode cX4_mix 34 = .ok (.lload_n 0, 1) := by decide +kernel
theorem dX4_mix_35 : decode cX4_mix 35 = .ok (.lreturn, 1) := by decide +kernel
theorem dX4_refuse_0 : decode cX4_refuse 0 = .ok (.iload_n 1, 1) := by decide +kernel
theorem dX4_refuse_1 : decode cX4_refuse 1 = .ok (.bipush (-2), 2) := by decide +kernel
theorem dX4_refuse_3 : decode cX4_refuse 3 = .ok (.if_icmp .ne 16, 3) := by decide +kernel
theorem dX4_refuse_6 : decode cX4_refuse 6 = .ok (.aload_n 0, 1) := by decide +kernel
theorem dX4_refuse_7 : decode cX4_refuse 7 = .ok (.dup, 1) := by decide +kernel
theorem dX4_refuse_8 : decode cX4_refuse 8 = .ok (.getfield 50, 3) := by decide +kernel
theorem dX4_refuse_11 : decode cX4_refuse 11 = .ok (.iconst 1, 1) := by decide +kernel
theorem dX4_refuse_12 : decode cX4_refuse 12 = .ok (.iadd, 1) := by decide +kernel
theorem dX4_refuse_13 : decode cX4_refuse 13 = .ok (.putfield 50, 3) := by decide +kernel
theorem dX4_refuse_16 : decode cX4_refuse 16 = .ok (.goto 32, 3) := by decide +kernel
theorem dX4_refuse_19 : decode cX4_refuse 19 = .ok (.iload_n 1, 1) := by decide +kernel
theorem dX4_refuse_20 : decode cX4_refuse 20 = .ok (.bipush (-3), 2) := by decide +kernel
theorem dX4_refuse_22 : decode cX4_refuse 22 = .ok (.if_icmp .ne 16, 3) := by decide +kernel
theorem dX4_refuse_25 : decode cX4_refuse 25 = .ok (.aload_n 0, 1) := by decide +kernel
theorem dX4_refuse_26 : decode cX4_refuse 26 = .ok (.dup, 1) := by decide +kernel
theorem dX4_refuse_27 : decode cX4_refuse 27 = .ok (.getfield 54, 3) := by decide +kernel
theorem dX4_refuse_30 : decode cX4_refuse 30 = .ok (.iconst 1, 1) := by decide +kernel
theorem dX4_refuse_31 : decode cX4_refuse 31 = .ok (.iadd, 1) := by decide +kernel
theorem dX4_refuse_32 : decode cX4_refuse 32 = .ok (.putfield 54, 3) := by decide +kernel
theorem dX4_refuse_35 : decode cX4_refuse 35 = .ok (.goto 13, 3) := by decide +kernel
theorem dX4_refuse_38 : decode cX4_refuse 38 = .ok (.aload_n 0, 1) := by decide +kernel
theorem dX4_refuse_39 : decode cX4_refuse 39 = .ok (.dup, 1) := by decide +kernel
theorem dX4_refuse_40 : decode cX4_refuse 40 = .ok (.getfield 57, 3) := by decide +kernel
theorem dX4_refuse_43 : decode cX4_refuse 43 = .ok (.iconst 1, 1) := by decide +kernel
theorem dX4_refuse_44 : decode cX4_refuse 44 = .ok (.iadd, 1) := by decide +kernel
theorem dX4_refuse_45 : decode cX4_refuse 45 = .ok (.putfield 57, 3) := by decide +kernel
theorem dX4_refuse_48 : decode cX4_refuse 48 = .ok (.iload_n 1, 1) := by decide +kernel
theorem dX4_refuse_49 : decode cX4_refuse 49 = .ok (.ireturn, 1) := by decide +kernel
theorem dX4_imageAt_0 : decode cX4_imageAt 0 = .ok (.iload_n 1, 1) := by decide +kernel
theorem dX4_imageAt_1 : decode cX4_imageAt 1 = .ok (.ifCond .ne 10, 3) := by decide +kernel
theorem dX4_imageAt_4 : decode cX4_imageAt 4 = .ok (.aload_n 0, 1) := by decide +kernel
theorem dX4_imageAt_5 : decode cX4_imageAt 5 = .ok (.getfield 16, 3) := by decide +kernel
theorem dX4_imageAt_8 : decode cX4_imageAt 8 = .ok (.goto 7, 3) := by decide +kernel
theorem dX4_imageAt_11 : decode cX4_imageAt 11 = .ok (.aload_n 0, 1) := by decide +kernel
theorem dX4_imageAt_12 : decode cX4_imageAt 12 = .ok (.getfield 19, 3) := by decide +kernel
theorem dX4_imageAt_15 : decode cX4_imageAt 15 = .ok (.areturn, 1) := by decide +kernel
theorem dX4_clearest_0 : decode cX4_clearest 0 = .ok (.iconst (-1), 1) := by decide +kernel
theorem dX4_clearest_1 : decode cX4_clearest 1 = .ok (.istore 6, 2) := by decide +kernel
theorem dX4_clearest_3 : decode cX4_clearest 3 = .ok (.bipush 7, 2) := by decide +kernel
theorem dX4_clearest_5 : decode cX4_clearest 5 = .ok (.istore 7, 2) := by decide +kernel
theorem dX4_clearest_7 : decode cX4_clearest 7 = .ok (.iconst 0, 1) := by decide +kernel
theorem dX4_clearest_8 : decode cX4_clearest 8 = .ok (.istore 8, 2) := by decide +kernel
theorem dX4_clearest_10 : decode cX4_clearest 10 = .ok (.iload 8, 2) := by decide +kernel
theorem dX4_clearest_12 : decode cX4_clearest 12 = .ok (.iload_n 3, 1) := by decide +kernel
theorem dX4_clearest_13 : decode cX4_clearest 13 = .ok (.if_icmp .gt 72, 3) := by decide +kernel
theorem dX4_clearest_16 : decode cX4_clearest 16 = .ok (.iload_n 2, 1) := by decide +kernel
theorem dX4_clearest_17 : decode cX4_clearest 17 = .ok (.ifCond .eq 68, 3) := by decide +kernel
theorem dX4_clearest_20 : decode cX4_clearest 20 = .ok (.iconst 0, 1) := by decide +kernel
theorem dX4_clearest_21 : decode cX4_clearest 21 = .ok (.istore 9, 2) := by decide +kernel
theorem dX4_clearest_23 : decode cX4_clearest 23 = .ok (.iload 9, 2) := by decide +kernel
theorem dX4_clearest_25 : decode cX4_clearest 25 = .ok (.iload 5, 2) := by decide +kernel
theorem dX4_clearest_27 : decode cX4_clearest 27 = .ok (.if_icmp .gt 52, 3) := by decide +kernel
theorem dX4_clearest_30 : decode cX4_clearest 30 = .ok (.aload_n 0, 1) := by decide +kernel
theorem dX4_clearest_31 : decode cX4_clearest 31 = .ok (.iload_n 1, 1) := by decide +kernel
theorem dX4_clearest_32 : decode cX4_clearest 32 = .ok (.iload 8, 2) := by decide +kernel
theorem dX4_clearest_34 : decode cX4_clearest 34 = .ok (.iload 4, 2) := by decide +kernel
theorem dX4_clearest_36 : decode cX4_clearest 36 = .ok (.imul, 1) := by decide +kernel
theorem dX4_clearest_37 : decode cX4_clearest 37 = .ok (.iload 9, 2) := by decide +kernel
theorem dX4_clearest_39 : decode cX4_clearest 39 = .ok (.invokevirtual 301, 3) := by decide +kernel
theorem dX4_clearest_42 : decode cX4_clearest 42 = .ok (.aload_n 0, 1) := by decide +kernel
theorem dX4_clearest_43 : decode cX4_clearest 43 = .ok (.iload_n 2, 1) := by decide +kernel
theorem dX4_clearest_44 : decode cX4_clearest 44 = .ok (.invokevirtual 305, 3) := by decide +kernel
theorem dX4_clearest_47 : decode cX4_clearest 47 = .ok (.istore 10, 2) := by decide +kernel
theorem dX4_clearest_49 : decode cX4_clearest 49 = .ok (.iload 10, 2) := by decide +kernel
theorem dX4_clearest_51 : decode cX4_clearest 51 = .ok (.iload 7, 2) := by decide +kernel
theorem dX4_clearest_53 : decode cX4_clearest 53 = .ok (.if_icmp .ge 20, 3) := by decide +kernel
theorem dX4_clearest_56 : decode cX4_clearest 56 = .ok (.iload 10, 2) := by decide +kernel
theorem dX4_clearest_58 : decode cX4_clearest 58 = .ok (.istore 7, 2) := by decide +kernel
theorem dX4_clearest_60 : decode cX4_clearest 60 = .ok (.bipush 100, 2) := by decide +kernel
theorem dX4_clearest_62 : decode cX4_clearest 62 = .ok (.iload 8, 2) := by decide +kernel
theorem dX4_clearest_64 : decode cX4_clearest 64 = .ok (.imul, 1) := by decide +kernel
theorem dX4_clearest_65 : decode cX4_clearest 65 = .ok (.iload 4, 2) := by decide +kernel
theorem dX4_clearest_67 : decode cX4_clearest 67 = .ok (.imul, 1) := by decide +kernel
theorem dX4_clearest_68 : decode cX4_clearest 68 = .ok (.iload 9, 2) := by decide +kernel
theorem dX4_clearest_70 : decode cX4_clearest 70 = .ok (.iadd, 1) := by decide +kernel
theorem dX4_clearest_71 : decode cX4_clearest 71 = .ok (.istore 6, 2) := by decide +kernel
theorem dX4_clearest_73 : decode cX4_clearest 73 = .ok (.iinc 9 1, 3) := by decide +kernel
theorem dX4_clearest_76 : decode cX4_clearest 76 = .ok (.goto (-53), 3) := by decide +kernel
theorem dX4_clearest_79 : decode cX4_clearest 79 = .ok (.iinc 8 1, 3) := by decide +kernel
theorem dX4_clearest_82 : decode cX4_clearest 82 = .ok (.goto (-72), 3) := by decide +kernel
theorem dX4_clearest_85 : decode cX4_clearest 85 = .ok (.iload 6, 2) := by decide +kernel
theorem dX4_clearest_87 : decode cX4_clearest 87 = .ok (.ireturn, 1) := by decide +kernel
theorem dX4_fillAmounts_0 : decode cX4_fillAmounts 0 = .ok (.iconst 0, 1) := by decide +kernel
theorem dX4_fillAmounts_1 : decode cX4_fillAmounts 1 = .ok (.istore 4, 2) := by decide +kernel
theorem dX4_fillAmounts_3 : decode cX4_fillAmounts 3 = .ok (.iload 4, 2) := by decide +kernel
theorem dX4_fillAmounts_5 : decode cX4_fillAmounts 5 = .ok (.bipush 6, 2) := by decide +kernel
theorem dX4_fillAmounts_7 : decode cX4_fillAmounts 7 = .ok (.if_icmp .ge 37, 3) := by decide +kernel
theorem dX4_fillAmounts_10 : decode cX4_fillAmounts 10 = .ok (.aload_n 0, 1) := by decide +kernel
theorem dX4_fillAmounts_11 : decode cX4_fillAmounts 11 = .ok (.getfield 36, 3) := by decide +kernel
theorem dX4_fillAmounts_14 : decode cX4_fillAmounts 14 = .ok (.iload 4, 2) := by decide +kernel
theorem dX4_fillAmounts_16 : decode cX4_fillAmounts 16 = .ok (.iload_n 1, 1) := by decide +kernel
theorem dX4_fillAmounts_17 : decode cX4_fillAmounts 17 = .ok (.ifCond .eq 13, 3) := by decide +kernel
theorem dX4_fillAmounts_20 : decode cX4_fillAmounts 20 = .ok (.iload 4, 2) := by decide +kernel
theorem dX4_fillAmounts_22 : decode cX4_fillAmounts 22 = .ok (.iload_n 2, 1) := by decide +kernel
theorem dX4_fillAmounts_23 : decode cX4_fillAmounts 23 = .ok (.iload_n 3, 1) := by decide +kernel
theorem dX4_fillAmounts_24 : decode cX4_fillAmounts 24 = .ok (.invokestatic 162, 3) := by decide +kernel
theorem dX4_fillAmounts_27 : decode cX4_fillAmounts 27 = .ok (.goto 10, 3) := by decide +kernel
theorem dX4_fillAmounts_30 : decode cX4_fillAmounts 30 = .ok (.iload 4, 2) := by decide +kernel
theorem dX4_fillAmounts_32 : decode cX4_fillAmounts 32 = .ok (.iload_n 2, 1) := by decide +kernel
theorem dX4_fillAmounts_33 : decode cX4_fillAmounts 33 = .ok (.iload_n 3, 1) := by decide +kernel
theorem dX4_fillAmounts_34 : decode cX4_fillAmounts 34 = .ok (.invokestatic 158, 3) := by decide +kernel
theorem dX4_fillAmounts_37 : decode cX4_fillAmounts 37 = .ok (.iastore, 1) := by decide +kernel
theorem dX4_fillAmounts_38 : decode cX4_fillAmounts 38 = .ok (.iinc 4 1, 3) := by decide +kernel
theorem dX4_fillAmounts_41 : decode cX4_fillAmounts 41 = .ok (.goto (-38), 3) := by decide +kernel
theorem dX4_fillAmounts_44 : decode cX4_fillAmounts 44 = .ok (.return_, 1) := by decide +kernel
theorem dX4_mostAlike_0 : decode cX4_mostAlike 0 = .ok (.iconst 0, 1) := by decide +kernel
theorem dX4_mostAlike_1 : decode cX4_mostAlike 1 = .ok (.istore_n 2, 1) := by decide +kernel
theorem dX4_mostAlike_2 : decode cX4_mostAlike 2 = .ok (.iconst 0, 1) := by decide +kernel
theorem dX4_mostAlike_3 : decode cX4_mostAlike 3 = .ok (.istore_n 3, 1) := by decide +kernel
theorem dX4_mostAlike_4 : decode cX4_mostAlike 4 = .ok (.iload_n 3, 1) := by decide +kernel
theorem dX4_mostAlike_5 : decode cX4_mostAlike 5 = .ok (.bipush 6, 2) := by decide +kernel
theorem dX4_mostAlike_7 : decode cX4_mostAlike 7 = .ok (.if_icmp .ge 73, 3) := by decide +kernel
theorem dX4_mostAlike_10 : decode cX4_mostAlike 10 = .ok (.iconst 0, 1) := by decide +kernel
theorem dX4_mostAlike_11 : decode cX4_mostAlike 11 = .ok (.istore 4, 2) := by decide +kernel
theorem dX4_mostAlike_13 : decode cX4_mostAlike 13 = .ok (.iload_n 3, 1) := by decide +kernel
theorem dX4_mostAlike_14 : decode cX4_mostAlike 14 = .ok (.istore 5, 2) := by decide +kernel
theorem dX4_mostAlike_16 : decode cX4_mostAlike 16 = .ok (.iload 5, 2) := by decide +kernel
theorem dX4_mostAlike_18 : decode cX4_mostAlike 18 = .ok (.bipush 6, 2) := by decide +kernel
theorem dX4_mostAlike_20 : decode cX4_mostAlike 20 = .ok (.if_icmp .ge 37, 3) := by decide +kernel
theorem dX4_mostAlike_23 : decode cX4_mostAlike 23 = .ok (.iload_n 1, 1) := by decide +kernel
theorem dX4_mostAlike_24 : decode cX4_mostAlike 24 = .ok (.iload 5, 2) := by decide +kernel
theorem dX4_mostAlike_26 : decode cX4_mostAlike 26 = .ok (.invokestatic 175, 3) := by decide +kernel
theorem dX4_mostAlike_29 : decode cX4_mostAlike 29 = .ok (.ifCond .eq 22, 3) := by decide +kernel
theorem dX4_mostAlike_32 : decode cX4_mostAlike 32 = .ok (.aload_n 0, 1) := by decide +kernel
theorem dX4_mostAlike_33 : decode cX4_mostAlike 33 = .ok (.getfield 36, 3) := by decide +kernel
theorem dX4_mostAlike_36 : decode cX4_mostAlike 36 = .ok (.iload 5, 2) := by decide +kernel
theorem dX4_mostAlike_38 : decode cX4_mostAlike 38 = .ok (.iaload, 1) := by decide +kernel
theorem dX4_mostAlike_39 : decode cX4_mostAlike 39 = .ok (.aload_n 0, 1) := by decide +kernel
theorem dX4_mostAlike_40 : decode cX4_mostAlike 40 = .ok (.getfield 36, 3) := by decide +kernel
theorem dX4_mostAlike_43 : decode cX4_mostAlike 43 = .ok (.iload_n 3, 1) := by decide +kernel
theorem dX4_mostAlike_44 : decode cX4_mostAlike 44 = .ok (.iaload, 1) := by decide +kernel
theorem dX4_mostAlike_45 : decode cX4_mostAlike 45 = .ok (.if_icmp .ne 6, 3) := by decide +kernel
theorem dX4_mostAlike_48 : decode cX4_mostAlike 48 = .ok (.iinc 4 1, 3) := by decide +kernel
theorem dX4_mostAlike_51 : decode cX4_mostAlike 51 = .ok (.iinc 5 1, 3) := by decide +kernel
theorem dX4_mostAlike_54 : decode cX4_mostAlike 54 = .ok (.goto (-38), 3) := by decide +kernel
theorem dX4_mostAlike_57 : decode cX4_mostAlike 57 = .ok (.iload_n 1, 1) := by decide +kernel
theorem dX4_mostAlike_58 : decode cX4_mostAlike 58 = .ok (.iload_n 3, 1) := by decide +kernel
theorem dX4_mostAlike_59 : decode cX4_mostAlike 59 = .ok (.invokestatic 175, 3) := by decide +kernel
theorem dX4_mostAlike_62 : decode cX4_mostAlike 62 = .ok (.ifCond .eq 12, 3) := by decide +kernel
theorem dX4_mostAlike_65 : decode cX4_mostAlike 65 = .ok (.iload 4, 2) := by decide +kernel
theorem dX4_mostAlike_67 : decode cX4_mostAlike 67 = .ok (.iload_n 2, 1) := by decide +kernel
theorem dX4_mostAlike_68 : decode cX4_mostAlike 68 = .ok (.if_icmp .le 6, 3) := by decide +kernel
theorem dX4_mostAlike_71 : decode cX4_mostAlike 71 = .ok (.iload 4, 2) := by decide +kernel
theorem dX4_mostAlike_73 : decode cX4_mostAlike 73 = .ok (.istore_n 2, 1) := by decide +kernel
theorem dX4_mostAlike_74 : decode cX4_mostAlike 74 = .ok (.iinc 3 1, 3) := by decide +kernel
theorem dX4_mostAlike_77 : decode cX4_mostAlike 77 = .ok (.goto (-73), 3) := by decide +kernel
theorem dX4_mostAlike_80 : decode cX4_mostAlike 80 = .ok (.iload_n 2, 1) := by decide +kernel
theorem dX4_mostAlike_81 : decode cX4_mostAlike 81 = .ok (.ireturn, 1) := by decide +kernel
theorem dX4_fillLosses_0 : decode cX4_fillLosses 0 = .ok (.iconst 0, 1) := by decide +kernel
theorem dX4_fillLosses_1 : decode cX4_fillLosses 1 = .ok (.istore_n 1, 1) := by decide +kernel
theorem dX4_fillLosses_2 : decode cX4_fillLosses 2 = .ok (.iload_n 1, 1) := by decide +kernel
theorem dX4_fillLosses_3 : decode cX4_fillLosses 3 = .ok (.bipush 8, 2) := by decide +kernel
theorem dX4_fillLosses_5 : decode cX4_fillLosses 5 = .ok (.if_icmp .ge 68, 3) := by decide +kernel
theorem dX4_fillLosses_8 : decode cX4_fillLosses 8 = .ok (.iconst 0, 1) := by decide +kernel
theorem dX4_fillLosses_9 : decode cX4_fillLosses 9 = .ok (.istore_n 2, 1) := by decide +kernel
theorem dX4_fillLosses_10 : decode cX4_fillLosses 10 = .ok (.iload_n 2, 1) := by decide +kernel
theorem dX4_fillLosses_11 : decode cX4_fillLosses 11 = .ok (.bipush 8, 2) := by decide +kernel
theorem dX4_fillLosses_13 : decode cX4_fillLosses 13 = .ok (.if_icmp .ge 54, 3) := by decide +kernel
theorem dX4_fillLosses_16 : decode cX4_fillLosses 16 = .ok (.aload_n 0, 1) := by decide +kernel
theorem dX4_fillLosses_17 : decode cX4_fillLosses 17 = .ok (.getfield 10, 3) := by decide +kernel
theorem dX4_fillLosses_20 : decode cX4_fillLosses 20 = .ok (.getfield 68, 3) := by decide +kernel
theorem dX4_fillLosses_23 : decode cX4_fillLosses 23 = .ok (.iload_n 1, 1) := by decide +kernel
theorem dX4_fillLosses_24 : decode cX4_fillLosses 24 = .ok (.invokevirtual 125, 3) := by decide +kernel
theorem dX4_fillLosses_27 : decode cX4_fillLosses 27 = .ok (.ifCond .eq 34, 3) := by decide +kernel
theorem dX4_fillLosses_30 : decode cX4_fillLosses 30 = .ok (.aload_n 0, 1) := by decide +kernel
theorem dX4_fillLosses_31 : decode cX4_fillLosses 31 = .ok (.getfield 10, 3) := by decide +kernel
theorem dX4_fillLosses_34 : decode cX4_fillLosses 34 = .ok (.getfield 68, 3) := by decide +kernel
theorem dX4_fillLosses_37 : decode cX4_fillLosses 37 = .ok (.iload_n 2, 1) := by decide +kernel
theorem dX4_fillLosses_38 : decode cX4_fillLosses 38 = .ok (.invokevirtual 125, 3) := by decide +kernel
theorem dX4_fillLosses_41 : decode cX4_fillLosses 41 = .ok (.ifCond .eq 20, 3) := by decide +kernel
theorem dX4_fillLosses_44 : decode cX4_fillLosses 44 = .ok (.aload_n 0, 1) := by decide +kernel
theorem dX4_fillLosses_45 : decode cX4_fillLosses 45 = .ok (.getfield 40, 3) := by decide +kernel
theorem dX4_fillLosses_48 : decode cX4_fillLosses 48 = .ok (.bipush 8, 2) := by decide +kernel
theorem dX4_fillLosses_50 : decode cX4_fillLosses 50 = .ok (.iload_n 1, 1) := by decide +kernel
theorem dX4_fillLosses_51 : decode cX4_fillLosses 51 = .ok (.imul, 1) := by decide +kernel
theorem dX4_fillLosses_52 : decode cX4_fillLosses 52 = .ok (.iload_n 2, 1) := by decide +kernel
theorem dX4_fillLosses_53 : decode cX4_fillLosses 53 = .ok (.iadd, 1) := by decide +kernel
theorem dX4_fillLosses_54 : decode cX4_fillLosses 54 = .ok (.aload_n 0, 1) := by decide +kernel
theorem dX4_fillLosses_55 : decode cX4_fillLosses 55 = .ok (.iload_n 1, 1) := by decide +kernel
theorem dX4_fillLosses_56 : decode cX4_fillLosses 56 = .ok (.iload_n 2, 1) := by decide +kernel
theorem dX4_fillLosses_57 : decode cX4_fillLosses 57 = .ok (.invokevirtual 308, 3) := by decide +kernel
theorem dX4_fillLosses_60 : decode cX4_fillLosses 60 = .ok (.iastore, 1) := by decide +kernel
theorem dX4_fillLosses_61 : decode cX4_fillLosses 61 = .ok (.iinc 2 1, 3) := by decide +kernel
theorem dX4_fillLosses_64 : decode cX4_fillLosses 64 = .ok (.goto (-54), 3) := by decide +kernel
theorem dX4_fillLosses_67 : decode cX4_fillLosses 67 = .ok (.iinc 1 1, 3) := by decide +kernel
theorem dX4_fillLosses_70 : decode cX4_fillLosses 70 = .ok (.goto (-68), 3) := by decide +kernel
theorem dX4_fillLosses_73 : decode cX4_fillLosses 73 = .ok (.return_, 1) := by decide +kernel
theorem dX4_lossBetween_0 : decode cX4_lossBetween 0 = .ok (.aload_n 0, 1) := by decide +kernel
theorem dX4_lossBetween_1 : decode cX4_lossBetween 1 = .ok (.getfield 25, 3) := by decide +kernel
theorem dX4_lossBetween_4 : decode cX4_lossBetween 4 = .ok (.aload_n 0, 1) := by decide +kernel
theorem dX4_lossBetween_5 : decode cX4_lossBetween 5 = .ok (.getfield 10, 3) := by decide +kernel
theorem dX4_lossBetween_8 : decode cX4_lossBetween 8 = .ok (.getfield 68, 3) := by decide +kernel
theorem dX4_lossBetween_11 : decode cX4_lossBetween 11 = .ok (.invokevirtual 165, 3) := by decide +kernel
theorem dX4_lossBetween_14 : decode cX4_lossBetween 14 = .ok (.astore_n 3, 1) := by decide +kernel
theorem dX4_lossBetween_15 : decode cX4_lossBetween 15 = .ok (.aload_n 3, 1) := by decide +kernel
theorem dX4_lossBetween_16 : decode cX4_lossBetween 16 = .ok (.iload_n 2, 1) := by decide +kernel
theorem dX4_lossBetween_17 : decode cX4_lossBetween 17 = .ok (.invokevirtual 146, 3) := by decide +kernel
theorem dX4_lossBetween_20 : decode cX4_lossBetween 20 = .ok (.ifCond .eq 23, 3) := by decide +kernel
theorem dX4_lossBetween_23 : decode cX4_lossBetween 23 = .ok (.aload_n 3, 1) := by decide +kernel
theorem dX4_lossBetween_24 : decode cX4_lossBetween 24 = .ok (.getfield 155, 3) := by decide +kernel
theorem dX4_lossBetween_27 : decode cX4_lossBetween 27 = .ok (.iload_n 2, 1) := by decide +kernel
theorem dX4_lossBetween_28 : decode cX4_lossBetween 28 = .ok (.bipush 59, 2) := by decide +kernel
theorem dX4_lossBetween_30 : decode cX4_lossBetween 30 = .ok (.aload_n 3, 1) := by decide +kernel
theorem dX4_lossBetween_31 : decode cX4_lossBetween 31 = .ok (.getfield 155, 3) := by decide +kernel
theorem dX4_lossBetween_34 : decode cX4_lossBetween 34 = .ok (.iload_n 2, 1) := by decide +kernel
theorem dX4_lossBetween_35 : decode cX4_lossBetween 35 = .ok (.iaload, 1) := by decide +kernel
theorem dX4_lossBetween_36 : decode cX4_lossBetween 36 = .ok (.bipush 10, 2) := by decide +kernel
theorem dX4_lossBetween_38 : decode cX4_lossBetween 38 = .ok (.iadd, 1) := by decide +kernel
theorem dX4_lossBetween_39 : decode cX4_lossBetween 39 = .ok (.invokestatic 137, 3) := by decide +kernel
theorem dX4_lossBetween_42 : decode cX4_lossBetween 42 = .ok (.iastore, 1) := by decide +kernel
theorem dX4_lossBetween_43 : decode cX4_lossBetween 43 = .ok (.aload_n 3, 1) := by decide +kernel
theorem dX4_lossBetween_44 : decode cX4_lossBetween 44 = .ok (.iload_n 1, 1) := by decide +kernel
theorem dX4_lossBetween_45 : decode cX4_lossBetween 45 = .ok (.invokevirtual 134, 3) := by decide +kernel
theorem dX4_lossBetween_48 : decode cX4_lossBetween 48 = .ok (.ireturn, 1) := by decide +kernel
theorem dX4_rests_0 : decode cX4_rests 0 = .ok (.aload_n 0, 1) := by decide +kernel
theorem dX4_rests_1 : decode cX4_rests 1 = .ok (.getfield 40, 3) := by decide +kernel
theorem dX4_rests_4 : decode cX4_rests 4 = .ok (.bipush 8, 2) := by decide +kernel
theorem dX4_rests_6 : decode cX4_rests 6 = .ok (.iload_n 1, 1) := by decide +kernel
theorem dX4_rests_7 : decode cX4_rests 7 = .ok (.imul, 1) := by decide +kernel
theorem dX4_rests_8 : decode cX4_rests 8 = .ok (.iload_n 2, 1) := by decide +kernel
theorem dX4_rests_9 : decode cX4_rests 9 = .ok (.iadd, 1) := by decide +kernel
theorem dX4_rests_10 : decode cX4_rests 10 = .ok (.iaload, 1) := by decide +kernel
theorem dX4_rests_11 : decode cX4_rests 11 = .ok (.istore_n 3, 1) := by decide +kernel
theorem dX4_rests_12 : decode cX4_rests 12 = .ok (.iconst 0, 1) := by decide +kernel
theorem dX4_rests_13 : decode cX4_rests 13 = .ok (.istore 4, 2) := by decide +kernel
theorem dX4_rests_15 : decode cX4_rests 15 = .ok (.iload 4, 2) := by decide +kernel
theorem dX4_rests_17 : decode cX4_rests 17 = .ok (.bipush 8, 2) := by decide +kernel
theorem dX4_rests_19 : decode cX4_rests 19 = .ok (.if_icmp .ge 58, 3) := by decide +kernel
theorem dX4_rests_22 : decode cX4_rests 22 = .ok (.aload_n 0, 1) := by decide +kernel
theorem dX4_rests_23 : decode cX4_rests 23 = .ok (.getfield 10, 3) := by decide +kernel
theorem dX4_rests_26 : decode cX4_rests 26 = .ok (.getfield 68, 3) := by decide +kernel
theorem dX4_rests_29 : decode cX4_rests 29 = .ok (.iload 4, 2) := by decide +kernel
theorem dX4_rests_31 : decode cX4_rests 31 = .ok (.invokevirtual 125, 3) := by decide +kernel
theorem dX4_rests_34 : decode cX4_rests 34 = .ok (.ifCond .eq 37, 3) := by decide +kernel
theorem dX4_rests_37 : decode cX4_rests 37 = .ok (.aload_n 0, 1) := by decide +kernel
theorem dX4_rests_38 : decode cX4_rests 38 = .ok (.getfield 40, 3) := by decide +kernel
theorem dX4_rests_41 : decode cX4_rests 41 = .ok (.bipush 8, 2) := by decide +kernel
theorem dX4_rests_43 : decode cX4_rests 43 = .ok (.iload 4, 2) := by decide +kernel
theorem dX4_rests_45 : decode cX4_rests 45 = .ok (.imul, 1) := by decide +kernel
theorem dX4_rests_46 : decode cX4_rests 46 = .ok (.iload_n 2, 1) := by decide +kernel
theorem dX4_rests_47 : decode cX4_rests 47 = .ok (.iadd, 1) := by decide +kernel
theorem dX4_rests_48 : decode cX4_rests 48 = .ok (.iaload, 1) := by decide +kernel
theorem dX4_rests_49 : decode cX4_rests 49 = .ok (.iload_n 3, 1) := by decide +kernel
theorem dX4_rests_50 : decode cX4_rests 50 = .ok (.if_icmp .lt 19, 3) := by decide +kernel
theorem dX4_rests_53 : decode cX4_rests 53 = .ok (.aload_n 0, 1) := by decide +kernel
theorem dX4_rests_54 : decode cX4_rests 54 = .ok (.getfield 40, 3) := by decide +kernel
theorem dX4_rests_57 : decode cX4_rests 57 = .ok (.bipush 8, 2) := by decide +kernel
theorem dX4_rests_59 : decode cX4_rests 59 = .ok (.iload_n 1, 1) := by decide +kernel
theorem dX4_rests_60 : decode cX4_rests 60 = .ok (.imul, 1) := by decide +kernel
theorem dX4_rests_61 : decode cX4_rests 61 = .ok (.iload 4, 2) := by decide +kernel
theorem dX4_rests_63 : decode cX4_rests 63 = .ok (.iadd, 1) := by decide +kernel
theorem dX4_rests_64 : decode cX4_rests 64 = .ok (.iaload, 1) := by decide +kernel
theorem dX4_rests_65 : decode cX4_rests 65 = .ok (.iload_n 3, 1) := by decide +kernel
theorem dX4_rests_66 : decode cX4_rests 66 = .ok (.if_icmp .le 5, 3) := by decide +kernel
theorem dX4_rests_69 : decode cX4_rests 69 = .ok (.iconst 0, 1) := by decide +kernel
theorem dX4_rests_70 : decode cX4_rests 70 = .ok (.ireturn, 1) := by decide +kernel
theorem dX4_rests_71 : decode cX4_rests 71 = .ok (.iinc 4 1, 3) := by decide +kernel
theorem dX4_rests_74 : decode cX4_rests 74 = .ok (.goto (-59), 3) := by decide +kernel
theorem dX4_rests_77 : decode cX4_rests 77 = .ok (.iconst 1, 1) := by decide +kernel
theorem dX4_rests_78 : decode cX4_rests 78 = .ok (.ireturn, 1) := by decide +kernel
theorem dX4_setFraction_0 : decode cX4_setFraction 0 = .ok (.lload_n 1, 1) := by decide +kernel
theorem dX4_setFraction_1 : decode cX4_setFraction 1 = .ok (.lstore 5, 2) := by decide +kernel
theorem dX4_setFraction_3 : decode cX4_setFraction 3 = .ok (.lload_n 3, 1) := by decide +kernel
theorem dX4_setFraction_4 : decode cX4_setFraction 4 = .ok (.lstore 7, 2) := by decide +kernel
theorem dX4_setFraction_6 : decode cX4_setFraction 6 = .ok (.iconst 0, 1) := by decide +kernel
theorem dX4_setFraction_7 : decode cX4_setFraction 7 = .ok (.istore 9, 2) := by decide +kernel
theorem dX4_setFraction_9 : decode cX4_setFraction 9 = .ok (.iload 9, 2) := by decide +kernel
theorem dX4_setFraction_11 : decode cX4_setFraction 11 = .ok (.bipush 100, 2) := by decide +kernel
theorem dX4_setFraction_13 : decode cX4_setFraction 13 = .ok (.if_icmp .ge 31, 3) := by decide +kernel
theorem dX4_setFraction_16 : decode cX4_setFraction 16 = .ok (.lload 7, 2) := by decide +kernel
theorem dX4_setFraction_18 : decode cX4_setFraction 18 = .ok (.lconst 0, 1) := by decide +kernel
theorem dX4_setFraction_19 : decode cX4_setFraction 19 = .ok (.lcmp, 1) := by decide +kernel
theorem dX4_setFraction_20 : decode cX4_setFraction 20 = .ok (.ifCond .eq 24, 3) := by decide +kernel
theorem dX4_setFraction_23 : decode cX4_setFraction 23 = .ok (.lload 5, 2) := by decide +kernel
theorem dX4_setFraction_25 : decode cX4_setFraction 25 = .ok (.lload 7, 2) := by decide +kernel
theorem dX4_setFraction_27 : decode cX4_setFraction 27 = .ok (.lrem, 1) := by decide +kernel
theorem dX4_setFraction_28 : decode cX4_setFraction 28 = .ok (.lstore 10, 2) := by decide +kernel
theorem dX4_setFraction_30 : decode cX4_setFraction 30 = .ok (.lload 7, 2) := by decide +kernel
theorem dX4_setFraction_32 : decode cX4_setFraction 32 = .ok (.lstore 5, 2) := by decide +kernel
theorem dX4_setFraction_34 : decode cX4_setFraction 34 = .ok (.lload 10, 2) := by decide +kernel
theorem dX4_setFraction_36 : decode cX4_setFraction 36 = .ok (.lstore 7, 2) := by decide +kernel
theorem dX4_setFraction_38 : decode cX4_setFraction 38 = .ok (.iinc 9 1, 3) := by decide +kernel
theorem dX4_setFraction_41 : decode cX4_setFraction 41 = .ok (.goto (-32), 3) := by decide +kernel
theorem dX4_setFraction_44 : decode cX4_setFraction 44 = .ok (.lload 5, 2) := by decide +kernel
theorem dX4_setFraction_46 : decode cX4_setFraction 46 = .ok (.lconst 0, 1) := by decide +kernel
theorem dX4_setFraction_47 : decode cX4_setFraction 47 = .ok (.lcmp, 1) := by decide +kernel
theorem dX4_setFraction_48 : decode cX4_setFraction 48 = .ok (.ifCond .le 19, 3) := by decide +kernel
theorem dX4_setFraction_51 : decode cX4_setFraction 51 = .ok (.aload_n 0, 1) := by decide +kernel
theorem dX4_setFraction_52 : decode cX4_setFraction 52 = .ok (.lload_n 1, 1) := by decide +kernel
theorem dX4_setFraction_53 : decode cX4_setFraction 53 = .ok (.lload 5, 2) := by decide +kernel
theorem dX4_setFraction_55 : decode cX4_setFraction 55 = .ok (.ldiv, 1) := by decide +kernel
theorem dX4_setFraction_56 : decode cX4_setFraction 56 = .ok (.putfield 43, 3) := by decide +kernel
theorem dX4_setFraction_59 : decode cX4_setFraction 59 = .ok (.aload_n 0, 1) := by decide +kernel
theorem dX4_setFraction_60 : decode cX4_setFraction 60 = .ok (.lload_n 3, 1) := by decide +kernel
theorem dX4_setFraction_61 : decode cX4_setFraction 61 = .ok (.lload 5, 2) := by decide +kernel
theorem dX4_setFraction_63 : decode cX4_setFraction 63 = .ok (.ldiv, 1) := by decide +kernel
theorem dX4_setFraction_64 : decode cX4_setFraction 64 = .ok (.putfield 47, 3) := by decide +kernel
theorem dX4_setFraction_67 : decode cX4_setFraction 67 = .ok (.return_, 1) := by decide +kernel
theorem dX5_init_0 : decode cX5_init 0 = .ok (.aload_n 0, 1) := by decide +kernel
theorem dX5_init_1 : decode cX5_init 1 = .ok (.invokespecial 1, 3) := by decide +kernel
theorem dX5_init_4 : decode cX5_init 4 = .ok (.aload_n 0, 1) := by decide +kernel
theorem dX5_init_5 : decode cX5_init 5 = .ok (.sipush 318, 3) := by decide +kernel
theorem dX5_init_8 : decode cX5_init 8 = .ok (.newarray .int, 2) := by decide +kernel
theorem dX5_init_10 : decode cX5_init 10 = .ok (.putfield 7, 3) := by decide +kernel
theorem dX5_init_13 : decode cX5_init 13 = .ok (.aload_n 0, 1) := by decide +kernel
theorem dX5_init_14 : decode cX5_init 14 = .ok (.sipush 636, 3) := by decide +kernel
theorem dX5_init_17 : decode cX5_init 17 = .ok (.newarray .int, 2) := by decide +kernel
theorem dX5_init_19 : decode cX5_init 19 = .ok (.putfield 13, 3) := by decide +kernel
theorem dX5_init_22 : decode cX5_init 22 = .ok (.aload_n 0, 1) := by decide +kernel
theorem dX5_init_23 : decode cX5_init 23 = .ok (.iconst 2, 1) := by decide +kernel
theorem dX5_init_24 : decode cX5_init 24 = .ok (.newarray .boolean, 2) := by decide +kernel
theorem dX5_init_26 : decode cX5_init 26 = .ok (.putfield 16, 3) := by decide +kernel
theorem dX5_init_29 : decode cX5_init 29 = .ok (.aload_n 0, 1) := by decide +kernel
theorem dX5_init_30 : decode cX5_init 30 = .ok (.iconst 3, 1) := by decide +kernel
theorem dX5_init_31 : decode cX5_init 31 = .ok (.newarray .int, 2) := by decide +kernel
theorem dX5_init_33 : decode cX5_init 33 = .ok (.putfield 20, 3) := by decide +kernel
theorem dX5_init_36 : decode cX5_init 36 = .ok (.aload_n 0, 1) := by decide +kernel
theorem dX5_init_37 : decode cX5_init 37 = .ok (.lconst 1, 1) := by decide +kernel
theorem dX5_init_38 : decode cX5_init 38 = .ok (.putfield 23, 3) := by decide +kernel
theorem dX5_init_41 : decode cX5_init 41 = .ok (.aload_n 0, 1) := by decide +kernel
theorem dX5_init_42 : decode cX5_init 42 = .ok (.bipush 48, 2) := by decide +kernel
theorem dX5_init_44 : decode cX5_init 44 = .ok (.newarray .int, 2) := by decide +kernel
theorem dX5_init_46 : decode cX5_init 46 = .ok (.putfield 27, 3) := by decide +kernel
theorem dX5_init_49 : decode cX5_init 49 = .ok (.aload_n 0, 1) := by decide +kernel
theorem dX5_init_50 : decode cX5_init 50 = .ok (.bipush 6, 2) := by decide +kernel
theorem dX5_init_52 : decode cX5_init 52 = .ok (.newarray .int, 2) := by decide +kernel
theorem dX5_init_54 : decode cX5_init 54 = .ok (.putfield 30, 3) := by decide +kernel
theorem dX5_init_57 : decode cX5_init 57 = .ok (.aload_n 0, 1) := by decide +kernel
theorem dX5_init_58 : decode cX5_init 58 = .ok (.bipush 64, 2) := by decide +kernel
theorem dX5_init_60 : decode cX5_init 60 = .ok (.newarray .int, 2) := by decide +kernel
theorem dX5_init_62 : decode cX5_init 62 = .ok (.putfield 33, 3) := by decide +kernel
theorem dX5_init_65 : decode cX5_init 65 = .ok (.aload_n 0, 1) := by decide +kernel
theorem dX5_init_66 : decode cX5_init 66 = .ok (.sipush 150, 3) := by decide +kernel
theorem dX5_init_69 : decode cX5_init 69 = .ok (.newarray .int, 2) := by decide +kernel
theorem dX5_init_71 : decode cX5_init 71 = .ok (.putfield 36, 3) := by decide +kernel
theorem dX5_init_74 : decode cX5_init 74 = .ok (.aload_n 0, 1) := by decide +kernel
theorem dX5_init_75 : decode cX5_init 75 = .ok (.bipush 86, 2) := by decide +kernel
theorem dX5_init_77 : decode cX5_init 77 = .ok (.newarray .int, 2) := by decide +kernel
theorem dX5_init_79 : decode cX5_init 79 = .ok (.putfield 39, 3) := by decide +kernel
theorem dX5_init_82 : decode cX5_init 82 = .ok (.aload_n 0, 1) := by decide +kernel
theorem dX5_init_83 : decode cX5_init 83 = .ok (.iconst 3, 1) := by decide +kernel
theorem dX5_init_84 : decode cX5_init 84 = .ok (.newarray .int, 2) := by decide +kernel
theorem dX5_init_86 : decode cX5_init 86 = .ok (.putfield 42, 3) := by decide +kernel
theorem dX5_init_89 : decode cX5_init 89 = .ok (.aload_n 0, 1) := by decide +kernel
theorem dX5_init_90 : decode cX5_init 90 = .ok (.getfield 7, 3) := by decide +kernel
theorem dX5_init_93 : decode cX5_init 93 = .ok (.iconst 0, 1) := by decide +kernel
theorem dX5_init_94 : decode cX5_init 94 = .ok (.invokestatic 45, 3) := by decide +kernel
theorem dX5_init_97 : decode cX5_init 97 = .ok (.return_, 1) := by decide +kernel
theorem dX5_in_0 : decode cX5_in 0 = .ok (.lload_n 0, 1) := by decide +kernel
theorem dX5_in_1 : decode cX5_in 1 = .ok (.lload_n 2, 1) := by decide +kernel
theorem dX5_in_2 : decode cX5_in 2 = .ok (.lcmp, 1) := by decide +kernel
theorem dX5_in_3 : decode cX5_in 3 = .ok (.ifCond .lt 14, 3) := by decide +kernel
theorem dX5_in_6 : decode cX5_in 6 = .ok (.lload_n 0, 1) := by decide +kernel
theorem dX5_in_7 : decode cX5_in 7 = .ok (.lload 4, 2) := by decide +kernel
theorem dX5_in_9 : decode cX5_in 9 = .ok (.lcmp, 1) := by decide +kernel
theorem dX5_in_10 : decode cX5_in 10 = .ok (.ifCond .gt 7, 3) := by decide +kernel
theorem dX5_in_13 : decode cX5_in 13 = .ok (.iconst 1, 1) := by decide +kernel
theorem dX5_in_14 : decode cX5_in 14 = .ok (.goto 4, 3) := by decide +kernel
theorem dX5_in_17 : decode cX5_in 17 = .ok (.iconst 0, 1) := by decide +kernel
theorem dX5_in_18 : decode cX5_in 18 = .ok (.ireturn, 1) := by decide +kernel
theorem dX5_bad_0 : decode cX5_bad 0 = .ok (.aload_n 0, 1) := by decide +kernel
theorem dX5_bad_1 : decode cX5_bad 1 = .ok (.getfield 20, 3) := by decide +kernel
theorem dX5_bad_4 : decode cX5_bad 4 = .ok (.iconst 0, 1) := by decide +kernel
theorem dX5_bad_5 : decode cX5_bad 5 = .ok (.dup2, 1) := by decide +kernel
theorem dX5_bad_6 : decode cX5_bad 6 = .ok (.iaload, 1) := by decide +kernel
theorem dX5_bad_7 : decode cX5_bad 7 = .ok (.iconst 1, 1) := by decide +kernel
theorem dX5_bad_8 : decode cX5_bad 8 = .ok (.iadd, 1) := by decide +kernel
theorem dX5_bad_9 : decode cX5_bad 9 = .ok (.iastore, 1) := by decide +kernel
theorem dX5_bad_10 : decode cX5_bad 10 = .ok (.iload_n 1, 1) := by decide +kernel
theorem dX5_bad_11 : decode cX5_bad 11 = .ok (.ireturn, 1) := by decide +kernel
theorem dX5_no_0 : decode cX5_no 0 = .ok (.aload_n 0, 1) := by decide +kernel
theorem dX5_no_1 : decode cX5_no 1 = .ok (.getfield 20, 3) := by decide +kernel
theorem dX5_no_4 : decode cX5_no 4 = .ok (.iconst 1, 1) := by decide +kernel
theorem dX5_no_5 : decode cX5_no 5 = .ok (.dup2, 1) := by decide +kernel
theorem dX5_no_6 : decode cX5_no 6 = .ok (.iaload, 1) := by decide +kernel
theorem dX5_no_7 : decode cX5_no 7 = .ok (.iconst 1, 1) := by decide +kernel
theorem dX5_no_8 : decode cX5_no 8 = .ok (.iadd, 1) := by decide +kernel
theorem dX5_no_9 : decode cX5_no 9 = .ok (.iastore, 1) := by decide +kernel
theorem dX5_no_10 : decode cX5_no 10 = .ok (.bipush (-3), 2) := by decide +kernel
theorem dX5_no_12 : decode cX5_no 12 = .ok (.ireturn, 1) := by decide +kernel
theorem dX5_full_0 : decode cX5_full 0 = .ok (.aload_n 0, 1) := by decide +kernel
theorem dX5_full_1 : decode cX5_full 1 = .ok (.getfield 20, 3) := by decide +kernel
theorem dX5_full_4 : decode cX5_full 4 = .ok (.iconst 2, 1) := by decide +kernel
theorem dX5_full_5 : decode cX5_full 5 = .ok (.dup2, 1) := by decide +kernel
theorem dX5_full_6 : decode cX5_full 6 = .ok (.iaload, 1) := by decide +kernel
theorem dX5_full_7 : decode cX5_full 7 = .ok (.iconst 1, 1) := by decide +kernel
theorem dX5_full_8 : decode cX5_full 8 = .ok (.iadd, 1) := by decide +kernel
theorem dX5_full_9 : decode cX5_full 9 = .ok (.iastore, 1) := by decide +kernel
theorem dX5_full_10 : decode cX5_full 10 = .ok (.bipush (-4), 2) := by decide +kernel
theorem dX5_full_12 : decode cX5_full 12 = .ok (.ireturn, 1) := by decide +kernel
theorem dX5_isIn_0 : decode cX5_isIn 0 = .ok (.iload_n 0, 1) := by decide +kernel
theorem dX5_isIn_1 : decode cX5_isIn 1 = .ok (.iload_n 1, 1) := by decide +kernel
theorem dX5_isIn_2 : decode cX5_isIn 2 = .ok (.ishr, 1) := by decide +kernel
theorem dX5_isIn_3 : decode cX5_isIn 3 = .ok (.iconst 1, 1) := by decide +kernel
theorem dX5_isIn_4 : decode cX5_isIn 4 = .ok (.iand, 1) := by decide +kernel
theorem dX5_isIn_5 : decode cX5_isIn 5 = .ok (.iconst 1, 1) := by decide +kernel
theorem dX5_isIn_6 : decode cX5_isIn 6 = .ok (.if_icmp .ne 7, 3) := by decide +kernel
theorem dX5_isIn_9 : decode cX5_isIn 9 = .ok (.iconst 1, 1) := by decide +kernel
theorem dX5_isIn_10 : decode cX5_isIn 10 = .ok (.goto 4, 3) := by decide +kernel
theorem dX5_isIn_13 : decode cX5_isIn 13 = .ok (.iconst 0, 1) := by decide +kernel
theorem dX5_isIn_14 : decode cX5_isIn 14 = .ok (.ireturn, 1) := by decide +kernel
theorem dX5_begin_0 : decode cX5_begin 0 = .ok (.iconst 0, 1) := by decide +kernel
theorem dX5_begin_1 : decode cX5_begin 1 = .ok (.istore_n 2, 1) := by decide +kernel
theorem dX5_begin_2 : decode cX5_begin 2 = .ok (.iload_n 2, 1) := by decide +kernel
theorem dX5_begin_3 : decode cX5_begin 3 = .ok (.bipush 86, 2) := by decide +kernel
theorem dX5_begin_5 : decode cX5_begin 5 = .ok (.if_icmp .ge 13, 3) := by decide +kernel
theorem dX5_begin_8 : decode cX5_begin 8 = .ok (.aload_n 0, 1) := by decide +kernel
theorem dX5_begin_9 : decode cX5_begin 9 = .ok (.iload_n 2, 1) := by decide +kernel
theorem dX5_begin_10 : decode cX5_begin 10 = .ok (.iconst 0, 1) := by decide +kernel
theorem dX5_begin_11 : decode cX5_begin 11 = .ok (.iastore, 1) := by decide +kernel
theorem dX5_begin_12 : decode cX5_begin 12 = .ok (.iinc 2 1, 3) := by decide +kernel
theorem dX5_begin_15 : decode cX5_begin 15 = .ok (.goto (-13), 3) := by decide +kernel
theorem dX5_begin_18 : decode cX5_begin 18 = .ok (.iconst 0, 1) := by decide +kernel
theorem dX5_begin_19 : decode cX5_begin 19 = .ok (.istore_n 2, 1) := by decide +kernel
theorem dX5_begin_20 : decode cX5_begin 20 = .ok (.iload_n 2, 1) := by decide +kernel
theorem dX5_begin_21 : decode cX5_begin 21 = .ok (.bipush 20, 2) := by decide +kernel
theorem dX5_begin_23 : decode cX5_begin 23 = .ok (.if_icmp .ge 16, 3) := by decide +kernel
theorem dX5_begin_26 : decode cX5_begin 26 = .ok (.aload_n 0, 1) := by decide +kernel
theorem dX5_begin_27 : decode cX5_begin 27 = .ok (.bipush 14, 2) := by decide +kernel
theorem dX5_begin_29 : decode cX5_begin 29 = .ok (.iload_n 2, 1) := by decide +kernel
theorem dX5_begin_30 : decode cX5_begin 30 = .ok (.iadd, 1) := by decide +kernel
theorem dX5_begin_31 : decode cX5_begin 31 = .ok (.iconst 1, 1) := by decide +kernel
theorem dX5_begin_32 : decode cX5_begin 32 = .ok (.iastore, 1) := by decide +kernel
theorem dX5_begin_33 : decode cX5_begin 33 = .ok (.iinc 2 1, 3) := by decide +kernel
theorem dX5_begin_36 : decode cX5_begin 36 = .ok (.goto (-16), 3) := by decide +kernel
theorem dX5_begin_39 : decode cX5_begin 39 = .ok (.aload_n 0, 1) := by decide +kernel
theorem dX5_begin_40 : decode cX5_begin 40 = .ok (.iconst 4, 1) := by decide +kernel
theorem dX5_begin_41 : decode cX5_begin 41 = .ok (.iload_n 1, 1) := by decide +kernel
theorem dX5_begin_42 : decode cX5_begin 42 = .ok (.iastore, 1) := by decide +kernel
theorem dX5_begin_43 : decode cX5_begin 43 = .ok (.return_, 1) := by decide +kernel
theorem dX5_many_0 : decode cX5_many 0 = .ok (.aload_n 0, 1) := by decide +kernel
theorem dX5_many_1 : decode cX5_many 1 = .ok (.getfield 7, 3) := by decide +kernel
theorem dX5_many_4 : decode cX5_many 4 = .ok (.iconst 0, 1) := by decide +kernel
theorem dX5_many_5 : decode cX5_many 5 = .ok (.iaload, 1) := by decide +kernel
theorem dX5_many_6 : decode cX5_many 6 = .ok (.ireturn, 1) := by decide +kernel
theorem dX5_isHill_0 : decode cX5_isHill 0 = .ok (.iload_n 1, 1) := by decide +kernel
theorem dX5_isHill_1 : decode cX5_isHill 1 = .ok (.i2l, 1) := by decide +kernel
theorem dX5_isHill_2 : decode cX5_isHill 2 = .ok (.lconst 0, 1) := by decide +kernel
theorem dX5_isHill_3 : decode cX5_isHill 3 = .ok (.aload_n 0, 1) := by decide +kernel
theorem dX5_isHill_4 : decode cX5_isHill 4 = .ok (.invokevirtual 49, 3) := by decide +kernel
theorem dX5_isHill_7 : decode cX5_isHill 7 = .ok (.iconst 1, 1) := by decide +kernel
theorem dX5_isHill_8 : decode cX5_isHill 8 = .ok (.isub, 1) := by decide +kernel
theorem dX5_isHill_9 : decode cX5_isHill 9 = .ok (.i2l, 1) := by decide +kernel
theorem dX5_isHill_10 : decode cX5_isHill 10 = .ok (.invokestatic 53, 3) := by decide +kernel
theorem dX5_isHill_13 : decode cX5_isHill 13 = .ok (.ireturn, 1) := by decide +kernel
theorem dX5_isCell_0 : decode cX5_isCell 0 = .ok (.iload_n 0, 1) := by decide +kernel
theorem dX5_isCell_1 : decode cX5_isCell 1 = .ok (.i2l, 1) := by decide +kernel
theorem dX5_isCell_2 : decode cX5_isCell 2 = .ok (.lconst 0, 1) := by decide +kernel
theorem dX5_isCell_3 : decode cX5_isCell 3 = .ok (.ldc2_w 57, 3) := by decide +kernel
theorem dX5_isCell_6 : decode cX5_isCell 6 = .ok (.invokestatic 53, 3) := by decide +kernel
theorem dX5_isCell_9 : decode cX5_isCell 9 = .ok (.ireturn, 1) := by decide +kernel
theorem dX5_isKind_0 : decode cX5_isKind 0 = .ok (.iload_n 0, 1) := by decide +kernel
theorem dX5_isKind_1 : decode cX5_isKind 1 = .ok (.i2l, 1) := by decide +kernel
theorem dX5_isKind_2 : decode cX5_isKind 2 = .ok (.lconst 0, 1) := by decide +kernel
theorem dX5_isKind_3 : decode cX5_isKind 3 = .ok (.ldc2_w 59, 3) := by decide +kernel
theorem dX5_isKind_6 : decode cX5_isKind 6 = .ok (.invokestatic 53, 3) := by decide +kernel
theorem dX5_isKind_9 : decode cX5_isKind 9 = .ok (.ireturn, 1) := by decide +kernel
theorem dX5_isSize_0 : decode cX5_isSize 0 = .ok (.iload_n 0, 1) := by decide +kernel
theorem dX5_isSize_1 : decode cX5_isSize 1 = .ok (.i2l, 1) := by decide +kernel
theorem dX5_isSize_2 : decode cX5_isSize 2 = .ok (.lconst 0, 1) := by decide +kernel
theorem dX5_isSize_3 : decode cX5_isSize 3 = .ok (.ldc2_w 61, 3) := by decide +kernel
theorem dX5_isSize_6 : decode cX5_isSize 6 = .ok (.invokestatic 53, 3) := by decide +kernel
theorem dX5_isSize_9 : decode cX5_isSize 9 = .ok (.ireturn, 1) := by decide +kernel
theorem dX5_island_0 : decode cX5_island 0 = .ok (.iload_n 1, 1) := by decide +kernel
theorem dX5_island_1 : decode cX5_island 1 = .ok (.invokestatic 63, 3) := by decide +kernel
theorem dX5_island_4 : decode cX5_island 4 = .ok (.ifCond .ne 10, 3) := by decide +kernel
theorem dX5_island_7 : decode cX5_island 7 = .ok (.aload_n 0, 1) := by decide +kernel
theorem dX5_island_8 : decode cX5_island 8 = .ok (.bipush (-2), 2) := by decide +kernel
theorem dX5_island_10 : decode cX5_island 10 = .ok (.invokevirtual 67, 3) := by decide +kernel
theorem dX5_island_13 : decode cX5_island 13 = .ok (.ireturn, 1) := by decide +kernel
theorem dX5_island_14 : decode cX5_island 14 = .ok (.aload_n 0, 1) := by decide +kernel
theorem dX5_island_15 : decode cX5_island 15 = .ok (.invokevirtual 49, 3) := by decide +kernel
theorem dX5_island_18 : decode cX5_island 18 = .ok (.istore_n 2, 1) := by decide +kernel
theorem dX5_island_19 : decode cX5_island 19 = .ok (.aload_n 0, 1) := by decide +kernel
theorem dX5_island_20 : decode cX5_island 20 = .ok (.getfield 7, 3) := by decide +kernel
theorem dX5_island_23 : decode cX5_island 23 = .ok (.iload_n 1, 1) := by decide +kernel
theorem dX5_island_24 : decode cX5_island 24 = .ok (.invokestatic 45, 3) := by decide +kernel
theorem dX5_island_27 : decode cX5_island 27 = .ok (.iload_n 2, 1) := by decide +kernel
theorem dX5_island_28 : decode cX5_island 28 = .ok (.ireturn, 1) := by decide +kernel
theorem dX5_clerk_0 : decode cX5_clerk 0 = .ok (.iload_n 1, 1) := by decide +kernel
theorem dX5_clerk_1 : decode cX5_clerk 1 = .ok (.invokestatic 63, 3) := by decide +kernel
theorem dX5_clerk_4 : decode cX5_clerk 4 = .ok (.ifCond .ne 10, 3) := by decide +kernel
theorem dX5_clerk_7 : decode cX5_clerk 7 = .ok (.aload_n 0, 1) := by decide +kernel
theorem dX5_clerk_8 : decode cX5_clerk 8 = .ok (.bipush (-2), 2) := by decide +kernel
theorem dX5_clerk_10 : decode cX5_clerk 10 = .ok (.invokevirtual 67, 3) := by decide +kernel
theorem dX5_clerk_13 : decode cX5_clerk 13 = .ok (.ireturn, 1) := by decide +kernel
theorem dX5_clerk_14 : decode cX5_clerk 14 = .ok (.aload_n 0, 1) := by decide +kernel
theorem dX5_clerk_15 : decode cX5_clerk 15 = .ok (.getfield 7, 3) := by decide +kernel
theorem dX5_clerk_18 : decode cX5_clerk 18 = .ok (.iconst 4, 1) := by decide +kernel
theorem dX5_clerk_19 : decode cX5_clerk 19 = .ok (.iaload, 1) := by decide +kernel
theorem dX5_clerk_20 : decode cX5_clerk 20 = .ok (.istore_n 2, 1) := by decide +kernel
theorem dX5_clerk_21 : decode cX5_clerk 21 = .ok (.aload_n 0, 1) := by decide +kernel
theorem dX5_clerk_22 : decode cX5_clerk 22 = .ok (.getfield 7, 3) := by decide +kernel
theorem dX5_clerk_25 : decode cX5_clerk 25 = .ok (.iconst 4, 1) := by decide +kernel
theorem dX5_clerk_26 : decode cX5_clerk 26 = .ok (.iload_n 1, 1) := by decide +kernel
theorem dX5_clerk_27 : decode cX5_clerk 27 = .ok (.iastore, 1) := by decide +kernel
theorem dX5_clerk_28 : decode cX5_clerk 28 = .ok (.aload_n 0, 1) := by decide +kernel
theorem dX5_clerk_29 : decode cX5_clerk 29 = .ok (.getfield 7, 3) := by decide +kernel
theorem dX5_clerk_32 : decode cX5_clerk 32 = .ok (.iconst 3, 1) := by decide +kernel
theorem dX5_clerk_33 : decode cX5_clerk 33 = .ok (.iconst 0, 1) := by decide +kernel
theorem dX5_clerk_34 : decode cX5_clerk 34 = .ok (.iastore, 1) := by decide +kernel
theorem dX5_clerk_35 : decode cX5_clerk 35 = .ok (.iload_n 2, 1) := by decide +kernel
theorem dX5_clerk_36 : decode cX5_clerk 36 = .ok (.ireturn, 1) := by decide +kernel
theorem dX5_vines_0 : decode cX5_vines 0 = .ok (.iload_n 1, 1) := by decide +kernel
theorem dX5_vines_1 : decode cX5_vines 1 = .ok (.invokestatic 71, 3) := by decide +kernel
theorem dX5_vines_4 : decode cX5_vines 4 = .ok (.ifCond .eq 15, 3) := by decide +kernel
theorem dX5_vines_7 : decode cX5_vines 7 = .ok (.iload_n 2, 1) := by decide +kernel
theorem dX5_vines_8 : decode cX5_vines 8 = .ok (.i2l, 1) := by decide +kernel
theorem dX5_vines_9 : decode cX5_vines 9 = .ok (.lconst 0, 1) := by decide +kernel
theorem dX5_vines_10 : decode cX5_vines 10 = .ok (.ldc2_w 74, 3) := by decide +kernel
theorem dX5_vines_13 : decode cX5_vines 13 = .ok (.invokestatic 53, 3) := by decide +kernel
theorem dX5_vines_16 : decode cX5_vines 16 = .ok (.ifCond .ne 10, 3) := by decide +kernel
theorem dX5_vines_19 : decode cX5_vines 19 = .ok (.aload_n 0, 1) := by decide +kernel
theorem dX5_vines_20 : decode cX5_vines 20 = .ok (.bipush (-2), 2) := by decide +kernel
theorem dX5_vines_22 : decode cX5_vines 22 = .ok (.invokevirtual 67, 3) := by decide +kernel
theorem dX5_vines_25 : decode cX5_vines 25 = .ok (.ireturn, 1) := by decide +kernel
theorem dX5_vines_26 : decode cX5_vines 26 = .ok (.aload_n 0, 1) := by decide +kernel
theorem dX5_vines_27 : decode cX5_vines 27 = .ok (.getfield 7, 3) := by decide +kernel
theorem dX5_vines_30 : decode cX5_vines 30 = .ok (.bipush 14, 2) := by decide +kernel
theorem dX5_vines_32 : decode cX5_vines 32 = .ok (.iload_n 1, 1) := by decide +kernel
theorem dX5_vines_33 : decode cX5_vines 33 = .ok (.iadd, 1) := by decide +kernel
theorem dX5_vines_34 : decode cX5_vines 34 = .ok (.iaload, 1) := by decide +kernel
theorem dX5_vines_35 : decode cX5_vines 35 = .ok (.istore_n 3, 1) := by decide +kernel
theorem dX5_vines_36 : decode cX5_vines 36 = .ok (.aload_n 0, 1) := by decide +kernel
theorem dX5_vines_37 : decode cX5_vines 37 = .ok (.getfield 7, 3) := by decide +kernel
theorem dX5_vines_40 : decode cX5_vines 40 = .ok (.bipush 14, 2) := by decide +kernel
theorem dX5_vines_42 : decode cX5_vines 42 = .ok (.iload_n 1, 1) := by decide +kernel
theorem dX5_vines_43 : decode cX5_vines 43 = .ok (.iadd, 1) := by decide +kernel
theorem dX5_vines_44 : decode cX5_vines 44 = .ok (.iload_n 2, 1) := by decide +kernel
theorem dX5_vines_45 : decode cX5_vines 45 = .ok (.iastore, 1) := by decide +kernel
theorem dX5_vines_46 : decode cX5_vines 46 = .ok (.aload_n 0, 1) := by decide +kernel
theorem dX5_vines_47 : decode cX5_vines 47 = .ok (.getfield 7, 3) := by decide +kernel
theorem dX5_vines_50 : decode cX5_vines 50 = .ok (.iconst 3, 1) := by decide +kernel
theorem dX5_vines_51 : decode cX5_vines 51 = .ok (.iconst 0, 1) := by decide +kernel
theorem dX5_vines_52 : decode cX5_vines 52 = .ok (.iastore, 1) := by decide +kernel
theorem dX5_vines_53 : decode cX5_vines 53 = .ok (.iload_n 3, 1) := by decide +kernel
theorem dX5_vines_54 : decode cX5_vines 54 = .ok (.ireturn, 1) := by decide +kernel
theorem dX5_isFree_0 : decode cX5_isFree 0 = .ok (.iconst 1, 1) := by decide +kernel
theorem dX5_isFree_1 : decode cX5_isFree 1 = .ok (.istore_n 2, 1) := by decide +kernel
theorem dX5_isFree_2 : decode cX5_isFree 2 = .ok (.iconst 0, 1) := by decide +kernel
theorem dX5_isFree_3 : decode cX5_isFree 3 = .ok (.istore_n 3, 1) := by decide +kernel
theorem dX5_isFree_4 : decode cX5_isFree 4 = .ok (.iload_n 3, 1) := by decide +kernel
theorem dX5_isFree_5 : decode cX5_isFree 5 = .ok (.aload_n 0, 1) := by decide +kernel
theorem dX5_isFree_6 : decode cX5_isFree 6 = .ok (.iconst 0, 1) := by decide +kernel
theorem dX5_isFree_7 : decode cX5_isFree 7 = .ok (.iaload, 1) := by decide +kernel
theorem dX5_isFree_8 : decode cX5_isFree 8 = .ok (.if_icmp .ge 29, 3) := by decide +kernel
theorem dX5_isFree_11 : decode cX5_isFree 11 = .ok (.iload_n 2, 1) := by decide +kernel
theorem dX5_isFree_12 : decode cX5_isFree 12 = .ok (.ifCond .eq 17, 3) := by decide +kernel
theorem dX5_isFree_15 : decode cX5_isFree 15 = .ok (.aload_n 0, 1) := by decide +kernel
theorem dX5_isFree_16 : decode cX5_isFree 16 = .ok (.bipush 41, 2) := by decide +kernel
theorem dX5_isFree_18 : decode cX5_isFree 18 = .ok (.iload_n 3, 1) := by decide +kernel
theorem dX5_isFree_19 : decode cX5_isFree 19 = .ok (.iadd, 1) := by decide +kernel
theorem dX5_isFree_20 : decode cX5_isFree 20 = .ok (.iaload, 1) := by decide +kernel
theorem dX5_isFree_21 : decode cX5_isFree 21 = .ok (.iload_n 1, 1) := by decide +kernel
theorem dX5_isFree_22 : decode cX5_isFree 22 = .ok (.if_icmp .eq 7, 3) := by decide +kernel
theorem dX5_isFree_25 : decode cX5_isFree 25 = .ok (.iconst 1, 1) := by decide +kernel
theorem dX5_isFree_26 : decode cX5_isFree 26 = .ok (.goto 4, 3) := by decide +kernel
theorem dX5_isFree_29 : decode cX5_isFree 29 = .ok (.iconst 0, 1) := by decide +kernel
theorem dX5_isFree_30 : decode cX5_isFree 30 = .ok (.istore_n 2, 1) := by decide +kernel
theorem dX5_isFree_31 : decode cX5_isFree 31 = .ok (.iinc 3 1, 3) := by decide +kernel
theorem dX5_isFree_34 : decode cX5_isFree 34 = .ok (.goto (-30), 3) := by decide +kernel
theorem dX5_isFree_37 : decode cX5_isFree 37 = .ok (.iload_n 2, 1) := by decide +kernel
theorem dX5_isFree_38 : decode cX5_isFree 38 = .ok (.ireturn, 1) := by decide +kernel
theorem dX5_layHill_0 : decode cX5_layHill 0 = .ok (.aload_n 0, 1) := by decide +kernel
theorem dX5_layHill_1 : decode cX5_layHill 1 = .ok (.bipush 34, 2) := by decide +kernel
theorem dX5_layHill_3 : decode cX5_layHill 3 = .ok (.aload_n 0, 1) := by decide +kernel
theorem dX5_layHill_4 : decode cX5_layHill 4 = .ok (.iconst 0, 1) := by decide +kernel
theorem dX5_layHill_5 : decode cX5_layHill 5 = .ok (.iaload, 1) := by decide +kernel
theorem dX5_layHill_6 : decode cX5_layHill 6 = .ok (.iadd, 1) := by decide +kernel
theorem dX5_layHill_7 : decode cX5_layHill 7 = .ok (.iload_n 1, 1) := by decide +kernel
theorem dX5_layHill_8 : decode cX5_layHill 8 = .ok (.iastore, 1) := by decide +kernel
theorem dX5_layHill_9 : decode cX5_layHill 9 = .ok (.aload_n 0, 1) := by decide +kernel
theorem dX5_layHill_10 : decode cX5_layHill 10 = .ok (.bipush 41, 2) := by decide +kernel
theorem dX5_layHill_12 : decode cX5_layHill 12 = .ok (.aload_n 0, 1) := by decide +kernel
theorem dX5_layHill_13 : decode cX5_layHill 13 = .ok (.iconst 0, 1) := by decide +kernel
theorem dX5_layHill_14 : decode cX5_layHill 14 = .ok (.iaload, 1) := by decide +kernel
theorem dX5_layHill_15 : decode cX5_layHill 15 = .ok (.iadd, 1) := by decide +kernel
theorem dX5_layHill_16 : decode cX5_layHill 16 = .ok (.iload_n 2, 1) := by decide +kernel
theorem dX5_layHill_17 : decode cX5_layHill 17 = .ok (.iastore, 1) := by decide +kernel
theorem dX5_layHill_18 : decode cX5_layHill 18 = .ok (.aload_n 0, 1) := by decide +kernel
theorem dX5_layHill_19 : decode cX5_layHill 19 = .ok (.bipush 7, 2) := by decide +kernel
theorem dX5_layHill_21 : decode cX5_layHill 21 = .ok (.aload_n 0, 1) := by decide +kernel
theorem dX5_layHill_22 : decode cX5_layHill 22 = .ok (.iconst 0, 1) := by decide +kernel
theorem dX5_layHill_23 : decode cX5_layHill 23 = .ok (.iaload, 1) := by decide +kernel
theorem dX5_layHill_24 : decode cX5_layHill 24 = .ok (.iadd, 1) := by decide +kernel
theorem dX5_layHill_25 : decode cX5_layHill 25 = .ok (.iload_n 3, 1) := by decide +kernel
theorem dX5_layHill_26 : decode cX5_layHill 26 = .ok (.iastore, 1) := by decide +kernel
theorem dX5_layHill_27 : decode cX5_layHill 27 = .ok (.aload_n 0, 1) := by decide +kernel
theorem dX5_layHill_28 : decode cX5_layHill 28 = .ok (.iconst 0, 1) := by decide +kernel
theorem dX5_layHill_29 : decode cX5_layHill 29 = .ok (.dup2, 1) := by decide +kernel
theorem dX5_layHill_30 : decode cX5_layHill 30 = .ok (.iaload, 1) := by decide +kernel
theorem dX5_layHill_31 : decode cX5_layHill 31 = .ok (.iconst 1, 1) := by decide +kernel
theorem dX5_layHill_32 : decode cX5_layHill 32 = .ok (.iadd, 1) := by decide +kernel
theorem dX5_layHill_33 : decode cX5_layHill 33 = .ok (.iastore, 1) := by decide +kernel
theorem dX5_layHill_34 : decode cX5_layHill 34 = .ok (.return_, 1) := by decide +kernel
theorem dX5_hill_0 : decode cX5_hill 0 = .ok (.iload_n 1, 1) := by decide +kernel
theorem dX5_hill_1 : decode cX5_hill 1 = .ok (.invokestatic 63, 3) := by decide +kernel
theorem dX5_hill_4 : decode cX5_hill 4 = .ok (.ifCond .eq 17, 3) := by decide +kernel
theorem dX5_hill_7 : decode cX5_hill 7 = .ok (.iload_n 2, 1) := by decide +kernel
theorem dX5_hill_8 : decode cX5_hill 8 = .ok (.invokestatic 71, 3) := by decide +kernel
theorem dX5_hill_11 : decode cX5_hill 11 = .ok (.ifCond .eq 10, 3) := by decide +kernel
theorem dX5_hill_14 : decode cX5_hill 14 = .ok (.iload_n 3, 1) := by decide +kernel
theorem dX5_hill_15 : decode cX5_hill 15 = .ok (.invokestatic 76, 3) := by decide +kernel
theorem dX5_hill_18 : decode cX5_hill 18 = .ok (.ifCond .ne 10, 3) := by decide +kernel
theorem dX5_hill_21 : decode cX5_hill 21 = .ok (.aload_n 0, 1) := by decide +kernel
theorem dX5_hill_22 : decode cX5_hill 22 = .ok (.bipush (-2), 2) := by decide +kernel
theorem dX5_hill_24 : decode cX5_hill 24 = .ok (.invokevirtual 67, 3) := by decide +kernel
theorem dX5_hill_27 : decode cX5_hill 27 = .ok (.ireturn, 1) := by decide +kernel
theorem dX5_hill_28 : decode cX5_hill 28 = .ok (.aload_n 0, 1) := by decide +kernel
theorem dX5_hill_29 : decode cX5_hill 29 = .ok (.getfield 7, 3) := by decide +kernel
theorem dX5_hill_32 : decode cX5_hill 32 = .ok (.iload_n 2, 1) := by decide +kernel
theorem dX5_hill_33 : decode cX5_hill 33 = .ok (.invokestatic 79, 3) := by decide +kernel
theorem dX5_hill_36 : decode cX5_hill 36 = .ok (.ifCond .ne 8, 3) := by decide +kernel
theorem dX5_hill_39 : decode cX5_hill 39 = .ok (.aload_n 0, 1) := by decide +kernel
theorem dX5_hill_40 : decode cX5_hill 40 = .ok (.invokevirtual 83, 3) := by decide +kernel
theorem dX5_hill_43 : decode cX5_hill 43 = .ok (.ireturn, 1) := by decide +kernel
theorem dX5_hill_44 : decode cX5_hill 44 = .ok (.aload_n 0, 1) := by decide +kernel
theorem dX5_hill_45 : decode cX5_hill 45 = .ok (.invokevirtual 49, 3) := by decide +kernel
theorem dX5_hill_48 : decode cX5_hill 48 = .ok (.bipush 7, 2) := by decide +kernel
theorem dX5_hill_50 : decode cX5_hill 50 = .ok (.if_icmp .ne 8, 3) := by decide +kernel
theorem dX5_hill_53 : decode cX5_hill 53 = .ok (.aload_n 0, 1) := by decide +kernel
theorem dX5_hill_54 : decode cX5_hill 54 = .ok (.invokevirtual 86, 3) := by decide +kernel
theorem dX5_hill_57 : decode cX5_hill 57 = .ok (.ireturn, 1) := by decide +kernel
theorem dX5_hill_58 : decode cX5_hill 58 = .ok (.aload_n 0, 1) := by decide +kernel
theorem dX5_hill_59 : decode cX5_hill 59 = .ok (.getfield 7, 3) := by decide +kernel
theorem dX5_hill_62 : decode cX5_hill 62 = .ok (.iload_n 1, 1) := by decide +kernel
theorem dX5_hill_63 : decode cX5_hill 63 = .ok (.iload_n 2, 1) := by decide +kernel
theorem dX5_hill_64 : decode cX5_hill 64 = .ok (.iload_n 3, 1) := by decide +kernel
theorem dX5_hill_65 : decode cX5_hill 65 = .ok (.invokestatic 89, 3) := by decide +kernel
theorem dX5_hill_68 : decode cX5_hill 68 = .ok (.aload_n 0, 1) := by decide +kernel
theorem dX5_hill_69 : decode cX5_hill 69 = .ok (.getfield 7, 3) := by decide +kernel
theorem dX5_hill_72 : decode cX5_hill 72 = .ok (.iconst 3, 1) := by decide +kernel
theorem dX5_hill_73 : decode cX5_hill 73 = .ok (.iconst 0, 1) := by decide +kernel
theorem dX5_hill_74 : decode cX5_hill 74 = .ok (.iastore, 1) := by decide +kernel
theorem dX5_hill_75 : decode cX5_hill 75 = .ok (.aload_n 0, 1) := by decide +kernel
theorem dX5_hill_76 : decode cX5_hill 76 = .ok (.invokevirtual 49, 3) := by decide +kernel
theorem dX5_hill_79 : decode cX5_hill 79 = .ok (.iconst 1, 1) := by decide +kernel
theorem dX5_hill_80 : decode cX5_hill 80 = .ok (.isub, 1) := by decide +kernel
theorem dX5_hill_81 : decode cX5_hill 81 = .ok (.ireturn, 1) := by decide +kernel
theorem dX5_growsAs_0 : decode cX5_growsAs 0 = .ok (.iload_n 2, 1) := by decide +kernel
theorem dX5_growsAs_1 : decode cX5_growsAs 1 = .ok (.bipush 7, 2) := by decide +kernel
theorem dX5_growsAs_3 : decode cX5_growsAs 3 = .ok (.irem, 1) := by decide +kernel
theorem dX5_growsAs_4 : decode cX5_growsAs 4 = .ok (.iconst 3, 1) := by decide +kernel
theorem dX5_growsAs_5 : decode cX5_growsAs 5 = .ok (.if_icmp .lt 7, 3) := by decide +kernel
theorem dX5_growsAs_8 : decode cX5_growsAs 8 = .ok (.iconst 4, 1) := by decide +kernel
theorem dX5_growsAs_9 : decode cX5_growsAs 9 = .ok (.goto 4, 3) := by decide +kernel
theorem dX5_growsAs_12 : decode cX5_growsAs 12 = .ok (.iconst 2, 1) := by decide +kernel
theorem dX5_growsAs_13 : decode cX5_growsAs 13 = .ok (.istore_n 3, 1) := by decide +kernel
theorem dX5_growsAs_14 : decode cX5_growsAs 14 = .ok (.iconst 2, 1) := by decide +kernel
theorem dX5_growsAs_15 : decode cX5_growsAs 15 = .ok (.iload_n 1, 1) := by decide +kernel
theorem dX5_growsAs_16 : decode cX5_growsAs 16 = .ok (.bipush 10, 2) := by decide +kernel
theorem dX5_growsAs_18 : decode cX5_growsAs 18 = .ok (.idiv, 1) := by decide +kernel
theorem dX5_growsAs_19 : decode cX5_growsAs 19 = .ok (.iadd, 1) := by decide +kernel
theorem dX5_growsAs_20 : decode cX5_growsAs 20 = .ok (.istore 4, 2) := by decide +kernel
theorem dX5_growsAs_22 : decode cX5_growsAs 22 = .ok (.iload_n 0, 1) := by decide +kernel
theorem dX5_growsAs_23 : decode cX5_growsAs 23 = .ok (.tableswitch 60 1 5 #[33, 35, 38, 42, 47], 33) := by decide +kernel
theorem dX5_growsAs_56 : decode cX5_growsAs 56 = .ok (.iload_n 3, 1) := by decide +kernel
theorem dX5_growsAs_57 : decode cX5_growsAs 57 = .ok (.ireturn, 1) := by decide +kernel
theorem dX5_growsAs_58 : decode cX5_growsAs 58 = .ok (.iload 4, 2) := by decide +kernel
theorem dX5_growsAs_60 : decode cX5_growsAs 60 = .ok (.ireturn, 1) := by decide +kernel
theorem dX5_growsAs_61 : decode cX5_growsAs 61 = .ok (.iconst 2, 1) := by decide +kernel
theorem dX5_growsAs_62 : decode cX5_growsAs 62 = .ok (.iload_n 3, 1) := by decide +kernel
theorem dX5_growsAs_63 : decode cX5_growsAs 63 = .ok (.imul, 1) := by decide +kernel
theorem dX5_growsAs_64 : decode cX5_growsAs 64 = .ok (.ireturn, 1) := by decide +kernel
theorem dX5_growsAs_65 : decode cX5_growsAs 65 = .ok (.iload 4, 2) := by decide +kernel
theorem dX5_growsAs_67 : decode cX5_growsAs 67 = .ok (.iconst 3, 1) := by decide +kernel
theorem dX5_growsAs_68 : decode cX5_growsAs 68 = .ok (.iadd, 1) := by decide +kernel
theorem dX5_growsAs_69 : decode cX5_growsAs 69 = .ok (.ireturn, 1) := by decide +kernel
theorem dX5_growsAs_70 : decode cX5_growsAs 70 = .ok (.iload_n 2, 1) := by decide +kernel
theorem dX5_growsAs_71 : decode cX5_growsAs 71 = .ok (.iconst 2, 1) := by decide +kernel
theorem dX5_growsAs_72 : decode cX5_growsAs 72 = .ok (.irem, 1) := by decide +kernel
theorem dX5_growsAs_73 : decode cX5_growsAs 73 = .ok (.iconst 1, 1) := by decide +kernel
theorem dX5_growsAs_74 : decode cX5_growsAs 74 = .ok (.if_icmp .ne 7, 3) := by decide +kernel
theorem dX5_growsAs_77 : decode cX5_growsAs 77 = .ok (.iconst 0, 1) := by decide +kernel
theorem dX5_growsAs_78 : decode cX5_growsAs 78 = .ok (.goto 4, 3) := by decide +kernel
theorem dX5_growsAs_81 : decode cX5_growsAs 81 = .ok (.iconst 2, 1) := by decide +kernel
theorem dX5_growsAs_82 : decode cX5_growsAs 82 = .ok (.ireturn, 1) := by decide +kernel
theorem dX5_growsAs_83 : decode cX5_growsAs 83 = .ok (.iconst 2, 1) := by decide +kernel
theorem dX5_growsAs_84 : decode cX5_growsAs 84 = .ok (.ireturn, 1) := by decide +kernel
theorem dX5_fallsAs_0 : decode cX5_fallsAs 0 = .ok (.bipush 8, 2) := by decide +kernel
theorem dX5_fallsAs_2 : decode cX5_fallsAs 2 = .ok (.iload_n 1, 1) := by decide +kernel
theorem dX5_fallsAs_3 : decode cX5_fallsAs 3 = .ok (.iconst 5, 1) := by decide +kernel
theorem dX5_fallsAs_4 : decode cX5_fallsAs 4 = .ok (.idiv, 1) := by decide +kernel
theorem dX5_fallsAs_5 : decode cX5_fallsAs 5 = .ok (.iadd, 1) := by decide +kernel
theorem dX5_fallsAs_6 : decode cX5_fallsAs 6 = .ok (.istore_n 3, 1) := by decide +kernel
theorem dX5_fallsAs_7 : decode cX5_fallsAs 7 = .ok (.iload_n 0, 1) := by decide +kernel
theorem dX5_fallsAs_8 : decode cX5_fallsAs 8 = .ok (.tableswitch 70 1 5 #[36, 38, 40, 44, 56], 36) := by decide +kernel
theorem dX5_fallsAs_44 : decode cX5_fallsAs 44 = .ok (.iconst 4, 1) := by decide +kernel
theorem dX5_fallsAs_45 : decode cX5_fallsAs 45 = .ok (.ireturn, 1) := by decide +kernel
theorem dX5_fallsAs_46 : decode cX5_fallsAs 46 = .ok (.iload_n 3, 1) := by decide +kernel
theorem dX5_fallsAs_47 : decode cX5_fallsAs 47 = .ok (.ireturn, 1) := by decide +kernel
theorem dX5_fallsAs_48 : decode cX5_fallsAs 48 = .ok (.iload_n 3, 1) := by decide +kernel
theorem dX5_fallsAs_49 : decode cX5_fallsAs 49 = .ok (.iconst 4, 1) := by decide +kernel
theorem dX5_fallsAs_50 : decode cX5_fallsAs 50 = .ok (.iadd, 1) := by decide +kernel
theorem dX5_fallsAs_51 : decode cX5_fallsAs 51 = .ok (.ireturn, 1) := by decide +kernel
theorem dX5_fallsAs_52 : decode cX5_fallsAs 52 = .ok (.iload_n 1, 1) := by decide +kernel
theorem dX5_fallsAs_53 : decode cX5_fallsAs 53 = .ok (.bipush 40, 2) := by decide +kernel
theorem dX5_fallsAs_55 : decode cX5_fallsAs 55 = .ok (.if_icmp .lt 7, 3) := by decide +kernel
theorem dX5_fallsAs_58 : decode cX5_fallsAs 58 = .ok (.iconst 0, 1) := by decide +kernel
theorem dX5_fallsAs_59 : decode cX5_fallsAs 59 = .ok (.goto 4, 3) := by decide +kernel
theorem dX5_fallsAs_62 : decode cX5_fallsAs 62 = .ok (.iconst 4, 1) := by decide +kernel
theorem dX5_fallsAs_63 : decode cX5_fallsAs 63 = .ok (.ireturn, 1) := by decide +kernel
theorem dX5_fallsAs_64 : decode cX5_fallsAs 64 = .ok (.iload_n 2, 1) := by decide +kernel
theorem dX5_fallsAs_65 : decode cX5_fallsAs 65 = .ok (.iconst 3, 1) := by decide +kernel
theorem dX5_fallsAs_66 : decode cX5_fallsAs 66 = .ok (.irem, 1) := by decide +kernel
theorem dX5_fallsAs_67 : decode cX5_fallsAs 67 = .ok (.ifCond .ne 8, 3) := by decide +kernel
theorem dX5_fallsAs_70 : decode cX5_fallsAs 70 = .ok (.bipush 16, 2) := by decide +kernel
theorem dX5_fallsAs_72 : decode cX5_fallsAs 72 = .ok (.goto 5, 3) := by decide +kernel
theorem dX5_fallsAs_75 : decode cX5_fallsAs 75 = .ok (.bipush 8, 2) := by decide +kernel
theorem dX5_fallsAs_77 : decode cX5_fallsAs 77 = .ok (.ireturn, 1) := by decide +kernel
theorem dX5_fallsAs_78 : decode cX5_fallsAs 78 = .ok (.bipush 8, 2) := by decide +kernel
theorem dX5_fallsAs_80 : decode cX5_fallsAs 80 = .ok (.ireturn, 1) := by decide +kernel
theorem dX5_far_0 : decode cX5_far 0 = .ok (.iload_n 0, 1) := by decide +kernel
theorem dX5_far_1 : decode cX5_far 1 = .ok (.iload_n 1, 1) := by decide +kernel
theorem dX5_far_2 : decode cX5_far 2 = .ok (.if_icmp .le 9, 3) := by decide +kernel
theorem dX5_far_5 : decode cX5_far 5 = .ok (.iload_n 0, 1) := by decide +kernel
theorem dX5_far_6 : decode cX5_far 6 = .ok (.iload_n 1, 1) := by decide +kernel
theorem dX5_far_7 : decode cX5_far 7 = .ok (.isub, 1) := by decide +kernel
theorem dX5_far_8 : decode cX5_far 8 = .ok (.goto 6, 3) := by decide +kernel
theorem dX5_far_11 : decode cX5_far 11 = .ok (.iload_n 1, 1) := by decide +kernel
theorem dX5_far_12 : decode cX5_far 12 = .ok (.iload_n 0, 1) := by decide +kernel
theorem dX5_far_13 : decode cX5_far 13 = .ok (.isub, 1) := by decide +kernel
theorem dX5_far_14 : decode cX5_far 14 = .ok (.ireturn, 1) := by decide +kernel
theorem dX5_loses_0 : decode cX5_loses 0 = .ok (.iconst 0, 1) := by decide +kernel
theorem dX5_loses_1 : decode cX5_loses 1 = .ok (.istore_n 2, 1) := by decide +kernel
theorem dX5_loses_2 : decode cX5_loses 2 = .ok (.iconst 0, 1) := by decide +kernel
theorem dX5_loses_3 : decode cX5_loses 3 = .ok (.istore_n 3, 1) := by decide +kernel
theorem dX5_loses_4 : decode cX5_loses 4 = .ok (.iload_n 3, 1) := by decide +kernel
theorem dX5_loses_5 : decode cX5_loses 5 = .ok (.bipush 20, 2) := by decide +kernel
theorem dX5_loses_7 : decode cX5_loses 7 = .ok (.if_icmp .ge 34, 3) := by decide +kernel
theorem dX5_loses_10 : decode cX5_loses 10 = .ok (.iload_n 3, 1) := by decide +kernel
theorem dX5_loses_11 : decode cX5_loses 11 = .ok (.iload_n 1, 1) := by decide +kernel
theorem dX5_loses_12 : decode cX5_loses 12 = .ok (.invokestatic 93, 3) := by decide +kernel
theorem dX5_loses_15 : decode cX5_loses 15 = .ok (.iconst 2, 1) := by decide +kernel
theorem dX5_loses_16 : decode cX5_loses 16 = .ok (.if_icmp .gt 19, 3) := by decide +kernel
theorem dX5_loses_19 : decode cX5_loses 19 = .ok (.iload_n 2, 1) := by decide +kernel
theorem dX5_loses_20 : decode cX5_loses 20 = .ok (.aload_n 0, 1) := by decide +kernel
theorem dX5_loses_21 : decode cX5_loses 21 = .ok (.bipush 14, 2) := by decide +kernel
theorem dX5_loses_23 : decode cX5_loses 23 = .ok (.iload_n 3, 1) := by decide +kernel
theorem dX5_loses_24 : decode cX5_loses 24 = .ok (.iadd, 1) := by decide +kernel
theorem dX5_loses_25 : decode cX5_loses 25 = .ok (.iaload, 1) := by decide +kernel
theorem dX5_loses_26 : decode cX5_loses 26 = .ok (.iadd, 1) := by decide +kernel
theorem dX5_loses_27 : decode cX5_loses 27 = .ok (.istore_n 2, 1) := by decide +kernel
theorem dX5_loses_28 : decode cX5_loses 28 = .ok (.aload_n 0, 1) := by decide +kernel
theorem dX5_loses_29 : decode cX5_loses 29 = .ok (.bipush 14, 2) := by decide +kernel
theorem dX5_loses_31 : decode cX5_loses 31 = .ok (.iload_n 3, 1) := by decide +kernel
theorem dX5_loses_32 : decode cX5_loses 32 = .ok (.iadd, 1) := by decide +kernel
theorem dX5_loses_33 : decode cX5_loses 33 = .ok (.iconst 0, 1) := by decide +kernel
theorem dX5_loses_34 : decode cX5_loses 34 = .ok (.iastore, 1) := by decide +kernel
theorem dX5_loses_35 : decode cX5_loses 35 = .ok (.iinc 3 1, 3) := by decide +kernel
theorem dX5_loses_38 : decode cX5_loses 38 = .ok (.goto (-34), 3) := by decide +kernel
theorem dX5_loses_41 : decode cX5_loses 41 = .ok (.iload_n 2, 1) := by decide +kernel
theorem dX5_loses_42 : decode cX5_loses 42 = .ok (.ireturn, 1) := by decide +kernel
theorem dX5_goOff_0 : decode cX5_goOff 0 = .ok (.iconst 0, 1) := by decide +kernel
theorem dX5_goOff_1 : decode cX5_goOff 1 = .ok (.istore_n 2, 1) := by decide +kernel
theorem dX5_goOff_2 : decode cX5_goOff 2 = .ok (.iconst 0, 1) := by decide +kernel
theorem dX5_goOff_3 : decode cX5_goOff 3 = .ok (.istore_n 3, 1) := by decide +kernel
theorem dX5_goOff_4 : decode cX5_goOff 4 = .ok (.aload_n 0, 1) := by decide +kernel
theorem dX5_goOff_5 : decode cX5_goOff 5 = .ok (.iconst 0, 1) := by decide +kernel
theorem dX5_goOff_6 : decode cX5_goOff 6 = .ok (.putfield 97, 3) := by decide +kernel
theorem dX5_goOff_9 : decode cX5_goOff 9 = .ok (.iload_n 3, 1) := by decide +kernel
theorem dX5_goOff_10 : decode cX5_goOff 10 = .ok (.aload_n 1, 1) := by decide +kernel
theorem dX5_goOff_11 : decode cX5_goOff 11 = .ok (.iconst 0, 1) := by decide +kernel
theorem dX5_goOff_12 : decode cX5_goOff 12 = .ok (.iaload, 1) := by decide +kernel
theorem dX5_goOff_13 : decode cX5_goOff 13 = .ok (.if_icmp .ge 134, 3) := by decide +kernel
theorem dX5_goOff_16 : decode cX5_goOff 16 = .ok (.aload_n 1, 1) := by decide +kernel
theorem dX5_goOff_17 : decode cX5_goOff 17 = .ok (.bipush 7, 2) := by decide +kernel
theorem dX5_goOff_19 : decode cX5_goOff 19 = .ok (.iload_n 3, 1) := by decide +kernel
theorem dX5_goOff_20 : decode cX5_goOff 20 = .ok (.iadd, 1) := by decide +kernel
theorem dX5_goOff_21 : decode cX5_goOff 21 = .ok (.iaload, 1) := by decide +kernel
theorem dX5_goOff_22 : decode cX5_goOff 22 = .ok (.bipush 60, 2) := by decide +kernel
theorem dX5_goOff_24 : decode cX5_goOff 24 = .ok (.if_icmp .ge 9, 3) := by decide +kernel
theorem dX5_goOff_27 : decode cX5_goOff 27 = .ok (.iinc 3 1, 3) := by decide +kernel
theorem dX5_goOff_30 : decode cX5_goOff 30 = .ok (.goto (-21), 3) := by decide +kernel
theorem dX5_goOff_33 : decode cX5_goOff 33 = .ok (.aload_n 1, 1) := by decide +kernel
theorem dX5_goOff_34 : decode cX5_goOff 34 = .ok (.bipush 7, 2) := by decide +kernel
theorem dX5_goOff_36 : decode cX5_goOff 36 = .ok (.iload_n 3, 1) := by decide +kernel
theorem dX5_goOff_37 : decode cX5_goOff 37 = .ok (.iadd, 1) := by decide +kernel
theorem dX5_goOff_38 : decode cX5_goOff 38 = .ok (.iconst 0, 1) := by decide +kernel
theorem dX5_goOff_39 : decode cX5_goOff 39 = .ok (.iastore, 1) := by decide +kernel
theorem dX5_goOff_40 : decode cX5_goOff 40 = .ok (.aload_n 0, 1) := by decide +kernel
theorem dX5_goOff_41 : decode cX5_goOff 41 = .ok (.dup, 1) := by decide +kernel
theorem dX5_goOff_42 : decode cX5_goOff 42 = .ok (.getfield 97, 3) := by decide +kernel
theorem dX5_goOff_45 : decode cX5_goOff 45 = .ok (.iconst 1, 1) := by decide +kernel
theorem dX5_goOff_46 : decode cX5_goOff 46 = .ok (.iload_n 3, 1) := by decide +kernel
theorem dX5_goOff_47 : decode cX5_goOff 47 = .ok (.ishl, 1) := by decide +kernel
theorem dX5_goOff_48 : decode cX5_goOff 48 = .ok (.ior, 1) := by decide +kernel
theorem dX5_goOff_49 : decode cX5_goOff 49 = .ok (.putfield 97, 3) := by decide +kernel
theorem dX5_goOff_52 : decode cX5_goOff 52 = .ok (.iload_n 2, 1) := by decide +kernel
theorem dX5_goOff_53 : decode cX5_goOff 53 = .ok (.aload_n 1, 1) := by decide +kernel
theorem dX5_goOff_54 : decode cX5_goOff 54 = .ok (.aload_n 1, 1) := by decide +kernel
theorem dX5_goOff_55 : decode cX5_goOff 55 = .ok (.bipush 41, 2) := by decide +kernel
theorem dX5_goOff_57 : decode cX5_goOff 57 = .ok (.iload_n 3, 1) := by decide +kernel
theorem dX5_goOff_58 : decode cX5_goOff 58 = .ok (.iadd, 1) := by decide +kernel
theorem dX5_goOff_59 : decode cX5_goOff 59 = .ok (.iaload, 1) := by decide +kernel
theorem dX5_goOff_60 : decode cX5_goOff 60 = .ok (.invokestatic 101, 3) := by decide +kernel
theorem dX5_goOff_63 : decode cX5_goOff 63 = .ok (.iadd, 1) := by decide +kernel
theorem dX5_goOff_64 : decode cX5_goOff 64 = .ok (.istore_n 2, 1) := by decide +kernel
theorem dX5_goOff_65 : decode cX5_goOff 65 = .ok (.iconst 0, 1) := by decide +kernel
theorem dX5_goOff_66 : decode cX5_goOff 66 = .ok (.istore 4, 2) := by decide +kernel
theorem dX5_goOff_68 : decode cX5_goOff 68 = .ok (.iload 4, 2) := by decide +kernel
theorem dX5_goOff_70 : decode cX5_goOff 70 = .ok (.aload_n 1, 1) := by decide +kernel
theorem dX5_goOff_71 : decode cX5_goOff 71 = .ok (.iconst 0, 1) := by decide +kernel
theorem dX5_goOff_72 : decode cX5_goOff 72 = .ok (.iaload, 1) := by decide +kernel
theorem dX5_goOff_73 : decode cX5_goOff 73 = .ok (.if_icmp .ge 69, 3) := by decide +kernel
theorem dX5_goOff_76 : decode cX5_goOff 76 = .ok (.aload_n 0, 1) := by decide +kernel
theorem dX5_goOff_77 : decode cX5_goOff 77 = .ok (.getfield 97, 3) := by decide +kernel
theorem dX5_goOff_80 : decode cX5_goOff 80 = .ok (.iload 4, 2) := by decide +kernel
theorem dX5_goOff_82 : decode cX5_goOff 82 = .ok (.invokestatic 105, 3) := by decide +kernel
theorem dX5_goOff_85 : decode cX5_goOff 85 = .ok (.ifCond .ne 27, 3) := by decide +kernel
theorem dX5_goOff_88 : decode cX5_goOff 88 = .ok (.aload_n 1, 1) := by decide +kernel
theorem dX5_goOff_89 : decode cX5_goOff 89 = .ok (.bipush 41, 2) := by decide +kernel
theorem dX5_goOff_91 : decode cX5_goOff 91 = .ok (.iload_n 3, 1) := by decide +kernel
theorem dX5_goOff_92 : decode cX5_goOff 92 = .ok (.iadd, 1) := by decide +kernel
theorem dX5_goOff_93 : decode cX5_goOff 93 = .ok (.iaload, 1) := by decide +kernel
theorem dX5_goOff_94 : decode cX5_goOff 94 = .ok (.aload_n 1, 1) := by decide +kernel
theorem dX5_goOff_95 : decode cX5_goOff 95 = .ok (.bipush 41, 2) := by decide +kernel
theorem dX5_goOff_97 : decode cX5_goOff 97 = .ok (.iload 4, 2) := by decide +kernel
theorem dX5_goOff_99 : decode cX5_goOff 99 = .ok (.iadd, 1) := by decide +kernel
theorem dX5_goOff_100 : decode cX5_goOff 100 = .ok (.iaload, 1) := by decide +kernel
theorem dX5_goOff_101 : decode cX5_goOff 101 = .ok (.invokestatic 93, 3) := by decide +kernel
theorem dX5_goOff_104 : decode cX5_goOff 104 = .ok (.iconst 3, 1) := by decide +kernel
theorem dX5_goOff_105 : decode cX5_goOff 105 = .ok (.if_icmp .gt 7, 3) := by decide +kernel
theorem dX5_goOff_108 : decode cX5_goOff 108 = .ok (.iconst 1, 1) := by decide +kernel
theorem dX5_goOff_109 : decode cX5_goOff 109 = .ok (.goto 4, 3) := by decide +kernel
theorem dX5_goOff_112 : decode cX5_goOff 112 = .ok (.iconst 0, 1) := by decide +kernel
theorem dX5_goOff_113 : decode cX5_goOff 113 = .ok (.istore 5, 2) := by decide +kernel
theorem dX5_goOff_115 : decode cX5_goOff 115 = .ok (.aload_n 1, 1) := by decide +kernel
theorem dX5_goOff_116 : decode cX5_goOff 116 = .ok (.bipush 7, 2) := by decide +kernel
theorem dX5_goOff_118 : decode cX5_goOff 118 = .ok (.iload 4, 2) := by decide +kernel
theorem dX5_goOff_120 : decode cX5_goOff 120 = .ok (.iadd, 1) := by decide +kernel
theorem dX5_goOff_121 : decode cX5_goOff 121 = .ok (.dup2, 1) := by decide +kernel
theorem dX5_goOff_122 : decode cX5_goOff 122 = .ok (.iaload, 1) := by decide +kernel
theorem dX5_goOff_123 : decode cX5_goOff 123 = .ok (.iload 5, 2) := by decide +kernel
theorem dX5_goOff_125 : decode cX5_goOff 125 = .ok (.ifCond .eq 8, 3) := by decide +kernel
theorem dX5_goOff_128 : decode cX5_goOff 128 = .ok (.bipush 15, 2) := by decide +kernel
theorem dX5_goOff_130 : decode cX5_goOff 130 = .ok (.goto 4, 3) := by decide +kernel
theorem dX5_goOff_133 : decode cX5_goOff 133 = .ok (.iconst 0, 1) := by decide +kernel
theorem dX5_goOff_134 : decode cX5_goOff 134 = .ok (.iadd, 1) := by decide +kernel
theorem dX5_goOff_135 : decode cX5_goOff 135 = .ok (.iastore, 1) := by decide +kernel
theorem dX5_goOff_136 : decode cX5_goOff 136 = .ok (.iinc 4 1, 3) := by decide +kernel
theorem dX5_goOff_139 : decode cX5_goOff 139 = .ok (.goto (-71), 3) := by decide +kernel
theorem dX5_goOff_142 : decode cX5_goOff 142 = .ok (.iconst 0, 1) := by decide +kernel
theorem dX5_goOff_143 : decode cX5_goOff 143 = .ok (.istore_n 3, 1) := by decide +kernel
theorem dX5_goOff_144 : decode cX5_goOff 144 = .ok (.goto (-135), 3) := by decide +kernel
theorem dX5_goOff_147 : decode cX5_goOff 147 = .ok (.iload_n 2, 1) := by decide +kernel
theorem dX5_goOff_148 : decode cX5_goOff 148 = .ok (.ireturn, 1) := by decide +kernel
theorem dX5_goDay_0 : decode cX5_goDay 0 = .ok (.aload_n 1, 1) := by decide +kernel
theorem dX5_goDay_1 : decode cX5_goDay 1 = .ok (.iconst 5, 1) := by decide +kernel
theorem dX5_goDay_2 : decode cX5_goDay 2 = .ok (.dup2, 1) := by decide +kernel
theorem dX5_goDay_3 : decode cX5_goDay 3 = .ok (.iaload, 1) := by decide +kernel
theorem dX5_goDay_4 : decode cX5_goDay 4 = .ok (.iconst 1, 1) := by decide +kernel
theorem dX5_goDay_5 : decode cX5_goDay 5 = .ok (.iadd, 1) := by decide +kernel
theorem dX5_goDay_6 : decode cX5_goDay 6 = .ok (.iastore, 1) := by decide +kernel
theorem dX5_goDay_7 : decode cX5_goDay 7 = .ok (.iconst 0, 1) := by decide +kernel
theorem dX5_goDay_8 : decode cX5_goDay 8 = .ok (.istore_n 3, 1) := by decide +kernel
theorem dX5_goDay_9 : decode cX5_goDay 9 = .ok (.iload_n 3, 1) := by decide +kernel
theorem dX5_goDay_10 : decode cX5_goDay 10 = .ok (.aload_n 1, 1) := by decide +kernel
theorem dX5_goDay_11 : decode cX5_goDay 11 = .ok (.iconst 0, 1) := by decide +kernel
theorem dX5_goDay_12 : decode cX5_goDay 12 = .ok (.iaload, 1) := by decide +kernel
theorem dX5_goDay_13 : decode cX5_goDay 13 = .ok (.if_icmp .ge 77, 3) := by decide +kernel
theorem dX5_goDay_16 : decode cX5_goDay 16 = .ok (.aload_n 1, 1) := by decide +kernel
theorem dX5_goDay_17 : decode cX5_goDay 17 = .ok (.bipush 7, 2) := by decide +kernel
theorem dX5_goDay_19 : decode cX5_goDay 19 = .ok (.iload_n 3, 1) := by decide +kernel
theorem dX5_goDay_20 : decode cX5_goDay 20 = .ok (.iadd, 1) := by decide +kernel
theorem dX5_goDay_21 : decode cX5_goDay 21 = .ok (.iaload, 1) := by decide +kernel
theorem dX5_goDay_22 : decode cX5_goDay 22 = .ok (.istore 4, 2) := by decide +kernel
theorem dX5_goDay_24 : decode cX5_goDay 24 = .ok (.aload_n 1, 1) := by decide +kernel
theorem dX5_goDay_25 : decode cX5_goDay 25 = .ok (.iconst 4, 1) := by decide +kernel
theorem dX5_goDay_26 : decode cX5_goDay 26 = .ok (.iaload, 1) := by decide +kernel
theorem dX5_goDay_27 : decode cX5_goDay 27 = .ok (.iload 4, 2) := by decide +kernel
theorem dX5_goDay_29 : decode cX5_goDay 29 = .ok (.aload_n 1, 1) := by decide +kernel
theorem dX5_goDay_30 : decode cX5_goDay 30 = .ok (.iconst 5, 1) := by decide +kernel
theorem dX5_goDay_31 : decode cX5_goDay 31 = .ok (.iaload, 1) := by decide +kernel
theorem dX5_goDay_32 : decode cX5_goDay 32 = .ok (.invokestatic 109, 3) := by decide +kernel
theorem dX5_goDay_35 : decode cX5_goDay 35 = .ok (.istore 5, 2) := by decide +kernel
theorem dX5_goDay_37 : decode cX5_goDay 37 = .ok (.aload_n 1, 1) := by decide +kernel
theorem dX5_goDay_38 : decode cX5_goDay 38 = .ok (.bipush 7, 2) := by decide +kernel
theorem dX5_goDay_40 : decode cX5_goDay 40 = .ok (.iload_n 3, 1) := by decide +kernel
theorem dX5_goDay_41 : decode cX5_goDay 41 = .ok (.iadd, 1) := by decide +kernel
theorem dX5_goDay_42 : decode cX5_goDay 42 = .ok (.iload_n 3, 1) := by decide +kernel
theorem dX5_goDay_43 : decode cX5_goDay 43 = .ok (.iload_n 2, 1) := by decide +kernel
theorem dX5_goDay_44 : decode cX5_goDay 44 = .ok (.if_icmp .eq 23, 3) := by decide +kernel
theorem dX5_goDay_47 : decode cX5_goDay 47 = .ok (.iload 4, 2) := by decide +kernel
theorem dX5_goDay_49 : decode cX5_goDay 49 = .ok (.aload_n 1, 1) := by decide +kernel
theorem dX5_goDay_50 : decode cX5_goDay 50 = .ok (.bipush 34, 2) := by decide +kernel
theorem dX5_goDay_52 : decode cX5_goDay 52 = .ok (.iload_n 3, 1) := by decide +kernel
theorem dX5_goDay_53 : decode cX5_goDay 53 = .ok (.iadd, 1) := by decide +kernel
theorem dX5_goDay_54 : decode cX5_goDay 54 = .ok (.iaload, 1) := by decide +kernel
theorem dX5_goDay_55 : decode cX5_goDay 55 = .ok (.iload 4, 2) := by decide +kernel
theorem dX5_goDay_57 : decode cX5_goDay 57 = .ok (.aload_n 1, 1) := by decide +kernel
theorem dX5_goDay_58 : decode cX5_goDay 58 = .ok (.iconst 5, 1) := by decide +kernel
theorem dX5_goDay_59 : decode cX5_goDay 59 = .ok (.iaload, 1) := by decide +kernel
theorem dX5_goDay_60 : decode cX5_goDay 60 = .ok (.invokestatic 113, 3) := by decide +kernel
theorem dX5_goDay_63 : decode cX5_goDay 63 = .ok (.iadd, 1) := by decide +kernel
theorem dX5_goDay_64 : decode cX5_goDay 64 = .ok (.goto 19, 3) := by decide +kernel
theorem dX5_goDay_67 : decode cX5_goDay 67 = .ok (.iload 4, 2) := by decide +kernel
theorem dX5_goDay_69 : decode cX5_goDay 69 = .ok (.iload 5, 2) := by decide +kernel
theorem dX5_goDay_71 : decode cX5_goDay 71 = .ok (.if_icmp .le 11, 3) := by decide +kernel
theorem dX5_goDay_74 : decode cX5_goDay 74 = .ok (.iload 4, 2) := by decide +kernel
theorem dX5_goDay_76 : decode cX5_goDay 76 = .ok (.iload 5, 2) := by decide +kernel
theorem dX5_goDay_78 : decode cX5_goDay 78 = .ok (.isub, 1) := by decide +kernel
theorem dX5_goDay_79 : decode cX5_goDay 79 = .ok (.goto 4, 3) := by decide +kernel
theorem dX5_goDay_82 : decode cX5_goDay 82 = .ok (.iconst 0, 1) := by decide +kernel
theorem dX5_goDay_83 : decode cX5_goDay 83 = .ok (.iastore, 1) := by decide +kernel
theorem dX5_goDay_84 : decode cX5_goDay 84 = .ok (.iinc 3 1, 3) := by decide +kernel
theorem dX5_goDay_87 : decode cX5_goDay 87 = .ok (.goto (-78), 3) := by decide +kernel
theorem dX5_goDay_90 : decode cX5_goDay 90 = .ok (.aload_n 0, 1) := by decide +kernel
theorem dX5_goDay_91 : decode cX5_goDay 91 = .ok (.aload_n 1, 1) := by decide +kernel
theorem dX5_goDay_92 : decode cX5_goDay 92 = .ok (.invokevirtual 116, 3) := by decide +kernel
theorem dX5_goDay_95 : decode cX5_goDay 95 = .ok (.ireturn, 1) := by decide +kernel
theorem dX5_save_0 : decode cX5_save 0 = .ok (.aload_n 0, 1) := by decide +kernel
theorem dX5_save_1 : decode cX5_save 1 = .ok (.getfield 7, 3) := by decide +kernel
theorem dX5_save_4 : decode cX5_save 4 = .ok (.iconst 3, 1) := by decide +kernel
theorem dX5_save_5 : decode cX5_save 5 = .ok (.iaload, 1) := by decide +kernel
theorem dX5_save_6 : decode cX5_save 6 = .ok (.bipush 8, 2) := by decide +kernel
theorem dX5_save_8 : decode cX5_save 8 = .ok (.if_icmp .ne 44, 3) := by decide +kernel
theorem dX5_save_11 : decode cX5_save 11 = .ok (.iconst 0, 1) := by decide +kernel
theorem dX5_save_12 : decode cX5_save 12 = .ok (.istore_n 1, 1) := by decide +kernel
theorem dX5_save_13 : decode cX5_save 13 = .ok (.iload_n 1, 1) := by decide +kernel
theorem dX5_save_14 : decode cX5_save 14 = .ok (.sipush 203, 3) := by decide +kernel
theorem dX5_save_17 : decode cX5_save 17 = .ok (.if_icmp .ge 27, 3) := by decide +kernel
theorem dX5_save_20 : decode cX5_save 20 = .ok (.aload_n 0, 1) := by decide +kernel
theorem dX5_save_21 : decode cX5_save 21 = .ok (.getfield 7, 3) := by decide +kernel
theorem dX5_save_24 : decode cX5_save 24 = .ok (.bipush 86, 2) := by decide +kernel
theorem dX5_save_26 : decode cX5_save 26 = .ok (.iload_n 1, 1) := by decide +kernel
theorem dX5_save_27 : decode cX5_save 27 = .ok (.iadd, 1) := by decide +kernel
theorem dX5_save_28 : decode cX5_save 28 = .ok (.aload_n 0, 1) := by decide +kernel
theorem dX5_save_29 : decode cX5_save 29 = .ok (.getfield 7, 3) := by decide +kernel
theorem dX5_save_32 : decode cX5_save 32 = .ok (.bipush 115, 2) := by decide +kernel
theorem dX5_save_34 : decode cX5_save 34 = .ok (.iload_n 1, 1) := by decide +kernel
theorem dX5_save_35 : decode cX5_save 35 = .ok (.iadd, 1) := by decide +kernel
theorem dX5_save_36 : decode cX5_save 36 = .ok (.iaload, 1) := by decide +kernel
theorem dX5_save_37 : decode cX5_save 37 = .ok (.iastore, 1) := by decide +kernel
theorem dX5_save_38 : decode cX5_save 38 = .ok (.iinc 1 1, 3) := by decide +kernel
theorem dX5_save_41 : decode cX5_save 41 = .ok (.goto (-28), 3) := by decide +kernel
theorem dX5_save_44 : decode cX5_save 44 = .ok (.aload_n 0, 1) := by decide +kernel
theorem dX5_save_45 : decode cX5_save 45 = .ok (.getfield 7, 3) := by decide +kernel
theorem dX5_save_48 : decode cX5_save 48 = .ok (.iconst 3, 1) := by decide +kernel
theorem dX5_save_49 : decode cX5_save 49 = .ok (.bipush 7, 2) := by decide +kernel
theorem dX5_save_51 : decode cX5_save 51 = .ok (.iastore, 1) := by decide +kernel
theorem dX5_save_52 : decode cX5_save 52 = .ok (.iconst 0, 1) := by decide +kernel
theorem dX5_save_53 : decode cX5_save 53 = .ok (.istore_n 1, 1) := by decide +kernel
theorem dX5_save_54 : decode cX5_save 54 = .ok (.iload_n 1, 1) := by decide +kernel
theorem dX5_save_55 : decode cX5_save 55 = .ok (.bipush 29, 2) := by decide +kernel
theorem dX5_save_57 : decode cX5_save 57 = .ok (.if_icmp .ge 36, 3) := by decide +kernel
theorem dX5_save_60 : decode cX5_save 60 = .ok (.aload_n 0, 1) := by decide +kernel
theorem dX5_save_61 : decode cX5_save 61 = .ok (.getfield 7, 3) := by decide +kernel
theorem dX5_save_64 : decode cX5_save 64 = .ok (.bipush 86, 2) := by decide +kernel
theorem dX5_save_66 : decode cX5_save 66 = .ok (.bipush 29, 2) := by decide +kernel
theorem dX5_save_68 : decode cX5_save 68 = .ok (.aload_n 0, 1) := by decide +kernel
theorem dX5_save_69 : decode cX5_save 69 = .ok (.getfield 7, 3) := by decide +kernel
theorem dX5_save_72 : decode cX5_save 72 = .ok (.iconst 3, 1) := by decide +kernel
theorem dX5_save_73 : decode cX5_save 73 = .ok (.iaload, 1) := by decide +kernel
theorem dX5_save_74 : decode cX5_save 74 = .ok (.imul, 1) := by decide +kernel
theorem dX5_save_75 : decode cX5_save 75 = .ok (.iadd, 1) := by decide +kernel
theorem dX5_save_76 : decode cX5_save 76 = .ok (.iload_n 1, 1) := by decide +kernel
theorem dX5_save_77 : decode cX5_save 77 = .ok (.iadd, 1) := by decide +kernel
theorem dX5_save_78 : decode cX5_save 78 = .ok (.aload_n 0, 1) := by decide +kernel
theorem dX5_save_79 : decode cX5_save 79 = .ok (.getfield 7, 3) := by decide +kernel
theorem dX5_save_82 : decode cX5_save 82 = .ok (.iconst 5, 1) := by decide +kernel
theorem dX5_save_83 : decode cX5_save 83 = .ok (.iload_n 1, 1) := by decide +kernel
theorem dX5_save_84 : decode cX5_save 84 = .ok (.iadd, 1) := by decide +kernel
theorem dX5_save_85 : decode cX5_save 85 = .ok (.iaload, 1) := by decide +kernel
theorem dX5_save_86 : decode cX5_save 86 = .ok (.iastore, 1) := by decide +kernel
theorem dX5_save_87 : decode cX5_save 87 = .ok (.iinc 1 1, 3) := by decide +kernel
theorem dX5_save_90 : decode cX5_save 90 = .ok (.goto (-36), 3) := by decide +kernel
theorem dX5_save_93 : decode cX5_save 93 = .ok (.aload_n 0, 1) := by decide +kernel
theorem dX5_save_94 : decode cX5_save 94 = .ok (.getfield 7, 3) := by decide +kernel
theorem dX5_save_97 : decode cX5_save 97 = .ok (.iconst 3, 1) := by decide +kernel
theorem dX5_save_98 : decode cX5_save 98 = .ok (.dup2, 1) := by decide +kernel
theorem dX5_save_99 : decode cX5_save 99 = .ok (.iaload, 1) := by decide +kernel
theorem dX5_save_100 : decode cX5_save 100 = .ok (.iconst 1, 1) := by decide +kernel
theorem dX5_save_101 : decode cX5_save 101 = .ok (.iadd, 1) := by decide +kernel
theorem dX5_save_102 : decode cX5_save 102 = .ok (.iastore, 1) := by decide +kernel
theorem dX5_save_103 : decode cX5_save 103 = .ok (.return_, 1) := by decide +kernel
theorem dX5_harm_0 : decode cX5_harm 0 = .ok (.aload_n 0, 1) := by decide +kernel
theorem dX5_harm_1 : decode cX5_harm 1 = .ok (.bipush 6, 2) := by decide +kernel
theorem dX5_harm_3 : decode cX5_harm 3 = .ok (.aload_n 0, 1) := by decide +kernel
theorem dX5_harm_4 : decode cX5_harm 4 = .ok (.bipush 6, 2) := by decide +kernel
theorem dX5_harm_6 : decode cX5_harm 6 = .ok (.iaload, 1) := by decide +kernel
theorem dX5_harm_7 : decode cX5_harm 7 = .ok (.iload_n 1, 1) := by decide +kernel
theorem dX5_harm_8 : decode cX5_harm 8 = .ok (.iadd, 1) := by decide +kernel
theorem dX5_harm_9 : decode cX5_harm 9 = .ok (.sipush 9999, 3) := by decide +kernel
theorem dX5_harm_12 : decode cX5_harm 12 = .ok (.if_icmp .le 9, 3) := by decide +kernel
theorem dX5_harm_15 : decode cX5_harm 15 = .ok (.sipush 9999, 3) := by decide +kernel
theorem dX5_harm_18 : decode cX5_harm 18 = .ok (.goto 9, 3) := by decide +kernel
theorem dX5_harm_21 : decode cX5_harm 21 = .ok (.aload_n 0, 1) := by decide +kernel
theorem dX5_harm_22 : decode cX5_harm 22 = .ok (.bipush 6, 2) := by decide +kernel
theorem dX5_harm_24 : decode cX5_harm 24 = .ok (.iaload, 1) := by decide +kernel
theorem dX5_harm_25 : decode cX5_harm 25 = .ok (.iload_n 1, 1) := by decide +kernel
theorem dX5_harm_26 : decode cX5_harm 26 = .ok (.iadd, 1) := by decide +kernel
theorem dX5_harm_27 : decode cX5_harm 27 = .ok (.iastore, 1) := by decide +kernel
theorem dX5_harm_28 : decode cX5_harm 28 = .ok (.return_, 1) := by decide +kernel
theorem dX5_day_0 : decode cX5_day 0 = .ok (.aload_n 0, 1) := by decide +kernel
theorem dX5_day_1 : decode cX5_day 1 = .ok (.iload_n 1, 1) := by decide +kernel
theorem dX5_day_2 : decode cX5_day 2 = .ok (.invokevirtual 120, 3) := by decide +kernel
theorem dX5_day_5 : decode cX5_day 5 = .ok (.ifCond .ne 16, 3) := by decide +kernel
theorem dX5_day_8 : decode cX5_day 8 = .ok (.iload_n 1, 1) := by decide +kernel
theorem dX5_day_9 : decode cX5_day 9 = .ok (.bipush 7, 2) := by decide +kernel
theorem dX5_day_11 : decode cX5_day 11 = .ok (.if_icmp .eq 10, 3) := by decide +kernel
theorem dX5_day_14 : decode cX5_day 14 = .ok (.aload_n 0, 1) := by decide +kernel
theorem dX5_day_15 : decode cX5_day 15 = .ok (.bipush (-2), 2) := by decide +kernel
theorem dX5_day_17 : decode cX5_day 17 = .ok (.invokevirtual 67, 3) := by decide +kernel
theorem dX5_day_20 : decode cX5_day 20 = .ok (.ireturn, 1) := by decide +kernel
theorem dX5_day_21 : decode cX5_day 21 = .ok (.aload_n 0, 1) := by decide +kernel
theorem dX5_day_22 : decode cX5_day 22 = .ok (.getfield 7, 3) := by decide +kernel
theorem dX5_day_25 : decode cX5_day 25 = .ok (.iconst 5, 1) := by decide +kernel
theorem dX5_day_26 : decode cX5_day 26 = .ok (.iaload, 1) := by decide +kernel
theorem dX5_day_27 : decode cX5_day 27 = .ok (.sipush 9999, 3) := by decide +kernel
theorem dX5_day_30 : decode cX5_day 30 = .ok (.if_icmp .ne 8, 3) := by decide +kernel
theorem dX5_day_33 : decode cX5_day 33 = .ok (.aload_n 0, 1) := by decide +kernel
theorem dX5_day_34 : decode cX5_day 34 = .ok (.invokevirtual 83, 3) := by decide +kernel
theorem dX5_day_37 : decode cX5_day 37 = .ok (.ireturn, 1) := by decide +kernel
theorem dX5_day_38 : decode cX5_day 38 = .ok (.aload_n 0, 1) := by decide +kernel
theorem dX5_day_39 : decode cX5_day 39 = .ok (.invokevirtual 123, 3) := by decide +kernel
theorem dX5_day_42 : decode cX5_day 42 = .ok (.aload_n 0, 1) := by decide +kernel
theorem dX5_day_43 : decode cX5_day 43 = .ok (.aload_n 0, 1) := by decide +kernel
theorem dX5_day_44 : decode cX5_day 44 = .ok (.getfield 7, 3) := by decide +kernel
theorem dX5_day_47 : decode cX5_day 47 = .ok (.iload_n 1, 1) := by decide +kernel
theorem dX5_day_48 : decode cX5_day 48 = .ok (.invokevirtual 126, 3) := by decide +kernel
theorem dX5_day_51 : decode cX5_day 51 = .ok (.istore_n 2, 1) := by decide +kernel
theorem dX5_day_52 : decode cX5_day 52 = .ok (.aload_n 0, 1) := by decide +kernel
theorem dX5_day_53 : decode cX5_day 53 = .ok (.getfield 7, 3) := by decide +kernel
theorem dX5_day_56 : decode cX5_day 56 = .ok (.iload_n 2, 1) := by decide +kernel
theorem dX5_day_57 : decode cX5_day 57 = .ok (.invokestatic 129, 3) := by decide +kernel
theorem dX5_day_60 : decode cX5_day 60 = .ok (.iload_n 2, 1) := by decide +kernel
theorem dX5_day_61 : decode cX5_day 61 = .ok (.ireturn, 1) := by decide +kernel
theorem dX5_putBack_0 : decode cX5_putBack 0 = .ok (.iload_n 1, 1) := by decide +kernel
theorem dX5_putBack_1 : decode cX5_putBack 1 = .ok (.invokestatic 71, 3) := by decide +kernel
theorem dX5_putBack_4 : decode cX5_putBack 4 = .ok (.ifCond .eq 15, 3) := by decide +kernel
theorem dX5_putBack_7 : decode cX5_putBack 7 = .ok (.iload_n 2, 1) := by decide +kernel
theorem dX5_putBack_8 : decode cX5_putBack 8 = .ok (.i2l, 1) := by decide +kernel
theorem dX5_putBack_9 : decode cX5_putBack 9 = .ok (.lconst 1, 1) := by decide +kernel
theorem dX5_putBack_10 : decode cX5_putBack 10 = .ok (.ldc2_w 74, 3) := by decide +kernel
theorem dX5_putBack_13 : decode cX5_putBack 13 = .ok (.invokestatic 53, 3) := by decide +kernel
theorem dX5_putBack_16 : decode cX5_putBack 16 = .ok (.ifCond .ne 10, 3) := by decide +kernel
theorem dX5_putBack_19 : decode cX5_putBack 19 = .ok (.aload_n 0, 1) := by decide +kernel
theorem dX5_putBack_20 : decode cX5_putBack 20 = .ok (.bipush (-2), 2) := by decide +kernel
theorem dX5_putBack_22 : decode cX5_putBack 22 = .ok (.invokevirtual 67, 3) := by decide +kernel
theorem dX5_putBack_25 : decode cX5_putBack 25 = .ok (.ireturn, 1) := by decide +kernel
theorem dX5_putBack_26 : decode cX5_putBack 26 = .ok (.aload_n 0, 1) := by decide +kernel
theorem dX5_putBack_27 : decode cX5_putBack 27 = .ok (.getfield 7, 3) := by decide +kernel
theorem dX5_putBack_30 : decode cX5_putBack 30 = .ok (.bipush 14, 2) := by decide +kernel
theorem dX5_putBack_32 : decode cX5_putBack 32 = .ok (.iload_n 1, 1) := by decide +kernel
theorem dX5_putBack_33 : decode cX5_putBack 33 = .ok (.iadd, 1) := by decide +kernel
theorem dX5_putBack_34 : decode cX5_putBack 34 = .ok (.iaload, 1) := by decide +kernel
theorem dX5_putBack_35 : decode cX5_putBack 35 = .ok (.bipush 9, 2) := by decide +kernel
theorem dX5_putBack_37 : decode cX5_putBack 37 = .ok (.if_icmp .ne 8, 3) := by decide +kernel
theorem dX5_putBack_40 : decode cX5_putBack 40 = .ok (.aload_n 0, 1) := by decide +kernel
theorem dX5_putBack_41 : decode cX5_putBack 41 = .ok (.invokevirtual 83, 3) := by decide +kernel
theorem dX5_putBack_44 : decode cX5_putBack 44 = .ok (.ireturn, 1) := by decide +kernel
theorem dX5_putBack_45 : decode cX5_putBack 45 = .ok (.aload_n 0, 1) := by decide +kernel
theorem dX5_putBack_46 : decode cX5_putBack 46 = .ok (.invokevirtual 123, 3) := by decide +kernel
theorem dX5_putBack_49 : decode cX5_putBack 49 = .ok (.aload_n 0, 1) := by decide +kernel
theorem dX5_putBack_50 : decode cX5_putBack 50 = .ok (.getfield 7, 3) := by decide +kernel
theorem dX5_putBack_53 : decode cX5_putBack 53 = .ok (.bipush 14, 2) := by decide +kernel
theorem dX5_putBack_55 : decode cX5_putBack 55 = .ok (.iload_n 1, 1) := by decide +kernel
theorem dX5_putBack_56 : decode cX5_putBack 56 = .ok (.iadd, 1) := by decide +kernel
theorem dX5_putBack_57 : decode cX5_putBack 57 = .ok (.iaload, 1) := by decide +kernel
theorem dX5_putBack_58 : decode cX5_putBack 58 = .ok (.iload_n 2, 1) := by decide +kernel
theorem dX5_putBack_59 : decode cX5_putBack 59 = .ok (.iadd, 1) := by decide +kernel
theorem dX5_putBack_60 : decode cX5_putBack 60 = .ok (.istore_n 3, 1) := by decide +kernel
theorem dX5_putBack_61 : decode cX5_putBack 61 = .ok (.aload_n 0, 1) := by decide +kernel
theorem dX5_putBack_62 : decode cX5_putBack 62 = .ok (.getfield 7, 3) := by decide +kernel
theorem dX5_putBack_65 : decode cX5_putBack 65 = .ok (.bipush 14, 2) := by decide +kernel
theorem dX5_putBack_67 : decode cX5_putBack 67 = .ok (.iload_n 1, 1) := by decide +kernel
theorem dX5_putBack_68 : decode cX5_putBack 68 = .ok (.iadd, 1) := by decide +kernel
theorem dX5_putBack_69 : decode cX5_putBack 69 = .ok (.iload_n 3, 1) := by decide +kernel
theorem dX5_putBack_70 : decode cX5_putBack 70 = .ok (.bipush 9, 2) := by decide +kernel
theorem dX5_putBack_72 : decode cX5_putBack 72 = .ok (.if_icmp .le 8, 3) := by decide +kernel
theorem dX5_putBack_75 : decode cX5_putBack 75 = .ok (.bipush 9, 2) := by decide +kernel
theorem dX5_putBack_77 : decode cX5_putBack 77 = .ok (.goto 4, 3) := by decide +kernel
theorem dX5_putBack_80 : decode cX5_putBack 80 = .ok (.iload_n 3, 1) := by decide +kernel
theorem dX5_putBack_81 : decode cX5_putBack 81 = .ok (.iastore, 1) := by decide +kernel
theorem dX5_putBack_82 : decode cX5_putBack 82 = .ok (.aload_n 0, 1) := by decide +kernel
theorem dX5_putBack_83 : decode cX5_putBack 83 = .ok (.getfield 7, 3) := by decide +kernel
theorem dX5_putBack_86 : decode cX5_putBack 86 = .ok (.bipush 14, 2) := by decide +kernel
theorem dX5_putBack_88 : decode cX5_putBack 88 = .ok (.iload_n 1, 1) := by decide +kernel
theorem dX5_putBack_89 : decode cX5_putBack 89 = .ok (.iadd, 1) := by decide +kernel
theorem dX5_putBack_90 : decode cX5_putBack 90 = .ok (.iaload, 1) := by decide +kernel
theorem dX5_putBack_91 : decode cX5_putBack 91 = .ok (.ireturn, 1) := by decide +kernel
theorem dX5_undo_0 : decode cX5_undo 0 = .ok (.aload_n 0, 1) := by decide +kernel
theorem dX5_undo_1 : decode cX5_undo 1 = .ok (.getfield 7, 3) := by decide +kernel
theorem dX5_undo_4 : decode cX5_undo 4 = .ok (.iconst 3, 1) := by decide +kernel
theorem dX5_undo_5 : decode cX5_undo 5 = .ok (.iaload, 1) := by decide +kernel
theorem dX5_undo_6 : decode cX5_undo 6 = .ok (.ifCond .ne 8, 3) := by decide +kernel
theorem dX5_undo_9 : decode cX5_undo 9 = .ok (.aload_n 0, 1) := by decide +kernel
theorem dX5_undo_10 : decode cX5_undo 10 = .ok (.invokevirtual 83, 3) := by decide +kernel
theorem dX5_undo_13 : decode cX5_undo 13 = .ok (.ireturn, 1) := by decide +kernel
theorem dX5_undo_14 : decode cX5_undo 14 = .ok (.aload_n 0, 1) := by decide +kernel
theorem dX5_undo_15 : decode cX5_undo 15 = .ok (.getfield 7, 3) := by decide +kernel
theorem dX5_undo_18 : decode cX5_undo 18 = .ok (.iconst 3, 1) := by decide +kernel
theorem dX5_undo_19 : decode cX5_undo 19 = .ok (.dup2, 1) := by decide +kernel
theorem dX5_undo_20 : decode cX5_undo 20 = .ok (.iaload, 1) := by decide +kernel
theorem dX5_undo_21 : decode cX5_undo 21 = .ok (.iconst 1, 1) := by decide +kernel
theorem dX5_undo_22 : decode cX5_undo 22 = .ok (.isub, 1) := by decide +kernel
theorem dX5_undo_23 : decode cX5_undo 23 = .ok (.iastore, 1) := by decide +kernel
theorem dX5_undo_24 : decode cX5_undo 24 = .ok (.iconst 0, 1) := by decide +kernel
theorem dX5_undo_25 : decode cX5_undo 25 = .ok (.istore_n 1, 1) := by decide +kernel
theorem dX5_undo_26 : decode cX5_undo 26 = .ok (.iload_n 1, 1) := by decide +kernel
theorem dX5_undo_27 : decode cX5_undo 27 = .ok (.bipush 29, 2) := by decide +kernel
theorem dX5_undo_29 : decode cX5_undo 29 = .ok (.if_icmp .ge 36, 3) := by decide +kernel
theorem dX5_undo_32 : decode cX5_undo 32 = .ok (.aload_n 0, 1) := by decide +kernel
theorem dX5_undo_33 : decode cX5_undo 33 = .ok (.getfield 7, 3) := by decide +kernel
theorem dX5_undo_36 : decode cX5_undo 36 = .ok (.iconst 5, 1) := by decide +kernel
theorem dX5_undo_37 : decode cX5_undo 37 = .ok (.iload_n 1, 1) := by decide +kernel
theorem dX5_undo_38 : decode cX5_undo 38 = .ok (.iadd, 1) := by decide +kernel
theorem dX5_undo_39 : decode cX5_undo 39 = .ok (.aload_n 0, 1) := by decide +kernel
theorem dX5_undo_40 : decode cX5_undo 40 = .ok (.getfield 7, 3) := by decide +kernel
theorem dX5_undo_43 : decode cX5_undo 43 = .ok (.bipush 86, 2) := by decide +kernel
theorem dX5_undo_45 : decode cX5_undo 45 = .ok (.bipush 29, 2) := by decide +kernel
theorem dX5_undo_47 : decode cX5_undo 47 = .ok (.aload_n 0, 1) := by decide +kernel
theorem dX5_undo_48 : decode cX5_undo 48 = .ok (.getfield 7, 3) := by decide +kernel
theorem dX5_undo_51 : decode cX5_undo 51 = .ok (.iconst 3, 1) := by decide +kernel
theorem dX5_undo_52 : decode cX5_undo 52 = .ok (.iaload, 1) := by decide +kernel
theorem dX5_undo_53 : decode cX5_undo 53 = .ok (.imul, 1) := by decide +kernel
theorem dX5_undo_54 : decode cX5_undo 54 = .ok (.iadd, 1) := by decide +kernel
theorem dX5_undo_55 : decode cX5_undo 55 = .ok (.iload_n 1, 1) := by decide +kernel
theorem dX5_undo_56 : decode cX5_undo 56 = .ok (.iadd, 1) := by decide +kernel
theorem dX5_undo_57 : decode cX5_undo 57 = .ok (.iaload, 1) := by decide +kernel
theorem dX5_undo_58 : decode cX5_undo 58 = .ok (.iastore, 1) := by decide +kernel
theorem dX5_undo_59 : decode cX5_undo 59 = .ok (.iinc 1 1, 3) := by decide +kernel
theorem dX5_undo_62 : decode cX5_undo 62 = .ok (.goto (-36), 3) := by decide +kernel
theorem dX5_undo_65 : decode cX5_undo 65 = .ok (.aload_n 0, 1) := by decide +kernel
theorem dX5_undo_66 : decode cX5_undo 66 = .ok (.getfield 7, 3) := by decide +kernel
theorem dX5_undo_69 : decode cX5_undo 69 = .ok (.iconst 5, 1) := by decide +kernel
theorem dX5_undo_70 : decode cX5_undo 70 = .ok (.iaload, 1) := by decide +kernel
theorem dX5_undo_71 : decode cX5_undo 71 = .ok (.ireturn, 1) := by decide +kernel
theorem dX5_of_0 : decode cX5_of 0 = .ok (.aload_n 0, 1) := by decide +kernel
theorem dX5_of_1 : decode cX5_of 1 = .ok (.iload_n 1, 1) := by decide +kernel
theorem dX5_of_2 : decode cX5_of 2 = .ok (.invokevirtual 120, 3) := by decide +kernel
theorem dX5_of_5 : decode cX5_of 5 = .ok (.ifCond .eq 15, 3) := by decide +kernel
theorem dX5_of_8 : decode cX5_of 8 = .ok (.iload_n 2, 1) := by decide +kernel
theorem dX5_of_9 : decode cX5_of 9 = .ok (.i2l, 1) := by decide +kernel
theorem dX5_of_10 : decode cX5_of 10 = .ok (.lconst 0, 1) := by decide +kernel
theorem dX5_of_11 : decode cX5_of 11 = .ok (.ldc2_w 132, 3) := by decide +kernel
theorem dX5_of_14 : decode cX5_of 14 = .ok (.invokestatic 53, 3) := by decide +kernel
theorem dX5_of_17 : decode cX5_of 17 = .ok (.ifCond .ne 10, 3) := by decide +kernel
theorem dX5_of_20 : decode cX5_of 20 = .ok (.aload_n 0, 1) := by decide +kernel
theorem dX5_of_21 : decode cX5_of 21 = .ok (.bipush (-2), 2) := by decide +kernel
theorem dX5_of_23 : decode cX5_of 23 = .ok (.invokevirtual 67, 3) := by decide +kernel
theorem dX5_of_26 : decode cX5_of 26 = .ok (.ireturn, 1) := by decide +kernel
theorem dX5_of_27 : decode cX5_of 27 = .ok (.aload_n 0, 1) := by decide +kernel
theorem dX5_of_28 : decode cX5_of 28 = .ok (.getfield 7, 3) := by decide +kernel
theorem dX5_of_31 : decode cX5_of 31 = .ok (.bipush 7, 2) := by decide +kernel
theorem dX5_of_33 : decode cX5_of 33 = .ok (.iload_n 1, 1) := by decide +kernel
theorem dX5_of_34 : decode cX5_of 34 = .ok (.iadd, 1) := by decide +kernel
theorem dX5_of_35 : decode cX5_of 35 = .ok (.iaload, 1) := by decide +kernel
theorem dX5_of_36 : decode cX5_of 36 = .ok (.istore_n 3, 1) := by decide +kernel
theorem dX5_of_37 : decode cX5_of 37 = .ok (.iload_n 2, 1) := by decide +kernel
theorem dX5_of_38 : decode cX5_of 38 = .ok (.tableswitch 74 0 3 #[30, 40, 50, 52], 30) := by decide +kernel
theorem dX5_of_68 : decode cX5_of 68 = .ok (.aload_n 0, 1) := by decide +kernel
theorem dX5_of_69 : decode cX5_of 69 = .ok (.getfield 7, 3) := by decide +kernel
theorem dX5_of_72 : decode cX5_of 72 = .ok (.bipush 34, 2) := by decide +kernel
theorem dX5_of_74 : decode cX5_of 74 = .ok (.iload_n 1, 1) := by decide +kernel
theorem dX5_of_75 : decode cX5_of 75 = .ok (.iadd, 1) := by decide +kernel
theorem dX5_of_76 : decode cX5_of 76 = .ok (.iaload, 1) := by decide +kernel
theorem dX5_of_77 : decode cX5_of 77 = .ok (.ireturn, 1) := by decide +kernel
theorem dX5_of_78 : decode cX5_of 78 = .ok (.aload_n 0, 1) := by decide +kernel
theorem dX5_of_79 : decode cX5_of 79 = .ok (.getfield 7, 3) := by decide +kernel
theorem dX5_of_82 : decode cX5_of 82 = .ok (.bipush 41, 2) := by decide +kernel
theorem dX5_of_84 : decode cX5_of 84 = .ok (.iload_n 1, 1) := by decide +kernel
theorem dX5_of_85 : decode cX5_of 85 = .ok (.iadd, 1) := by decide +kernel
theorem dX5_of_86 : decode cX5_of 86 = .ok (.iaload, 1) := by decide +kernel
theorem dX5_of_87 : decode cX5_of 87 = .ok (.ireturn, 1) := by decide +kernel
theorem dX5_of_88 : decode cX5_of 88 = .ok (.iload_n 3, 1) := by decide +kernel
theorem dX5_of_89 : decode cX5_of 89 = .ok (.ireturn, 1) := by decide +kernel
theorem dX5_of_90 : decode cX5_of 90 = .ok (.aload_n 0, 1) := by decide +kernel
theorem dX5_of_91 : decode cX5_of 91 = .ok (.getfield 7, 3) := by decide +kernel
theorem dX5_of_94 : decode cX5_of 94 = .ok (.bipush 34, 2) := by decide +kernel
theorem dX5_of_96 : decode cX5_of 96 = .ok (.iload_n 1, 1) := by decide +kernel
theorem dX5_of_97 : decode cX5_of 97 = .ok (.iadd, 1) := by decide +kernel
theorem dX5_of_98 : decode cX5_of 98 = .ok (.iaload, 1) := by decide +kernel
theorem dX5_of_99 : decode cX5_of 99 = .ok (.iload_n 3, 1) := by decide +kernel
theorem dX5_of_100 : decode cX5_of 100 = .ok (.aload_n 0, 1) := by decide +kernel
theorem dX5_of_101 : decode cX5_of 101 = .ok (.getfield 7, 3) := by decide +kernel
theorem dX5_of_104 : decode cX5_of 104 = .ok (.iconst 5, 1) := by decide +kernel
theorem dX5_of_105 : decode cX5_of 105 = .ok (.iaload, 1) := by decide +kernel
theorem dX5_of_106 : decode cX5_of 106 = .ok (.iconst 1, 1) := by decide +kernel
theorem dX5_of_107 : decode cX5_of 107 = .ok (.iadd, 1) := by decide +kernel
theorem dX5_of_108 : decode cX5_of 108 = .ok (.invokestatic 113, 3) := by decide +kernel
theorem dX5_of_111 : decode cX5_of 111 = .ok (.ireturn, 1) := by decide +kernel
theorem dX5_of_112 : decode cX5_of 112 = .ok (.aload_n 0, 1) := by decide +kernel
theorem dX5_of_113 : decode cX5_of 113 = .ok (.getfield 7, 3) := by decide +kernel
theorem dX5_of_116 : decode cX5_of 116 = .ok (.iconst 4, 1) := by decide +kernel
theorem dX5_of_117 : decode cX5_of 117 = .ok (.iaload, 1) := by decide +kernel
theorem dX5_of_118 : decode cX5_of 118 = .ok (.iload_n 3, 1) := by decide +kernel
theorem dX5_of_119 : decode cX5_of 119 = .ok (.aload_n 0, 1) := by decide +kernel
theorem dX5_of_120 : decode cX5_of 120 = .ok (.getfield 7, 3) := by decide +kernel
theorem dX5_of_123 : decode cX5_of 123 = .ok (.iconst 5, 1) := by decide +kernel
theorem dX5_of_124 : decode cX5_of 124 = .ok (.iaload, 1) := by decide +kernel
theorem dX5_of_125 : decode cX5_of 125 = .ok (.iconst 1, 1) := by decide +kernel
theorem dX5_of_126 : decode cX5_of 126 = .ok (.iadd, 1) := by decide +kernel
theorem dX5_of_127 : decode cX5_of 127 = .ok (.invokestatic 109, 3) := by decide +kernel
theorem dX5_of_130 : decode cX5_of 130 = .ok (.ireturn, 1) := by decide +kernel
theorem dX5_has_0 : decode cX5_has 0 = .ok (.iload_n 1, 1) := by decide +kernel
theorem dX5_has_1 : decode cX5_has 1 = .ok (.invokestatic 71, 3) := by decide +kernel
theorem dX5_has_4 : decode cX5_has 4 = .ok (.ifCond .eq 15, 3) := by decide +kernel
theorem dX5_has_7 : decode cX5_has 7 = .ok (.aload_n 0, 1) := by decide +kernel
theorem dX5_has_8 : decode cX5_has 8 = .ok (.getfield 7, 3) := by decide +kernel
theorem dX5_has_11 : decode cX5_has 11 = .ok (.bipush 14, 2) := by decide +kernel
theorem dX5_has_13 : decode cX5_has 13 = .ok (.iload_n 1, 1) := by decide +kernel
theorem dX5_has_14 : decode cX5_has 14 = .ok (.iadd, 1) := by decide +kernel
theorem dX5_has_15 : decode cX5_has 15 = .ok (.iaload, 1) := by decide +kernel
theorem dX5_has_16 : decode cX5_has 16 = .ok (.goto 9, 3) := by decide +kernel
theorem dX5_has_19 : decode cX5_has 19 = .ok (.aload_n 0, 1) := by decide +kernel
theorem dX5_has_20 : decode cX5_has 20 = .ok (.bipush (-2), 2) := by decide +kernel
theorem dX5_has_22 : decode cX5_has 22 = .ok (.invokevirtual 67, 3) := by decide +kernel
theorem dX5_has_25 : decode cX5_has 25 = .ok (.ireturn, 1) := by decide +kernel
theorem dX5_layHand_0 : decode cX5_layHand 0 = .ok (.iconst 0, 1) := by decide +kernel
theorem dX5_layHand_1 : decode cX5_layHand 1 = .ok (.istore_n 1, 1) := by decide +kernel
theorem dX5_layHand_2 : decode cX5_layHand 2 = .ok (.iload_n 1, 1) := by decide +kernel
theorem dX5_layHand_3 : decode cX5_layHand 3 = .ok (.bipush 48, 2) := by decide +kernel
theorem dX5_layHand_5 : decode cX5_layHand 5 = .ok (.if_icmp .ge 21, 3) := by decide +kernel
theorem dX5_layHand_8 : decode cX5_layHand 8 = .ok (.aload_n 0, 1) := by decide +kernel
theorem dX5_layHand_9 : decode cX5_layHand 9 = .ok (.getfield 27, 3) := by decide +kernel
theorem dX5_layHand_12 : decode cX5_layHand 12 = .ok (.iload_n 1, 1) := by decide +kernel
theorem dX5_layHand_13 : decode cX5_layHand 13 = .ok (.aload_n 0, 1) := by decide +kernel
theorem dX5_layHand_14 : decode cX5_layHand 14 = .ok (.getfield 7, 3) := by decide +kernel
theorem dX5_layHand_17 : decode cX5_layHand 17 = .ok (.iload_n 1, 1) := by decide +kernel
theorem dX5_layHand_18 : decode cX5_layHand 18 = .ok (.iaload, 1) := by decide +kernel
theorem dX5_layHand_19 : decode cX5_layHand 19 = .ok (.iastore, 1) := by decide +kernel
theorem dX5_layHand_20 : decode cX5_layHand 20 = .ok (.iinc 1 1, 3) := by decide +kernel
theorem dX5_layHand_23 : decode cX5_layHand 23 = .ok (.goto (-21), 3) := by decide +kernel
theorem dX5_layHand_26 : decode cX5_layHand 26 = .ok (.return_, 1) := by decide +kernel
theorem dX5_goQuiet_0 : decode cX5_goQuiet 0 = .ok (.iconst 0, 1) := by decide +kernel
theorem dX5_goQuiet_1 : decode cX5_goQuiet 1 = .ok (.istore_n 2, 1) := by decide +kernel
theorem dX5_goQuiet_2 : decode cX5_goQuiet 2 = .ok (.iconst 0, 1) := by decide +kernel
theorem dX5_goQuiet_3 : decode cX5_goQuiet 3 = .ok (.istore_n 3, 1) := by decide +kernel
theorem dX5_goQuiet_4 : decode cX5_goQuiet 4 = .ok (.iload_n 3, 1) := by decide +kernel
theorem dX5_goQuiet_5 : decode cX5_goQuiet 5 = .ok (.iload_n 1, 1) := by decide +kernel
theorem dX5_goQuiet_6 : decode cX5_goQuiet 6 = .ok (.if_icmp .ge 22, 3) := by decide +kernel
theorem dX5_goQuiet_9 : decode cX5_goQuiet 9 = .ok (.iload_n 2, 1) := by decide +kernel
theorem dX5_goQuiet_10 : decode cX5_goQuiet 10 = .ok (.aload_n 0, 1) := by decide +kernel
theorem dX5_goQuiet_11 : decode cX5_goQuiet 11 = .ok (.aload_n 0, 1) := by decide +kernel
theorem dX5_goQuiet_12 : decode cX5_goQuiet 12 = .ok (.getfield 27, 3) := by decide +kernel
theorem dX5_goQuiet_15 : decode cX5_goQuiet 15 = .ok (.bipush 7, 2) := by decide +kernel
theorem dX5_goQuiet_17 : decode cX5_goQuiet 17 = .ok (.invokevirtual 126, 3) := by decide +kernel
theorem dX5_goQuiet_20 : decode cX5_goQuiet 20 = .ok (.iadd, 1) := by decide +kernel
theorem dX5_goQuiet_21 : decode cX5_goQuiet 21 = .ok (.istore_n 2, 1) := by decide +kernel
theorem dX5_goQuiet_22 : decode cX5_goQuiet 22 = .ok (.iinc 3 1, 3) := by decide +kernel
theorem dX5_goQuiet_25 : decode cX5_goQuiet 25 = .ok (.goto (-21), 3) := by decide +kernel
theorem dX5_goQuiet_28 : decode cX5_goQuiet 28 = .ok (.iload_n 2, 1) := by decide +kernel
theorem dX5_goQuiet_29 : decode cX5_goQuiet 29 = .ok (.ireturn, 1) := by decide +kernel
theorem dX5_high_0 : decode cX5_high 0 = .ok (.aload_n 0, 1) := by decide +kernel
theorem dX5_high_1 : decode cX5_high 1 = .ok (.iload_n 1, 1) := by decide +kernel
theorem dX5_high_2 : decode cX5_high 2 = .ok (.invokevirtual 120, 3) := by decide +kernel
theorem dX5_high_5 : decode cX5_high 5 = .ok (.ifCond .eq 15, 3) := by decide +kernel
theorem dX5_high_8 : decode cX5_high 8 = .ok (.iload_n 2, 1) := by decide +kernel
theorem dX5_high_9 : decode cX5_high 9 = .ok (.i2l, 1) := by decide +kernel
theorem dX5_high_10 : decode cX5_high 10 = .ok (.lconst 0, 1) := by decide +kernel
theorem dX5_high_11 : decode cX5_high 11 = .ok (.ldc2_w 134, 3) := by decide +kernel
theorem dX5_high_14 : decode cX5_high 14 = .ok (.invokestatic 53, 3) := by decide +kernel
theorem dX5_high_17 : decode cX5_high 17 = .ok (.ifCond .ne 10, 3) := by decide +kernel
theorem dX5_high_20 : decode cX5_high 20 = .ok (.aload_n 0, 1) := by decide +kernel
theorem dX5_high_21 : decode cX5_high 21 = .ok (.bipush (-2), 2) := by decide +kernel
theorem dX5_high_23 : decode cX5_high 23 = .ok (.invokevirtual 67, 3) := by decide +kernel
theorem dX5_high_26 : decode cX5_high 26 = .ok (.ireturn, 1) := by decide +kernel
theorem dX5_high_27 : decode cX5_high 27 = .ok (.aload_n 0, 1) := by decide +kernel
theorem dX5_high_28 : decode cX5_high 28 = .ok (.invokevirtual 136, 3) := by decide +kernel
theorem dX5_high_31 : decode cX5_high 31 = .ok (.aload_n 0, 1) := by decide +kernel
theorem dX5_high_32 : decode cX5_high 32 = .ok (.iload_n 2, 1) := by decide +kernel
theorem dX5_high_33 : decode cX5_high 33 = .ok (.invokevirtual 139, 3) := by decide +kernel
theorem dX5_high_36 : decode cX5_high 36 = .ok (.istore_n 3, 1) := by decide +kernel
theorem dX5_high_37 : decode cX5_high 37 = .ok (.aload_n 0, 1) := by decide +kernel
theorem dX5_high_38 : decode cX5_high 38 = .ok (.getfield 27, 3) := by decide +kernel
theorem dX5_high_41 : decode cX5_high 41 = .ok (.bipush 7, 2) := by decide +kernel
theorem dX5_high_43 : decode cX5_high 43 = .ok (.iload_n 1, 1) := by decide +kernel
theorem dX5_high_44 : decode cX5_high 44 = .ok (.iadd, 1) := by decide +kernel
theorem dX5_high_45 : decode cX5_high 45 = .ok (.iaload, 1) := by decide +kernel
theorem dX5_high_46 : decode cX5_high 46 = .ok (.ireturn, 1) := by decide +kernel
theorem dX5_goes_0 : decode cX5_goes 0 = .ok (.aload_n 0, 1) := by decide +kernel
theorem dX5_goes_1 : decode cX5_goes 1 = .ok (.iload_n 1, 1) := by decide +kernel
theorem dX5_goes_2 : decode cX5_goes 2 = .ok (.invokevirtual 120, 3) := by decide +kernel
theorem dX5_goes_5 : decode cX5_goes 5 = .ok (.ifCond .ne 10, 3) := by decide +kernel
theorem dX5_goes_8 : decode cX5_goes 8 = .ok (.aload_n 0, 1) := by decide +kernel
theorem dX5_goes_9 : decode cX5_goes 9 = .ok (.bipush (-2), 2) := by decide +kernel
theorem dX5_goes_11 : decode cX5_goes 11 = .ok (.invokevirtual 67, 3) := by decide +kernel
theorem dX5_goes_14 : decode cX5_goes 14 = .ok (.ireturn, 1) := by decide +kernel
theorem dX5_goes_15 : decode cX5_goes 15 = .ok (.aload_n 0, 1) := by decide +kernel
theorem dX5_goes_16 : decode cX5_goes 16 = .ok (.invokevirtual 136, 3) := by decide +kernel
theorem dX5_goes_19 : decode cX5_goes 19 = .ok (.iconst 1, 1) := by decide +kernel
theorem dX5_goes_20 : decode cX5_goes 20 = .ok (.istore_n 2, 1) := by decide +kernel
theorem dX5_goes_21 : decode cX5_goes 21 = .ok (.iload_n 2, 1) := by decide +kernel
theorem dX5_goes_22 : decode cX5_goes 22 = .ok (.bipush 60, 2) := by decide +kernel
theorem dX5_goes_24 : decode cX5_goes 24 = .ok (.if_icmp .gt 33, 3) := by decide +kernel
theorem dX5_goes_27 : decode cX5_goes 27 = .ok (.aload_n 0, 1) := by decide +kernel
theorem dX5_goes_28 : decode cX5_goes 28 = .ok (.aload_n 0, 1) := by decide +kernel
theorem dX5_goes_29 : decode cX5_goes 29 = .ok (.getfield 27, 3) := by decide +kernel
theorem dX5_goes_32 : decode cX5_goes 32 = .ok (.bipush 7, 2) := by decide +kernel
theorem dX5_goes_34 : decode cX5_goes 34 = .ok (.invokevirtual 126, 3) := by decide +kernel
theorem dX5_goes_37 : decode cX5_goes 37 = .ok (.istore_n 3, 1) := by decide +kernel
theorem dX5_goes_38 : decode cX5_goes 38 = .ok (.aload_n 0, 1) := by decide +kernel
theorem dX5_goes_39 : decode cX5_goes 39 = .ok (.getfield 97, 3) := by decide +kernel
theorem dX5_goes_42 : decode cX5_goes 42 = .ok (.iload_n 1, 1) := by decide +kernel
theorem dX5_goes_43 : decode cX5_goes 43 = .ok (.invokestatic 105, 3) := by decide +kernel
theorem dX5_goes_46 : decode cX5_goes 46 = .ok (.ifCond .eq 5, 3) := by decide +kernel
theorem dX5_goes_49 : decode cX5_goes 49 = .ok (.iload_n 2, 1) := by decide +kernel
theorem dX5_goes_50 : decode cX5_goes 50 = .ok (.ireturn, 1) := by decide +kernel
theorem dX5_goes_51 : decode cX5_goes 51 = .ok (.iinc 2 1, 3) := by decide +kernel
theorem dX5_goes_54 : decode cX5_goes 54 = .ok (.goto (-33), 3) := by decide +kernel
theorem dX5_goes_57 : decode cX5_goes 57 = .ok (.iconst (-1), 1) := by decide +kernel
theorem dX5_goes_58 : decode cX5_goes 58 = .ok (.ireturn, 1) := by decide +kernel
theorem dX5_lost_0 : decode cX5_lost 0 = .ok (.iload_n 1, 1) := by decide +kernel
theorem dX5_lost_1 : decode cX5_lost 1 = .ok (.i2l, 1) := by decide +kernel
theorem dX5_lost_2 : decode cX5_lost 2 = .ok (.lconst 0, 1) := by decide +kernel
theorem dX5_lost_3 : decode cX5_lost 3 = .ok (.ldc2_w 134, 3) := by decide +kernel
theorem dX5_lost_6 : decode cX5_lost 6 = .ok (.invokestatic 53, 3) := by decide +kernel
theorem dX5_lost_9 : decode cX5_lost 9 = .ok (.ifCond .ne 10, 3) := by decide +kernel
theorem dX5_lost_12 : decode cX5_lost 12 = .ok (.aload_n 0, 1) := by decide +kernel
theorem dX5_lost_13 : decode cX5_lost 13 = .ok (.bipush (-2), 2) := by decide +kernel
theorem dX5_lost_15 : decode cX5_lost 15 = .ok (.invokevirtual 67, 3) := by decide +kernel
theorem dX5_lost_18 : decode cX5_lost 18 = .ok (.ireturn, 1) := by decide +kernel
theorem dX5_lost_19 : decode cX5_lost 19 = .ok (.aload_n 0, 1) := by decide +kernel
theorem dX5_lost_20 : decode cX5_lost 20 = .ok (.invokevirtual 136, 3) := by decide +kernel
theorem dX5_lost_23 : decode cX5_lost 23 = .ok (.aload_n 0, 1) := by decide +kernel
theorem dX5_lost_24 : decode cX5_lost 24 = .ok (.iload_n 1, 1) := by decide +kernel
theorem dX5_lost_25 : decode cX5_lost 25 = .ok (.invokevirtual 139, 3) := by decide +kernel
theorem dX5_lost_28 : decode cX5_lost 28 = .ok (.ireturn, 1) := by decide +kernel
theorem dX5_chain_0 : decode cX5_chain 0 = .ok (.aload_n 0, 1) := by decide +kernel
theorem dX5_chain_1 : decode cX5_chain 1 = .ok (.iload_n 1, 1) := by decide +kernel
theorem dX5_chain_2 : decode cX5_chain 2 = .ok (.invokevirtual 120, 3) := by decide +kernel
theorem dX5_chain_5 : decode cX5_chain 5 = .ok (.ifCond .ne 10, 3) := by decide +kernel
theorem dX5_chain_8 : decode cX5_chain 8 = .ok (.aload_n 0, 1) := by decide +kernel
theorem dX5_chain_9 : decode cX5_chain 9 = .ok (.bipush (-2), 2) := by decide +kernel
theorem dX5_chain_11 : decode cX5_chain 11 = .ok (.invokevirtual 67, 3) := by decide +kernel
theorem dX5_chain_14 : decode cX5_chain 14 = .ok (.ireturn, 1) := by decide +kernel
theorem dX5_chain_15 : decode cX5_chain 15 = .ok (.aload_n 0, 1) := by decide +kernel
theorem dX5_chain_16 : decode cX5_chain 16 = .ok (.invokevirtual 136, 3) := by decide +kernel
theorem dX5_chain_19 : decode cX5_chain 19 = .ok (.aload_n 0, 1) := by decide +kernel
theorem dX5_chain_20 : decode cX5_chain 20 = .ok (.getfield 27, 3) := by decide +kernel
theorem dX5_chain_23 : decode cX5_chain 23 = .ok (.bipush 7, 2) := by decide +kernel
theorem dX5_chain_25 : decode cX5_chain 25 = .ok (.iload_n 1, 1) := by decide +kernel
theorem dX5_chain_26 : decode cX5_chain 26 = .ok (.iadd, 1) := by decide +kernel
theorem dX5_chain_27 : decode cX5_chain 27 = .ok (.bipush 60, 2) := by decide +kernel
theorem dX5_chain_29 : decode cX5_chain 29 = .ok (.iastore, 1) := by decide +kernel
theorem dX5_chain_30 : decode cX5_chain 30 = .ok (.aload_n 0, 1) := by decide +kernel
theorem dX5_chain_31 : decode cX5_chain 31 = .ok (.aload_n 0, 1) := by decide +kernel
theorem dX5_chain_32 : decode cX5_chain 32 = .ok (.getfield 27, 3) := by decide +kernel
theorem dX5_chain_35 : decode cX5_chain 35 = .ok (.invokevirtual 116, 3) := by decide +kernel
theorem dX5_chain_38 : decode cX5_chain 38 = .ok (.istore_n 2, 1) := by decide +kernel
theorem dX5_chain_39 : decode cX5_chain 39 = .ok (.aload_n 0, 1) := by decide +kernel
theorem dX5_chain_40 : decode cX5_chain 40 = .ok (.getfield 97, 3) := by decide +kernel
theorem dX5_chain_43 : decode cX5_chain 43 = .ok (.ireturn, 1) := by decide +kernel
theorem dX5_sizes_0 : decode cX5_sizes 0 = .ok (.iconst 0, 1) := by decide +kernel
theorem dX5_sizes_1 : decode cX5_sizes 1 = .ok (.istore_n 1, 1) := by decide +kernel
theorem dX5_sizes_2 : decode cX5_sizes 2 = .ok (.iconst 0, 1) := by decide +kernel
theorem dX5_sizes_3 : decode cX5_sizes 3 = .ok (.istore_n 2, 1) := by decide +kernel
theorem dX5_sizes_4 : decode cX5_sizes 4 = .ok (.iload_n 2, 1) := by decide +kernel
theorem dX5_sizes_5 : decode cX5_sizes 5 = .ok (.aload_n 0, 1) := by decide +kernel
theorem dX5_sizes_6 : decode cX5_sizes 6 = .ok (.iconst 0, 1) := by decide +kernel
theorem dX5_sizes_7 : decode cX5_sizes 7 = .ok (.iaload, 1) := by decide +kernel
theorem dX5_sizes_8 : decode cX5_sizes 8 = .ok (.if_icmp .ge 18, 3) := by decide +kernel
theorem dX5_sizes_11 : decode cX5_sizes 11 = .ok (.iload_n 1, 1) := by decide +kernel
theorem dX5_sizes_12 : decode cX5_sizes 12 = .ok (.aload_n 0, 1) := by decide +kernel
theorem dX5_sizes_13 : decode cX5_sizes 13 = .ok (.bipush 7, 2) := by decide +kernel
theorem dX5_sizes_15 : decode cX5_sizes 15 = .ok (.iload_n 2, 1) := by decide +kernel
theorem dX5_sizes_16 : decode cX5_sizes 16 = .ok (.iadd, 1) := by decide +kernel
theorem dX5_sizes_17 : decode cX5_sizes 17 = .ok (.iaload, 1) := by decide +kernel
theorem dX5_sizes_18 : decode cX5_sizes 18 = .ok (.iadd, 1) := by decide +kernel
theorem dX5_sizes_19 : decode cX5_sizes 19 = .ok (.istore_n 1, 1) := by decide +kernel
theorem dX5_sizes_20 : decode cX5_sizes 20 = .ok (.iinc 2 1, 3) := by decide +kernel
theorem dX5_sizes_23 : decode cX5_sizes 23 = .ok (.goto (-19), 3) := by decide +kernel
theorem dX5_sizes_26 : decode cX5_sizes 26 = .ok (.iload_n 1, 1) := by decide +kernel
theorem dX5_sizes_27 : decode cX5_sizes 27 = .ok (.ireturn, 1) := by decide +kernel
theorem dX5_power_0 : decode cX5_power 0 = .ok (.iconst 1, 1) := by decide +kernel
theorem dX5_power_1 : decode cX5_power 1 = .ok (.istore_n 2, 1) := by decide +kernel
theorem dX5_power_2 : decode cX5_power 2 = .ok (.iconst 0, 1) := by decide +kernel
theorem dX5_power_3 : decode cX5_power 3 = .ok (.istore_n 3, 1) := by decide +kernel
theorem dX5_power_4 : decode cX5_power 4 = .ok (.iload_n 3, 1) := by decide +kernel
theorem dX5_power_5 : decode cX5_power 5 = .ok (.iload_n 1, 1) := by decide +kernel
theorem dX5_power_6 : decode cX5_power 6 = .ok (.if_icmp .ge 13, 3) := by decide +kernel
theorem dX5_power_9 : decode cX5_power 9 = .ok (.iload_n 2, 1) := by decide +kernel
theorem dX5_power_10 : decode cX5_power 10 = .ok (.iload_n 0, 1) := by decide +kernel
theorem dX5_power_11 : decode cX5_power 11 = .ok (.imul, 1) := by decide +kernel
theorem dX5_power_12 : decode cX5_power 12 = .ok (.istore_n 2, 1) := by decide +kernel
theorem dX5_power_13 : decode cX5_power 13 = .ok (.iinc 3 1, 3) := by decide +kernel
theorem dX5_power_16 : decode cX5_power 16 = .ok (.goto (-12), 3) := by decide +kernel
theorem dX5_power_19 : decode cX5_power 19 = .ok (.iload_n 2, 1) := by decide +kernel
theorem dX5_power_20 : decode cX5_power 20 = .ok (.ireturn, 1) := by decide +kernel
theorem dX5_plan_0 : decode cX5_plan 0 = .ok (.iload_n 1, 1) := by decide +kernel
theorem dX5_plan_1 : decode cX5_plan 1 = .ok (.i2l, 1) := by decide +kernel
theorem dX5_plan_2 : decode cX5_plan 2 = .ok (.lconst 1, 1) := by decide +kernel
theorem dX5_plan_3 : decode cX5_plan 3 = .ok (.ldc2_w 132, 3) := by decide +kernel
theorem dX5_plan_6 : decode cX5_plan 6 = .ok (.invokestatic 53, 3) := by decide +kernel
theorem dX5_plan_9 : decode cX5_plan 9 = .ok (.ifCond .eq 13, 3) := by decide +kernel
theorem dX5_plan_12 : decode cX5_plan 12 = .ok (.iload_n 2, 1) := by decide +kernel
theorem dX5_plan_13 : decode cX5_plan 13 = .ok (.ifCond .ge 16, 3) := by decide +kernel
theorem dX5_plan_16 : decode cX5_plan 16 = .ok (.iload_n 2, 1) := by decide +kernel
theorem dX5_plan_17 : decode cX5_plan 17 = .ok (.bipush (-2), 2) := by decide +kernel
theorem dX5_plan_19 : decode cX5_plan 19 = .ok (.if_icmp .eq 10, 3) := by decide +kernel
theorem dX5_plan_22 : decode cX5_plan 22 = .ok (.aload_n 0, 1) := by decide +kernel
theorem dX5_plan_23 : decode cX5_plan 23 = .ok (.bipush (-10), 2) := by decide +kernel
theorem dX5_plan_25 : decode cX5_plan 25 = .ok (.invokevirtual 67, 3) := by decide +kernel
theorem dX5_plan_28 : decode cX5_plan 28 = .ok (.ireturn, 1) := by decide +kernel
theorem dX5_plan_29 : decode cX5_plan 29 = .ok (.aload_n 0, 1) := by decide +kernel
theorem dX5_plan_30 : decode cX5_plan 30 = .ok (.invokevirtual 49, 3) := by decide +kernel
theorem dX5_plan_33 : decode cX5_plan 33 = .ok (.iconst 1, 1) := by decide +kernel
theorem dX5_plan_34 : decode cX5_plan 34 = .ok (.iadd, 1) := by decide +kernel
theorem dX5_plan_35 : decode cX5_plan 35 = .ok (.istore_n 3, 1) := by decide +kernel
theorem dX5_plan_36 : decode cX5_plan 36 = .ok (.iconst 0, 1) := by decide +kernel
theorem dX5_plan_37 : decode cX5_plan 37 = .ok (.istore 4, 2) := by decide +kernel
theorem dX5_plan_39 : decode cX5_plan 39 = .ok (.ldc 142, 2) := by decide +kernel
theorem dX5_plan_41 : decode cX5_plan 41 = .ok (.istore 5, 2) := by decide +kernel
theorem dX5_plan_43 : decode cX5_plan 43 = .ok (.ldc 142, 2) := by decide +kernel
theorem dX5_plan_45 : decode cX5_plan 45 = .ok (.istore 6, 2) := by decide +kernel
theorem dX5_plan_47 : decode cX5_plan 47 = .ok (.iconst 0, 1) := by decide +kernel
theorem dX5_plan_48 : decode cX5_plan 48 = .ok (.istore 7, 2) := by decide +kernel
theorem dX5_plan_50 : decode cX5_plan 50 = .ok (.iload 7, 2) := by decide +kernel
theorem dX5_plan_52 : decode cX5_plan 52 = .ok (.iload_n 3, 1) := by decide +kernel
theorem dX5_plan_53 : decode cX5_plan 53 = .ok (.iload_n 1, 1) := by decide +kernel
theorem dX5_plan_54 : decode cX5_plan 54 = .ok (.invokestatic 143, 3) := by decide +kernel
theorem dX5_plan_57 : decode cX5_plan 57 = .ok (.if_icmp .ge 117, 3) := by decide +kernel
theorem dX5_plan_60 : decode cX5_plan 60 = .ok (.iconst 0, 1) := by decide +kernel
theorem dX5_plan_61 : decode cX5_plan 61 = .ok (.istore 8, 2) := by decide +kernel
theorem dX5_plan_63 : decode cX5_plan 63 = .ok (.aload_n 0, 1) := by decide +kernel
theorem dX5_plan_64 : decode cX5_plan 64 = .ok (.invokevirtual 136, 3) := by decide +kernel
theorem dX5_plan_67 : decode cX5_plan 67 = .ok (.iload_n 1, 1) := by decide +kernel
theorem dX5_plan_68 : decode cX5_plan 68 = .ok (.iconst 1, 1) := by decide +kernel
theorem dX5_plan_69 : decode cX5_plan 69 = .ok (.isub, 1) := by decide +kernel
theorem dX5_plan_70 : decode cX5_plan 70 = .ok (.istore 9, 2) := by decide +kernel
theorem dX5_plan_72 : decode cX5_plan 72 = .ok (.iload 9, 2) := by decide +kernel
theorem dX5_plan_74 : decode cX5_plan 74 = .ok (.ifCond .lt 51, 3) := by decide +kernel
theorem dX5_plan_77 : decode cX5_plan 77 = .ok (.iload 7, 2) := by decide +kernel
theorem dX5_plan_79 : decode cX5_plan 79 = .ok (.iload_n 3, 1) := by decide +kernel
theorem dX5_plan_80 : decode cX5_plan 80 = .ok (.iload 9, 2) := by decide +kernel
theorem dX5_plan_82 : decode cX5_plan 82 = .ok (.invokestatic 143, 3) := by decide +kernel
theorem dX5_plan_85 : decode cX5_plan 85 = .ok (.idiv, 1) := by decide +kernel
theorem dX5_plan_86 : decode cX5_plan 86 = .ok (.iload_n 3, 1) := by decide +kernel
theorem dX5_plan_87 : decode cX5_plan 87 = .ok (.irem, 1) := by decide +kernel
theorem dX5_plan_88 : decode cX5_plan 88 = .ok (.istore 10, 2) := by decide +kernel
theorem dX5_plan_90 : decode cX5_plan 90 = .ok (.iload 8, 2) := by decide +kernel
theorem dX5_plan_92 : decode cX5_plan 92 = .ok (.aload_n 0, 1) := by decide +kernel
theorem dX5_plan_93 : decode cX5_plan 93 = .ok (.aload_n 0, 1) := by decide +kernel
theorem dX5_plan_94 : decode cX5_plan 94 = .ok (.getfield 27, 3) := by decide +kernel
theorem dX5_plan_97 : decode cX5_plan 97 = .ok (.iload 10, 2) := by decide +kernel
theorem dX5_plan_99 : decode cX5_plan 99 = .ok (.aload_n 0, 1) := by decide +kernel
theorem dX5_plan_100 : decode cX5_plan 100 = .ok (.invokevirtual 49, 3) := by decide +kernel
theorem dX5_plan_103 : decode cX5_plan 103 = .ok (.if_icmp .ne 8, 3) := by decide +kernel
theorem dX5_plan_106 : decode cX5_plan 106 = .ok (.bipush 7, 2) := by decide +kernel
theorem dX5_plan_108 : decode cX5_plan 108 = .ok (.goto 5, 3) := by decide +kernel
theorem dX5_plan_111 : decode cX5_plan 111 = .ok (.iload 10, 2) := by decide +kernel
theorem dX5_plan_113 : decode cX5_plan 113 = .ok (.invokevirtual 126, 3) := by decide +kernel
theorem dX5_plan_116 : decode cX5_plan 116 = .ok (.iadd, 1) := by decide +kernel
theorem dX5_plan_117 : decode cX5_plan 117 = .ok (.istore 8, 2) := by decide +kernel
theorem dX5_plan_119 : decode cX5_plan 119 = .ok (.iinc 9 (-1), 3) := by decide +kernel
theorem dX5_plan_122 : decode cX5_plan 122 = .ok (.goto (-50), 3) := by decide +kernel
theorem dX5_plan_125 : decode cX5_plan 125 = .ok (.iload 8, 2) := by decide +kernel
theorem dX5_plan_127 : decode cX5_plan 127 = .ok (.iload 5, 2) := by decide +kernel
theorem dX5_plan_129 : decode cX5_plan 129 = .ok (.if_icmp .lt 22, 3) := by decide +kernel
theorem dX5_plan_132 : decode cX5_plan 132 = .ok (.iload 8, 2) := by decide +kernel
theorem dX5_plan_134 : decode cX5_plan 134 = .ok (.iload 5, 2) := by decide +kernel
theorem dX5_plan_136 : decode cX5_plan 136 = .ok (.if_icmp .ne 32, 3) := by decide +kernel
theorem dX5_plan_139 : decode cX5_plan 139 = .ok (.aload_n 0, 1) := by decide +kernel
theorem dX5_plan_140 : decode cX5_plan 140 = .ok (.getfield 27, 3) := by decide +kernel
theorem dX5_plan_143 : decode cX5_plan 143 = .ok (.invokestatic 146, 3) := by decide +kernel
theorem dX5_plan_146 : decode cX5_plan 146 = .ok (.iload 6, 2) := by decide +kernel
theorem dX5_plan_148 : decode cX5_plan 148 = .ok (.if_icmp .ge 20, 3) := by decide +kernel
theorem dX5_plan_151 : decode cX5_plan 151 = .ok (.iload 7, 2) := by decide +kernel
theorem dX5_plan_153 : decode cX5_plan 153 = .ok (.istore 4, 2) := by decide +kernel
theorem dX5_plan_155 : decode cX5_plan 155 = .ok (.iload 8, 2) := by decide +kernel
theorem dX5_plan_157 : decode cX5_plan 157 = .ok (.istore 5, 2) := by decide +kernel
theorem dX5_plan_159 : decode cX5_plan 159 = .ok (.aload_n 0, 1) := by decide +kernel
theorem dX5_plan_160 : decode cX5_plan 160 = .ok (.getfield 27, 3) := by decide +kernel
theorem dX5_plan_163 : decode cX5_plan 163 = .ok (.invokestatic 146, 3) := by decide +kernel
theorem dX5_plan_166 : decode cX5_plan 166 = .ok (.istore 6, 2) := by decide +kernel
theorem dX5_plan_168 : decode cX5_plan 168 = .ok (.iinc 7 1, 3) := by decide +kernel
theorem dX5_plan_171 : decode cX5_plan 171 = .ok (.goto (-121), 3) := by decide +kernel
theorem dX5_plan_174 : decode cX5_plan 174 = .ok (.iload_n 2, 1) := by decide +kernel
theorem dX5_plan_175 : decode cX5_plan 175 = .ok (.iload_n 1, 1) := by decide +kernel
theorem dX5_plan_176 : decode cX5_plan 176 = .ok (.if_icmp .lt 6, 3) := by decide +kernel
theorem dX5_plan_179 : decode cX5_plan 179 = .ok (.bipush (-5), 2) := by decide +kernel
theorem dX5_plan_181 : decode cX5_plan 181 = .ok (.ireturn, 1) := by decide +kernel
theorem dX5_plan_182 : decode cX5_plan 182 = .ok (.iload_n 2, 1) := by decide +kernel
theorem dX5_plan_183 : decode cX5_plan 183 = .ok (.ifCond .ge 7, 3) := by decide +kernel
theorem dX5_plan_186 : decode cX5_plan 186 = .ok (.iconst 0, 1) := by decide +kernel
theorem dX5_plan_187 : decode cX5_plan 187 = .ok (.goto 17, 3) := by decide +kernel
theorem dX5_plan_190 : decode cX5_plan 190 = .ok (.iload 4, 2) := by decide +kernel
theorem dX5_plan_192 : decode cX5_plan 192 = .ok (.iload_n 3, 1) := by decide +kernel
theorem dX5_plan_193 : decode cX5_plan 193 = .ok (.iload_n 1, 1) := by decide +kernel
theorem dX5_plan_194 : decode cX5_plan 194 = .ok (.iconst 1, 1) := by decide +kernel
theorem dX5_plan_195 : decode cX5_plan 195 = .ok (.isub, 1) := by decide +kernel
theorem dX5_plan_196 : decode cX5_plan 196 = .ok (.iload_n 2, 1) := by decide +kernel
theorem dX5_plan_197 : decode cX5_plan 197 = .ok (.isub, 1) := by decide +kernel
theorem dX5_plan_198 : decode cX5_plan 198 = .ok (.invokestatic 143, 3) := by decide +kernel
theorem dX5_plan_201 : decode cX5_plan 201 = .ok (.idiv, 1) := by decide +kernel
theorem dX5_plan_202 : decode cX5_plan 202 = .ok (.iload_n 3, 1) := by decide +kernel
theorem dX5_plan_203 : decode cX5_plan 203 = .ok (.irem, 1) := by decide +kernel
theorem dX5_plan_204 : decode cX5_plan 204 = .ok (.istore 7, 2) := by decide +kernel
theorem dX5_plan_206 : decode cX5_plan 206 = .ok (.iload_n 2, 1) := by decide +kernel
theorem dX5_plan_207 : decode cX5_plan 207 = .ok (.ifCond .ge 8, 3) := by decide +kernel
theorem dX5_plan_210 : decode cX5_plan 210 = .ok (.iload 5, 2) := by decide +kernel
theorem dX5_plan_212 : decode cX5_plan 212 = .ok (.goto 18, 3) := by decide +kernel
theorem dX5_plan_215 : decode cX5_plan 215 = .ok (.iload 7, 2) := by decide +kernel
theorem dX5_plan_217 : decode cX5_plan 217 = .ok (.aload_n 0, 1) := by decide +kernel
theorem dX5_plan_218 : decode cX5_plan 218 = .ok (.invokevirtual 49, 3) := by decide +kernel
theorem dX5_plan_221 : decode cX5_plan 221 = .ok (.if_icmp .ne 7, 3) := by decide +kernel
theorem dX5_plan_224 : decode cX5_plan 224 = .ok (.iconst (-1), 1) := by decide +kernel
theorem dX5_plan_225 : decode cX5_plan 225 = .ok (.goto 5, 3) := by decide +kernel
theorem dX5_plan_228 : decode cX5_plan 228 = .ok (.iload 7, 2) := by decide +kernel
theorem dX5_plan_230 : decode cX5_plan 230 = .ok (.ireturn, 1) := by decide +kernel
theorem dX5_askFirst_0 : decode cX5_askFirst 0 = .ok (.iload_n 1, 1) := by decide +kernel
theorem dX5_askFirst_1 : decode cX5_askFirst 1 = .ok (.i2l, 1) := by decide +kernel
theorem dX5_askFirst_2 : decode cX5_askFirst 2 = .ok (.lconst 1, 1) := by decide +kernel
theorem dX5_askFirst_3 : decode cX5_askFirst 3 = .ok (.ldc2_w 134, 3) := by decide +kernel
theorem dX5_askFirst_6 : decode cX5_askFirst 6 = .ok (.invokestatic 53, 3) := by decide +kernel
theorem dX5_askFirst_9 : decode cX5_askFirst 9 = .ok (.ifCond .eq 13, 3) := by decide +kernel
theorem dX5_askFirst_12 : decode cX5_askFirst 12 = .ok (.iload_n 2, 1) := by decide +kernel
theorem dX5_askFirst_13 : decode cX5_askFirst 13 = .ok (.i2l, 1) := by decide +kernel
theorem dX5_askFirst_14 : decode cX5_askFirst 14 = .ok (.lconst 0, 1) := by decide +kernel
theorem dX5_askFirst_15 : decode cX5_askFirst 15 = .ok (.lconst 1, 1) := by decide +kernel
theorem dX5_askFirst_16 : decode cX5_askFirst 16 = .ok (.invokestatic 53, 3) := by decide +kernel
theorem dX5_askFirst_19 : decode cX5_askFirst 19 = .ok (.ifCond .ne 10, 3) := by decide +kernel
theorem dX5_askFirst_22 : decode cX5_askFirst 22 = .ok (.aload_n 0, 1) := by decide +kernel
theorem dX5_askFirst_23 : decode cX5_askFirst 23 = .ok (.bipush (-2), 2) := by decide +kernel
theorem dX5_askFirst_25 : decode cX5_askFirst 25 = .ok (.invokevirtual 67, 3) := by decide +kernel
theorem dX5_askFirst_28 : decode cX5_askFirst 28 = .ok (.ireturn, 1) := by decide +kernel
theorem dX5_askFirst_29 : decode cX5_askFirst 29 = .ok (.iconst (-1), 1) := by decide +kernel
theorem dX5_askFirst_30 : decode cX5_askFirst 30 = .ok (.istore_n 3, 1) := by decide +kernel
theorem dX5_askFirst_31 : decode cX5_askFirst 31 = .ok (.ldc 142, 2) := by decide +kernel
theorem dX5_askFirst_33 : decode cX5_askFirst 33 = .ok (.istore 4, 2) := by decide +kernel
theorem dX5_askFirst_35 : decode cX5_askFirst 35 = .ok (.iconst 0, 1) := by decide +kernel
theorem dX5_askFirst_36 : decode cX5_askFirst 36 = .ok (.istore 5, 2) := by decide +kernel
theorem dX5_askFirst_38 : decode cX5_askFirst 38 = .ok (.iload 5, 2) := by decide +kernel
theorem dX5_askFirst_40 : decode cX5_askFirst 40 = .ok (.aload_n 0, 1) := by decide +kernel
theorem dX5_askFirst_41 : decode cX5_askFirst 41 = .ok (.invokevirtual 49, 3) := by decide +kernel
theorem dX5_askFirst_44 : decode cX5_askFirst 44 = .ok (.if_icmp .ge 67, 3) := by decide +kernel
theorem dX5_askFirst_47 : decode cX5_askFirst 47 = .ok (.aload_n 0, 1) := by decide +kernel
theorem dX5_askFirst_48 : decode cX5_askFirst 48 = .ok (.invokevirtual 136, 3) := by decide +kernel
theorem dX5_askFirst_51 : decode cX5_askFirst 51 = .ok (.aload_n 0, 1) := by decide +kernel
theorem dX5_askFirst_52 : decode cX5_askFirst 52 = .ok (.aload_n 0, 1) := by decide +kernel
theorem dX5_askFirst_53 : decode cX5_askFirst 53 = .ok (.getfield 27, 3) := by decide +kernel
theorem dX5_askFirst_56 : decode cX5_askFirst 56 = .ok (.iload 5, 2) := by decide +kernel
theorem dX5_askFirst_58 : decode cX5_askFirst 58 = .ok (.invokevirtual 126, 3) := by decide +kernel
theorem dX5_askFirst_61 : decode cX5_askFirst 61 = .ok (.istore 6, 2) := by decide +kernel
theorem dX5_askFirst_63 : decode cX5_askFirst 63 = .ok (.iload 6, 2) := by decide +kernel
theorem dX5_askFirst_65 : decode cX5_askFirst 65 = .ok (.aload_n 0, 1) := by decide +kernel
theorem dX5_askFirst_66 : decode cX5_askFirst 66 = .ok (.iload_n 1, 1) := by decide +kernel
theorem dX5_askFirst_67 : decode cX5_askFirst 67 = .ok (.iconst 1, 1) := by decide +kernel
theorem dX5_askFirst_68 : decode cX5_askFirst 68 = .ok (.isub, 1) := by decide +kernel
theorem dX5_askFirst_69 : decode cX5_askFirst 69 = .ok (.invokevirtual 139, 3) := by decide +kernel
theorem dX5_askFirst_72 : decode cX5_askFirst 72 = .ok (.iadd, 1) := by decide +kernel
theorem dX5_askFirst_73 : decode cX5_askFirst 73 = .ok (.istore 6, 2) := by decide +kernel
theorem dX5_askFirst_75 : decode cX5_askFirst 75 = .ok (.iload 6, 2) := by decide +kernel
theorem dX5_askFirst_77 : decode cX5_askFirst 77 = .ok (.iload 4, 2) := by decide +kernel
theorem dX5_askFirst_79 : decode cX5_askFirst 79 = .ok (.if_icmp .ge 8, 3) := by decide +kernel
theorem dX5_askFirst_82 : decode cX5_askFirst 82 = .ok (.iload 5, 2) := by decide +kernel
theorem dX5_askFirst_84 : decode cX5_askFirst 84 = .ok (.goto 4, 3) := by decide +kernel
theorem dX5_askFirst_87 : decode cX5_askFirst 87 = .ok (.iload_n 3, 1) := by decide +kernel
theorem dX5_askFirst_88 : decode cX5_askFirst 88 = .ok (.istore_n 3, 1) := by decide +kernel
theorem dX5_askFirst_89 : decode cX5_askFirst 89 = .ok (.iload 6, 2) := by decide +kernel
theorem dX5_askFirst_91 : decode cX5_askFirst 91 = .ok (.iload 4, 2) := by decide +kernel
theorem dX5_askFirst_93 : decode cX5_askFirst 93 = .ok (.if_icmp .ge 8, 3) := by decide +kernel
theorem dX5_askFirst_96 : decode cX5_askFirst 96 = .ok (.iload 6, 2) := by decide +kernel
theorem dX5_askFirst_98 : decode cX5_askFirst 98 = .ok (.goto 5, 3) := by decide +kernel
theorem dX5_askFirst_101 : decode cX5_askFirst 101 = .ok (.iload 4, 2) := by decide +kernel
theorem dX5_askFirst_103 : decode cX5_askFirst 103 = .ok (.istore 4, 2) := by decide +kernel
theorem dX5_askFirst_105 : decode cX5_askFirst 105 = .ok (.iinc 5 1, 3) := by decide +kernel
theorem dX5_askFirst_108 : decode cX5_askFirst 108 = .ok (.goto (-70), 3) := by decide +kernel
theorem dX5_askFirst_111 : decode cX5_askFirst 111 = .ok (.iload_n 3, 1) := by decide +kernel
theorem dX5_askFirst_112 : decode cX5_askFirst 112 = .ok (.iconst (-1), 1) := by decide +kernel
theorem dX5_askFirst_113 : decode cX5_askFirst 113 = .ok (.if_icmp .eq 7, 3) := by decide +kernel
theorem dX5_askFirst_116 : decode cX5_askFirst 116 = .ok (.iload_n 2, 1) := by decide +kernel
theorem dX5_askFirst_117 : decode cX5_askFirst 117 = .ok (.ifCond .ne 7, 3) := by decide +kernel
theorem dX5_askFirst_120 : decode cX5_askFirst 120 = .ok (.iload_n 3, 1) := by decide +kernel
theorem dX5_askFirst_121 : decode cX5_askFirst 121 = .ok (.goto 5, 3) := by decide +kernel
theorem dX5_askFirst_124 : decode cX5_askFirst 124 = .ok (.iload 4, 2) := by decide +kernel
theorem dX5_askFirst_126 : decode cX5_askFirst 126 = .ok (.ireturn, 1) := by decide +kernel
theorem dX5_highest_0 : decode cX5_highest 0 = .ok (.bipush 7, 2) := by decide +kernel
theorem dX5_highest_2 : decode cX5_highest 2 = .ok (.istore_n 1, 1) := by decide +kernel
theorem dX5_highest_3 : decode cX5_highest 3 = .ok (.iconst 0, 1) := by decide +kernel
theorem dX5_highest_4 : decode cX5_highest 4 = .ok (.istore_n 2, 1) := by decide +kernel
theorem dX5_highest_5 : decode cX5_highest 5 = .ok (.iload_n 2, 1) := by decide +kernel
theorem dX5_highest_6 : decode cX5_highest 6 = .ok (.aload_n 0, 1) := by decide +kernel
theorem dX5_highest_7 : decode cX5_highest 7 = .ok (.iconst 0, 1) := by decide +kernel
theorem dX5_highest_8 : decode cX5_highest 8 = .ok (.iaload, 1) := by decide +kernel
theorem dX5_highest_9 : decode cX5_highest 9 = .ok (.if_icmp .ge 36, 3) := by decide +kernel
theorem dX5_highest_12 : decode cX5_highest 12 = .ok (.iload_n 1, 1) := by decide +kernel
theorem dX5_highest_13 : decode cX5_highest 13 = .ok (.bipush 7, 2) := by decide +kernel
theorem dX5_highest_15 : decode cX5_highest 15 = .ok (.if_icmp .eq 18, 3) := by decide +kernel
theorem dX5_highest_18 : decode cX5_highest 18 = .ok (.aload_n 0, 1) := by decide +kernel
theorem dX5_highest_19 : decode cX5_highest 19 = .ok (.bipush 7, 2) := by decide +kernel
theorem dX5_highest_21 : decode cX5_highest 21 = .ok (.iload_n 2, 1) := by decide +kernel
theorem dX5_highest_22 : decode cX5_highest 22 = .ok (.iadd, 1) := by decide +kernel
theorem dX5_highest_23 : decode cX5_highest 23 = .ok (.iaload, 1) := by decide +kernel
theorem dX5_highest_24 : decode cX5_highest 24 = .ok (.aload_n 0, 1) := by decide +kernel
theorem dX5_highest_25 : decode cX5_highest 25 = .ok (.bipush 7, 2) := by decide +kernel
theorem dX5_highest_27 : decode cX5_highest 27 = .ok (.iload_n 1, 1) := by decide +kernel
theorem dX5_highest_28 : decode cX5_highest 28 = .ok (.iadd, 1) := by decide +kernel
theorem dX5_highest_29 : decode cX5_highest 29 = .ok (.iaload, 1) := by decide +kernel
theorem dX5_highest_30 : decode cX5_highest 30 = .ok (.if_icmp .le 7, 3) := by decide +kernel
theorem dX5_highest_33 : decode cX5_highest 33 = .ok (.iload_n 2, 1) := by decide +kernel
theorem dX5_highest_34 : decode cX5_highest 34 = .ok (.goto 4, 3) := by decide +kernel
theorem dX5_highest_37 : decode cX5_highest 37 = .ok (.iload_n 1, 1) := by decide +kernel
theorem dX5_highest_38 : decode cX5_highest 38 = .ok (.istore_n 1, 1) := by decide +kernel
theorem dX5_highest_39 : decode cX5_highest 39 = .ok (.iinc 2 1, 3) := by decide +kernel
theorem dX5_highest_42 : decode cX5_highest 42 = .ok (.goto (-37), 3) := by decide +kernel
theorem dX5_highest_45 : decode cX5_highest 45 = .ok (.iload_n 1, 1) := by decide +kernel
theorem dX5_highest_46 : decode cX5_highest 46 = .ok (.ireturn, 1) := by decide +kernel
theorem dX5_calm_0 : decode cX5_calm 0 = .ok (.iload_n 1, 1) := by decide +kernel
theorem dX5_calm_1 : decode cX5_calm 1 = .ok (.i2l, 1) := by decide +kernel
theorem dX5_calm_2 : decode cX5_calm 2 = .ok (.lconst 1, 1) := by decide +kernel
theorem dX5_calm_3 : decode cX5_calm 3 = .ok (.ldc2_w 134, 3) := by decide +kernel
theorem dX5_calm_6 : decode cX5_calm 6 = .ok (.invokestatic 53, 3) := by decide +kernel
theorem dX5_calm_9 : decode cX5_calm 9 = .ok (.ifCond .eq 13, 3) := by decide +kernel
theorem dX5_calm_12 : decode cX5_calm 12 = .ok (.iload_n 2, 1) := by decide +kernel
theorem dX5_calm_13 : decode cX5_calm 13 = .ok (.i2l, 1) := by decide +kernel
theorem dX5_calm_14 : decode cX5_calm 14 = .ok (.lconst 0, 1) := by decide +kernel
theorem dX5_calm_15 : decode cX5_calm 15 = .ok (.lconst 1, 1) := by decide +kernel
theorem dX5_calm_16 : decode cX5_calm 16 = .ok (.invokestatic 53, 3) := by decide +kernel
theorem dX5_calm_19 : decode cX5_calm 19 = .ok (.ifCond .ne 10, 3) := by decide +kernel
theorem dX5_calm_22 : decode cX5_calm 22 = .ok (.aload_n 0, 1) := by decide +kernel
theorem dX5_calm_23 : decode cX5_calm 23 = .ok (.bipush (-2), 2) := by decide +kernel
theorem dX5_calm_25 : decode cX5_calm 25 = .ok (.invokevirtual 67, 3) := by decide +kernel
theorem dX5_calm_28 : decode cX5_calm 28 = .ok (.ireturn, 1) := by decide +kernel
theorem dX5_calm_29 : decode cX5_calm 29 = .ok (.iconst (-1), 1) := by decide +kernel
theorem dX5_calm_30 : decode cX5_calm 30 = .ok (.istore_n 3, 1) := by decide +kernel
theorem dX5_calm_31 : decode cX5_calm 31 = .ok (.ldc 142, 2) := by decide +kernel
theorem dX5_calm_33 : decode cX5_calm 33 = .ok (.istore 4, 2) := by decide +kernel
theorem dX5_calm_35 : decode cX5_calm 35 = .ok (.iconst 0, 1) := by decide +kernel
theorem dX5_calm_36 : decode cX5_calm 36 = .ok (.istore 5, 2) := by decide +kernel
theorem dX5_calm_38 : decode cX5_calm 38 = .ok (.iload 5, 2) := by decide +kernel
theorem dX5_calm_40 : decode cX5_calm 40 = .ok (.bipush 6, 2) := by decide +kernel
theorem dX5_calm_42 : decode cX5_calm 42 = .ok (.if_icmp .ge 89, 3) := by decide +kernel
theorem dX5_calm_45 : decode cX5_calm 45 = .ok (.iconst 0, 1) := by decide +kernel
theorem dX5_calm_46 : decode cX5_calm 46 = .ok (.istore 6, 2) := by decide +kernel
theorem dX5_calm_48 : decode cX5_calm 48 = .ok (.aload_n 0, 1) := by decide +kernel
theorem dX5_calm_49 : decode cX5_calm 49 = .ok (.invokevirtual 136, 3) := by decide +kernel
theorem dX5_calm_52 : decode cX5_calm 52 = .ok (.aload_n 0, 1) := by decide +kernel
theorem dX5_calm_53 : decode cX5_calm 53 = .ok (.getfield 27, 3) := by decide +kernel
theorem dX5_calm_56 : decode cX5_calm 56 = .ok (.iconst 4, 1) := by decide +kernel
theorem dX5_calm_57 : decode cX5_calm 57 = .ok (.iload 5, 2) := by decide +kernel
theorem dX5_calm_59 : decode cX5_calm 59 = .ok (.iastore, 1) := by decide +kernel
theorem dX5_calm_60 : decode cX5_calm 60 = .ok (.iconst 0, 1) := by decide +kernel
theorem dX5_calm_61 : decode cX5_calm 61 = .ok (.istore 7, 2) := by decide +kernel
theorem dX5_calm_63 : decode cX5_calm 63 = .ok (.iload 7, 2) := by decide +kernel
theorem dX5_calm_65 : decode cX5_calm 65 = .ok (.iload_n 1, 1) := by decide +kernel
theorem dX5_calm_66 : decode cX5_calm 66 = .ok (.if_icmp .ge 29, 3) := by decide +kernel
theorem dX5_calm_69 : decode cX5_calm 69 = .ok (.iload 6, 2) := by decide +kernel
theorem dX5_calm_71 : decode cX5_calm 71 = .ok (.aload_n 0, 1) := by decide +kernel
theorem dX5_calm_72 : decode cX5_calm 72 = .ok (.aload_n 0, 1) := by decide +kernel
theorem dX5_calm_73 : decode cX5_calm 73 = .ok (.getfield 27, 3) := by decide +kernel
theorem dX5_calm_76 : decode cX5_calm 76 = .ok (.aload_n 0, 1) := by decide +kernel
theorem dX5_calm_77 : decode cX5_calm 77 = .ok (.getfield 27, 3) := by decide +kernel
theorem dX5_calm_80 : decode cX5_calm 80 = .ok (.invokestatic 149, 3) := by decide +kernel
theorem dX5_calm_83 : decode cX5_calm 83 = .ok (.invokevirtual 126, 3) := by decide +kernel
theorem dX5_calm_86 : decode cX5_calm 86 = .ok (.iadd, 1) := by decide +kernel
theorem dX5_calm_87 : decode cX5_calm 87 = .ok (.istore 6, 2) := by decide +kernel
theorem dX5_calm_89 : decode cX5_calm 89 = .ok (.iinc 7 1, 3) := by decide +kernel
theorem dX5_calm_92 : decode cX5_calm 92 = .ok (.goto (-29), 3) := by decide +kernel
theorem dX5_calm_95 : decode cX5_calm 95 = .ok (.iload 6, 2) := by decide +kernel
theorem dX5_calm_97 : decode cX5_calm 97 = .ok (.iload 4, 2) := by decide +kernel
theorem dX5_calm_99 : decode cX5_calm 99 = .ok (.if_icmp .ge 8, 3) := by decide +kernel
theorem dX5_calm_102 : decode cX5_calm 102 = .ok (.iload 5, 2) := by decide +kernel
theorem dX5_calm_104 : decode cX5_calm 104 = .ok (.goto 4, 3) := by decide +kernel
theorem dX5_calm_107 : decode cX5_calm 107 = .ok (.iload_n 3, 1) := by decide +kernel
theorem dX5_calm_108 : decode cX5_calm 108 = .ok (.istore_n 3, 1) := by decide +kernel
theorem dX5_calm_109 : decode cX5_calm 109 = .ok (.iload 6, 2) := by decide +kernel
theorem dX5_calm_111 : decode cX5_calm 111 = .ok (.iload 4, 2) := by decide +kernel
theorem dX5_calm_113 : decode cX5_calm 113 = .ok (.if_icmp .ge 8, 3) := by decide +kernel
theorem dX5_calm_116 : decode cX5_calm 116 = .ok (.iload 6, 2) := by decide +kernel
theorem dX5_calm_118 : decode cX5_calm 118 = .ok (.goto 5, 3) := by decide +kernel
theorem dX5_calm_121 : decode cX5_calm 121 = .ok (.iload 4, 2) := by decide +kernel
theorem dX5_calm_123 : decode cX5_calm 123 = .ok (.istore 4, 2) := by decide +kernel
theorem dX5_calm_125 : decode cX5_calm 125 = .ok (.iinc 5 1, 3) := by decide +kernel
theorem dX5_calm_128 : decode cX5_calm 128 = .ok (.goto (-90), 3) := by decide +kernel
theorem dX5_calm_131 : decode cX5_calm 131 = .ok (.iload_n 2, 1) := by decide +kernel
theorem dX5_calm_132 : decode cX5_calm 132 = .ok (.ifCond .ne 7, 3) := by decide +kernel
theorem dX5_calm_135 : decode cX5_calm 135 = .ok (.iload_n 3, 1) := by decide +kernel
theorem dX5_calm_136 : decode cX5_calm 136 = .ok (.goto 5, 3) := by decide +kernel
theorem dX5_calm_139 : decode cX5_calm 139 = .ok (.iload 4, 2) := by decide +kernel
theorem dX5_calm_141 : decode cX5_calm 141 = .ok (.ireturn, 1) := by decide +kernel
theorem dX5_seen_0 : decode cX5_seen 0 = .ok (.aload_n 0, 1) := by decide +kernel
theorem dX5_seen_1 : decode cX5_seen 1 = .ok (.iload_n 1, 1) := by decide +kernel
theorem dX5_seen_2 : decode cX5_seen 2 = .ok (.invokevirtual 120, 3) := by decide +kernel
theorem dX5_seen_5 : decode cX5_seen 5 = .ok (.ifCond .eq 35, 3) := by decide +kernel
theorem dX5_seen_8 : decode cX5_seen 8 = .ok (.iload_n 2, 1) := by decide +kernel
theorem dX5_seen_9 : decode cX5_seen 9 = .ok (.i2l, 1) := by decide +kernel
theorem dX5_seen_10 : decode cX5_seen 10 = .ok (.lconst 0, 1) := by decide +kernel
theorem dX5_seen_11 : decode cX5_seen 11 = .ok (.ldc2_w 152, 3) := by decide +kernel
theorem dX5_seen_14 : decode cX5_seen 14 = .ok (.invokestatic 53, 3) := by decide +kernel
theorem dX5_seen_17 : decode cX5_seen 17 = .ok (.ifCond .eq 23, 3) := by decide +kernel
theorem dX5_seen_20 : decode cX5_seen 20 = .ok (.iload_n 3, 1) := by decide +kernel
theorem dX5_seen_21 : decode cX5_seen 21 = .ok (.invokestatic 76, 3) := by decide +kernel
theorem dX5_seen_24 : decode cX5_seen 24 = .ok (.ifCond .eq 16, 3) := by decide +kernel
theorem dX5_seen_27 : decode cX5_seen 27 = .ok (.iload 4, 2) := by decide +kernel
theorem dX5_seen_29 : decode cX5_seen 29 = .ok (.i2l, 1) := by decide +kernel
theorem dX5_seen_30 : decode cX5_seen 30 = .ok (.lconst 0, 1) := by decide +kernel
theorem dX5_seen_31 : decode cX5_seen 31 = .ok (.ldc2_w 152, 3) := by decide +kernel
theorem dX5_seen_34 : decode cX5_seen 34 = .ok (.invokestatic 53, 3) := by decide +kernel
theorem dX5_seen_37 : decode cX5_seen 37 = .ok (.ifCond .ne 10, 3) := by decide +kernel
theorem dX5_seen_40 : decode cX5_seen 40 = .ok (.aload_n 0, 1) := by decide +kernel
theorem dX5_seen_41 : decode cX5_seen 41 = .ok (.bipush (-2), 2) := by decide +kernel
theorem dX5_seen_43 : decode cX5_seen 43 = .ok (.invokevirtual 67, 3) := by decide +kernel
theorem dX5_seen_46 : decode cX5_seen 46 = .ok (.ireturn, 1) := by decide +kernel
theorem dX5_seen_47 : decode cX5_seen 47 = .ok (.aload_n 0, 1) := by decide +kernel
theorem dX5_seen_48 : decode cX5_seen 48 = .ok (.getfield 7, 3) := by decide +kernel
theorem dX5_seen_51 : decode cX5_seen 51 = .ok (.iconst 1, 1) := by decide +kernel
theorem dX5_seen_52 : decode cX5_seen 52 = .ok (.iaload, 1) := by decide +kernel
theorem dX5_seen_53 : decode cX5_seen 53 = .ok (.iconst 5, 1) := by decide +kernel
theorem dX5_seen_54 : decode cX5_seen 54 = .ok (.if_icmp .ne 8, 3) := by decide +kernel
theorem dX5_seen_57 : decode cX5_seen 57 = .ok (.aload_n 0, 1) := by decide +kernel
theorem dX5_seen_58 : decode cX5_seen 58 = .ok (.invokevirtual 86, 3) := by decide +kernel
theorem dX5_seen_61 : decode cX5_seen 61 = .ok (.ireturn, 1) := by decide +kernel
theorem dX5_seen_62 : decode cX5_seen 62 = .ok (.bipush 48, 2) := by decide +kernel
theorem dX5_seen_64 : decode cX5_seen 64 = .ok (.iconst 4, 1) := by decide +kernel
theorem dX5_seen_65 : decode cX5_seen 65 = .ok (.aload_n 0, 1) := by decide +kernel
theorem dX5_seen_66 : decode cX5_seen 66 = .ok (.getfield 7, 3) := by decide +kernel
theorem dX5_seen_69 : decode cX5_seen 69 = .ok (.iconst 1, 1) := by decide +kernel
theorem dX5_seen_70 : decode cX5_seen 70 = .ok (.iaload, 1) := by decide +kernel
theorem dX5_seen_71 : decode cX5_seen 71 = .ok (.imul, 1) := by decide +kernel
theorem dX5_seen_72 : decode cX5_seen 72 = .ok (.iadd, 1) := by decide +kernel
theorem dX5_seen_73 : decode cX5_seen 73 = .ok (.istore 5, 2) := by decide +kernel
theorem dX5_seen_75 : decode cX5_seen 75 = .ok (.aload_n 0, 1) := by decide +kernel
theorem dX5_seen_76 : decode cX5_seen 76 = .ok (.getfield 7, 3) := by decide +kernel
theorem dX5_seen_79 : decode cX5_seen 79 = .ok (.iload 5, 2) := by decide +kernel
theorem dX5_seen_81 : decode cX5_seen 81 = .ok (.iload_n 1, 1) := by decide +kernel
theorem dX5_seen_82 : decode cX5_seen 82 = .ok (.iastore, 1) := by decide +kernel
theorem dX5_seen_83 : decode cX5_seen 83 = .ok (.aload_n 0, 1) := by decide +kernel
theorem dX5_seen_84 : decode cX5_seen 84 = .ok (.getfield 7, 3) := by decide +kernel
theorem dX5_seen_87 : decode cX5_seen 87 = .ok (.iload 5, 2) := by decide +kernel
theorem dX5_seen_89 : decode cX5_seen 89 = .ok (.iconst 1, 1) := by decide +kernel
theorem dX5_seen_90 : decode cX5_seen 90 = .ok (.iadd, 1) := by decide +kernel
theorem dX5_seen_91 : decode cX5_seen 91 = .ok (.iload_n 2, 1) := by decide +kernel
theorem dX5_seen_92 : decode cX5_seen 92 = .ok (.iastore, 1) := by decide +kernel
theorem dX5_seen_93 : decode cX5_seen 93 = .ok (.aload_n 0, 1) := by decide +kernel
theorem dX5_seen_94 : decode cX5_seen 94 = .ok (.getfield 7, 3) := by decide +kernel
theorem dX5_seen_97 : decode cX5_seen 97 = .ok (.iload 5, 2) := by decide +kernel
theorem dX5_seen_99 : decode cX5_seen 99 = .ok (.iconst 2, 1) := by decide +kernel
theorem dX5_seen_100 : decode cX5_seen 100 = .ok (.iadd, 1) := by decide +kernel
theorem dX5_seen_101 : decode cX5_seen 101 = .ok (.iload_n 3, 1) := by decide +kernel
theorem dX5_seen_102 : decode cX5_seen 102 = .ok (.iastore, 1) := by decide +kernel
theorem dX5_seen_103 : decode cX5_seen 103 = .ok (.aload_n 0, 1) := by decide +kernel
theorem dX5_seen_104 : decode cX5_seen 104 = .ok (.getfield 7, 3) := by decide +kernel
theorem dX5_seen_107 : decode cX5_seen 107 = .ok (.iload 5, 2) := by decide +kernel
theorem dX5_seen_109 : decode cX5_seen 109 = .ok (.iconst 3, 1) := by decide +kernel
theorem dX5_seen_110 : decode cX5_seen 110 = .ok (.iadd, 1) := by decide +kernel
theorem dX5_seen_111 : decode cX5_seen 111 = .ok (.iload 4, 2) := by decide +kernel
theorem dX5_seen_113 : decode cX5_seen 113 = .ok (.iastore, 1) := by decide +kernel
theorem dX5_seen_114 : decode cX5_seen 114 = .ok (.aload_n 0, 1) := by decide +kernel
theorem dX5_seen_115 : decode cX5_seen 115 = .ok (.getfield 7, 3) := by decide +kernel
theorem dX5_seen_118 : decode cX5_seen 118 = .ok (.iconst 1, 1) := by decide +kernel
theorem dX5_seen_119 : decode cX5_seen 119 = .ok (.dup2, 1) := by decide +kernel
theorem dX5_seen_120 : decode cX5_seen 120 = .ok (.iaload, 1) := by decide +kernel
theorem dX5_seen_121 : decode cX5_seen 121 = .ok (.iconst 1, 1) := by decide +kernel
theorem dX5_seen_122 : decode cX5_seen 122 = .ok (.iadd, 1) := by decide +kernel
theorem dX5_seen_123 : decode cX5_seen 123 = .ok (.iastore, 1) := by decide +kernel
theorem dX5_seen_124 : decode cX5_seen 124 = .ok (.aload_n 0, 1) := by decide +kernel
theorem dX5_seen_125 : decode cX5_seen 125 = .ok (.getfield 7, 3) := by decide +kernel
theorem dX5_seen_128 : decode cX5_seen 128 = .ok (.iconst 1, 1) := by decide +kernel
theorem dX5_seen_129 : decode cX5_seen 129 = .ok (.iaload, 1) := by decide +kernel
theorem dX5_seen_130 : decode cX5_seen 130 = .ok (.ireturn, 1) := by decide +kernel
theorem dX5_kindsOfHill_0 : decode cX5_kindsOfHill 0 = .ok (.iconst 0, 1) := by decide +kernel
theorem dX5_kindsOfHill_1 : decode cX5_kindsOfHill 1 = .ok (.istore_n 2, 1) := by decide +kernel
theorem dX5_kindsOfHill_2 : decode cX5_kindsOfHill 2 = .ok (.iconst 0, 1) := by decide +kernel
theorem dX5_kindsOfHill_3 : decode cX5_kindsOfHill 3 = .ok (.istore_n 3, 1) := by decide +kernel
theorem dX5_kindsOfHill_4 : decode cX5_kindsOfHill 4 = .ok (.iload_n 3, 1) := by decide +kernel
theorem dX5_kindsOfHill_5 : decode cX5_kindsOfHill 5 = .ok (.bipush 6, 2) := by decide +kernel
theorem dX5_kindsOfHill_7 : decode cX5_kindsOfHill 7 = .ok (.if_icmp .ge 125, 3) := by decide +kernel
theorem dX5_kindsOfHill_10 : decode cX5_kindsOfHill 10 = .ok (.iconst 1, 1) := by decide +kernel
theorem dX5_kindsOfHill_11 : decode cX5_kindsOfHill 11 = .ok (.istore 4, 2) := by decide +kernel
theorem dX5_kindsOfHill_13 : decode cX5_kindsOfHill 13 = .ok (.iconst 0, 1) := by decide +kernel
theorem dX5_kindsOfHill_14 : decode cX5_kindsOfHill 14 = .ok (.istore 5, 2) := by decide +kernel
theorem dX5_kindsOfHill_16 : decode cX5_kindsOfHill 16 = .ok (.iload 5, 2) := by decide +kernel
theorem dX5_kindsOfHill_18 : decode cX5_kindsOfHill 18 = .ok (.aload_n 0, 1) := by decide +kernel
theorem dX5_kindsOfHill_19 : decode cX5_kindsOfHill 19 = .ok (.getfield 7, 3) := by decide +kernel
theorem dX5_kindsOfHill_22 : decode cX5_kindsOfHill 22 = .ok (.iconst 1, 1) := by decide +kernel
theorem dX5_kindsOfHill_23 : decode cX5_kindsOfHill 23 = .ok (.iaload, 1) := by decide +kernel
theorem dX5_kindsOfHill_24 : decode cX5_kindsOfHill 24 = .ok (.if_icmp .ge 87, 3) := by decide +kernel
theorem dX5_kindsOfHill_27 : decode cX5_kindsOfHill 27 = .ok (.bipush 48, 2) := by decide +kernel
theorem dX5_kindsOfHill_29 : decode cX5_kindsOfHill 29 = .ok (.iconst 4, 1) := by decide +kernel
theorem dX5_kindsOfHill_30 : decode cX5_kindsOfHill 30 = .ok (.iload 5, 2) := by decide +kernel
theorem dX5_kindsOfHill_32 : decode cX5_kindsOfHill 32 = .ok (.imul, 1) := by decide +kernel
theorem dX5_kindsOfHill_33 : decode cX5_kindsOfHill 33 = .ok (.iadd, 1) := by decide +kernel
theorem dX5_kindsOfHill_34 : decode cX5_kindsOfHill 34 = .ok (.istore 6, 2) := by decide +kernel
theorem dX5_kindsOfHill_36 : decode cX5_kindsOfHill 36 = .ok (.iload 4, 2) := by decide +kernel
theorem dX5_kindsOfHill_38 : decode cX5_kindsOfHill 38 = .ok (.ifCond .eq 64, 3) := by decide +kernel
theorem dX5_kindsOfHill_41 : decode cX5_kindsOfHill 41 = .ok (.aload_n 0, 1) := by decide +kernel
theorem dX5_kindsOfHill_42 : decode cX5_kindsOfHill 42 = .ok (.getfield 7, 3) := by decide +kernel
theorem dX5_kindsOfHill_45 : decode cX5_kindsOfHill 45 = .ok (.iload 6, 2) := by decide +kernel
theorem dX5_kindsOfHill_47 : decode cX5_kindsOfHill 47 = .ok (.iaload, 1) := by decide +kernel
theorem dX5_kindsOfHill_48 : decode cX5_kindsOfHill 48 = .ok (.iload_n 1, 1) := by decide +kernel
theorem dX5_kindsOfHill_49 : decode cX5_kindsOfHill 49 = .ok (.if_icmp .ne 49, 3) := by decide +kernel
theorem dX5_kindsOfHill_52 : decode cX5_kindsOfHill 52 = .ok (.aload_n 0, 1) := by decide +kernel
theorem dX5_kindsOfHill_53 : decode cX5_kindsOfHill 53 = .ok (.getfield 7, 3) := by decide +kernel
theorem dX5_kindsOfHill_56 : decode cX5_kindsOfHill 56 = .ok (.iload 6, 2) := by decide +kernel
theorem dX5_kindsOfHill_58 : decode cX5_kindsOfHill 58 = .ok (.iconst 2, 1) := by decide +kernel
theorem dX5_kindsOfHill_59 : decode cX5_kindsOfHill 59 = .ok (.iadd, 1) := by decide +kernel
theorem dX5_kindsOfHill_60 : decode cX5_kindsOfHill 60 = .ok (.iaload, 1) := by decide +kernel
theorem dX5_kindsOfHill_61 : decode cX5_kindsOfHill 61 = .ok (.iload_n 3, 1) := by decide +kernel
theorem dX5_kindsOfHill_62 : decode cX5_kindsOfHill 62 = .ok (.aload_n 0, 1) := by decide +kernel
theorem dX5_kindsOfHill_63 : decode cX5_kindsOfHill 63 = .ok (.getfield 7, 3) := by decide +kernel
theorem dX5_kindsOfHill_66 : decode cX5_kindsOfHill 66 = .ok (.iload 6, 2) := by decide +kernel
theorem dX5_kindsOfHill_68 : decode cX5_kindsOfHill 68 = .ok (.iconst 2, 1) := by decide +kernel
theorem dX5_kindsOfHill_69 : decode cX5_kindsOfHill 69 = .ok (.iadd, 1) := by decide +kernel
theorem dX5_kindsOfHill_70 : decode cX5_kindsOfHill 70 = .ok (.iaload, 1) := by decide +kernel
theorem dX5_kindsOfHill_71 : decode cX5_kindsOfHill 71 = .ok (.aload_n 0, 1) := by decide +kernel
theorem dX5_kindsOfHill_72 : decode cX5_kindsOfHill 72 = .ok (.getfield 7, 3) := by decide +kernel
theorem dX5_kindsOfHill_75 : decode cX5_kindsOfHill 75 = .ok (.iload 6, 2) := by decide +kernel
theorem dX5_kindsOfHill_77 : decode cX5_kindsOfHill 77 = .ok (.iconst 1, 1) := by decide +kernel
theorem dX5_kindsOfHill_78 : decode cX5_kindsOfHill 78 = .ok (.iadd, 1) := by decide +kernel
theorem dX5_kindsOfHill_79 : decode cX5_kindsOfHill 79 = .ok (.iaload, 1) := by decide +kernel
theorem dX5_kindsOfHill_80 : decode cX5_kindsOfHill 80 = .ok (.iconst 1, 1) := by decide +kernel
theorem dX5_kindsOfHill_81 : decode cX5_kindsOfHill 81 = .ok (.iadd, 1) := by decide +kernel
theorem dX5_kindsOfHill_82 : decode cX5_kindsOfHill 82 = .ok (.invokestatic 113, 3) := by decide +kernel
theorem dX5_kindsOfHill_85 : decode cX5_kindsOfHill 85 = .ok (.iadd, 1) := by decide +kernel
theorem dX5_kindsOfHill_86 : decode cX5_kindsOfHill 86 = .ok (.aload_n 0, 1) := by decide +kernel
theorem dX5_kindsOfHill_87 : decode cX5_kindsOfHill 87 = .ok (.getfield 7, 3) := by decide +kernel
theorem dX5_kindsOfHill_90 : decode cX5_kindsOfHill 90 = .ok (.iload 6, 2) := by decide +kernel
theorem dX5_kindsOfHill_92 : decode cX5_kindsOfHill 92 = .ok (.iconst 3, 1) := by decide +kernel
theorem dX5_kindsOfHill_93 : decode cX5_kindsOfHill 93 = .ok (.iadd, 1) := by decide +kernel
theorem dX5_kindsOfHill_94 : decode cX5_kindsOfHill 94 = .ok (.iaload, 1) := by decide +kernel
theorem dX5_kindsOfHill_95 : decode cX5_kindsOfHill 95 = .ok (.if_icmp .ne 7, 3) := by decide +kernel
theorem dX5_kindsOfHill_98 : decode cX5_kindsOfHill 98 = .ok (.iconst 1, 1) := by decide +kernel
theorem dX5_kindsOfHill_99 : decode cX5_kindsOfHill 99 = .ok (.goto 4, 3) := by decide +kernel
theorem dX5_kindsOfHill_102 : decode cX5_kindsOfHill 102 = .ok (.iconst 0, 1) := by decide +kernel
theorem dX5_kindsOfHill_103 : decode cX5_kindsOfHill 103 = .ok (.istore 4, 2) := by decide +kernel
theorem dX5_kindsOfHill_105 : decode cX5_kindsOfHill 105 = .ok (.iinc 5 1, 3) := by decide +kernel
theorem dX5_kindsOfHill_108 : decode cX5_kindsOfHill 108 = .ok (.goto (-92), 3) := by decide +kernel
theorem dX5_kindsOfHill_111 : decode cX5_kindsOfHill 111 = .ok (.iload_n 2, 1) := by decide +kernel
theorem dX5_kindsOfHill_112 : decode cX5_kindsOfHill 112 = .ok (.iload 4, 2) := by decide +kernel
theorem dX5_kindsOfHill_114 : decode cX5_kindsOfHill 114 = .ok (.ifCond .eq 9, 3) := by decide +kernel
theorem dX5_kindsOfHill_117 : decode cX5_kindsOfHill 117 = .ok (.iconst 1, 1) := by decide +kernel
theorem dX5_kindsOfHill_118 : decode cX5_kindsOfHill 118 = .ok (.iload_n 3, 1) := by decide +kernel
theorem dX5_kindsOfHill_119 : decode cX5_kindsOfHill 119 = .ok (.ishl, 1) := by decide +kernel
theorem dX5_kindsOfHill_120 : decode cX5_kindsOfHill 120 = .ok (.goto 4, 3) := by decide +kernel
theorem dX5_kindsOfHill_123 : decode cX5_kindsOfHill 123 = .ok (.iconst 0, 1) := by decide +kernel
theorem dX5_kindsOfHill_124 : decode cX5_kindsOfHill 124 = .ok (.ior, 1) := by decide +kernel
theorem dX5_kindsOfHill_125 : decode cX5_kindsOfHill 125 = .ok (.istore_n 2, 1) := by decide +kernel
theorem dX5_kindsOfHill_126 : decode cX5_kindsOfHill 126 = .ok (.iinc 3 1, 3) := by decide +kernel
theorem dX5_kindsOfHill_129 : decode cX5_kindsOfHill 129 = .ok (.goto (-125), 3) := by decide +kernel
theorem dX5_kindsOfHill_132 : decode cX5_kindsOfHill 132 = .ok (.iload_n 2, 1) := by decide +kernel
theorem dX5_kindsOfHill_133 : decode cX5_kindsOfHill 133 = .ok (.ireturn, 1) := by decide +kernel
theorem dX5_which_0 : decode cX5_which 0 = .ok (.aload_n 0, 1) := by decide +kernel
theorem dX5_which_1 : decode cX5_which 1 = .ok (.iload_n 1, 1) := by decide +kernel
theorem dX5_which_2 : decode cX5_which 2 = .ok (.invokevirtual 120, 3) := by decide +kernel
theorem dX5_which_5 : decode cX5_which 5 = .ok (.ifCond .eq 11, 3) := by decide +kernel
theorem dX5_which_8 : decode cX5_which 8 = .ok (.aload_n 0, 1) := by decide +kernel
theorem dX5_which_9 : decode cX5_which 9 = .ok (.iload_n 1, 1) := by decide +kernel
theorem dX5_which_10 : decode cX5_which 10 = .ok (.invokevirtual 154, 3) := by decide +kernel
theorem dX5_which_13 : decode cX5_which 13 = .ok (.goto 9, 3) := by decide +kernel
theorem dX5_which_16 : decode cX5_which 16 = .ok (.aload_n 0, 1) := by decide +kernel
theorem dX5_which_17 : decode cX5_which 17 = .ok (.bipush (-2), 2) := by decide +kernel
theorem dX5_which_19 : decode cX5_which 19 = .ok (.invokevirtual 67, 3) := by decide +kernel
theorem dX5_which_22 : decode cX5_which 22 = .ok (.ireturn, 1) := by decide +kernel
theorem dX5_mostAlike_0 : decode cX5_mostAlike 0 = .ok (.iconst 0, 1) := by decide +kernel
theorem dX5_mostAlike_1 : decode cX5_mostAlike 1 = .ok (.istore_n 2, 1) := by decide +kernel
theorem dX5_mostAlike_2 : decode cX5_mostAlike 2 = .ok (.iconst 0, 1) := by decide +kernel
theorem dX5_mostAlike_3 : decode cX5_mostAlike 3 = .ok (.istore_n 3, 1) := by decide +kernel
theorem dX5_mostAlike_4 : decode cX5_mostAlike 4 = .ok (.iload_n 3, 1) := by decide +kernel
theorem dX5_mostAlike_5 : decode cX5_mostAlike 5 = .ok (.bipush 6, 2) := by decide +kernel
theorem dX5_mostAlike_7 : decode cX5_mostAlike 7 = .ok (.if_icmp .ge 84, 3) := by decide +kernel
theorem dX5_mostAlike_10 : decode cX5_mostAlike 10 = .ok (.iconst 0, 1) := by decide +kernel
theorem dX5_mostAlike_11 : decode cX5_mostAlike 11 = .ok (.istore 4, 2) := by decide +kernel
theorem dX5_mostAlike_13 : decode cX5_mostAlike 13 = .ok (.iconst 0, 1) := by decide +kernel
theorem dX5_mostAlike_14 : decode cX5_mostAlike 14 = .ok (.istore 5, 2) := by decide +kernel
theorem dX5_mostAlike_16 : decode cX5_mostAlike 16 = .ok (.iload 5, 2) := by decide +kernel
theorem dX5_mostAlike_18 : decode cX5_mostAlike 18 = .ok (.bipush 6, 2) := by decide +kernel
theorem dX5_mostAlike_20 : decode cX5_mostAlike 20 = .ok (.if_icmp .ge 52, 3) := by decide +kernel
theorem dX5_mostAlike_23 : decode cX5_mostAlike 23 = .ok (.iload_n 1, 1) := by decide +kernel
theorem dX5_mostAlike_24 : decode cX5_mostAlike 24 = .ok (.iload_n 3, 1) := by decide +kernel
theorem dX5_mostAlike_25 : decode cX5_mostAlike 25 = .ok (.invokestatic 105, 3) := by decide +kernel
theorem dX5_mostAlike_28 : decode cX5_mostAlike 28 = .ok (.ifCond .eq 44, 3) := by decide +kernel
theorem dX5_mostAlike_31 : decode cX5_mostAlike 31 = .ok (.iload 4, 2) := by decide +kernel
theorem dX5_mostAlike_33 : decode cX5_mostAlike 33 = .ok (.iload_n 1, 1) := by decide +kernel
theorem dX5_mostAlike_34 : decode cX5_mostAlike 34 = .ok (.iload 5, 2) := by decide +kernel
theorem dX5_mostAlike_36 : decode cX5_mostAlike 36 = .ok (.invokestatic 105, 3) := by decide +kernel
theorem dX5_mostAlike_39 : decode cX5_mostAlike 39 = .ok (.ifCond .eq 23, 3) := by decide +kernel
theorem dX5_mostAlike_42 : decode cX5_mostAlike 42 = .ok (.aload_n 0, 1) := by decide +kernel
theorem dX5_mostAlike_43 : decode cX5_mostAlike 43 = .ok (.getfield 30, 3) := by decide +kernel
theorem dX5_mostAlike_46 : decode cX5_mostAlike 46 = .ok (.iload_n 3, 1) := by decide +kernel
theorem dX5_mostAlike_47 : decode cX5_mostAlike 47 = .ok (.iaload, 1) := by decide +kernel
theorem dX5_mostAlike_48 : decode cX5_mostAlike 48 = .ok (.aload_n 0, 1) := by decide +kernel
theorem dX5_mostAlike_49 : decode cX5_mostAlike 49 = .ok (.getfield 30, 3) := by decide +kernel
theorem dX5_mostAlike_52 : decode cX5_mostAlike 52 = .ok (.iload 5, 2) := by decide +kernel
theorem dX5_mostAlike_54 : decode cX5_mostAlike 54 = .ok (.iaload, 1) := by decide +kernel
theorem dX5_mostAlike_55 : decode cX5_mostAlike 55 = .ok (.if_icmp .ne 7, 3) := by decide +kernel
theorem dX5_mostAlike_58 : decode cX5_mostAlike 58 = .ok (.iconst 1, 1) := by decide +kernel
theorem dX5_mostAlike_59 : decode cX5_mostAlike 59 = .ok (.goto 4, 3) := by decide +kernel
theorem dX5_mostAlike_62 : decode cX5_mostAlike 62 = .ok (.iconst 0, 1) := by decide +kernel
theorem dX5_mostAlike_63 : decode cX5_mostAlike 63 = .ok (.iadd, 1) := by decide +kernel
theorem dX5_mostAlike_64 : decode cX5_mostAlike 64 = .ok (.istore 4, 2) := by decide +kernel
theorem dX5_mostAlike_66 : decode cX5_mostAlike 66 = .ok (.iinc 5 1, 3) := by decide +kernel
theorem dX5_mostAlike_69 : decode cX5_mostAlike 69 = .ok (.goto (-53), 3) := by decide +kernel
theorem dX5_mostAlike_72 : decode cX5_mostAlike 72 = .ok (.iload 4, 2) := by decide +kernel
theorem dX5_mostAlike_74 : decode cX5_mostAlike 74 = .ok (.iload_n 2, 1) := by decide +kernel
theorem dX5_mostAlike_75 : decode cX5_mostAlike 75 = .ok (.if_icmp .le 8, 3) := by decide +kernel
theorem dX5_mostAlike_78 : decode cX5_mostAlike 78 = .ok (.iload 4, 2) := by decide +kernel
theorem dX5_mostAlike_80 : decode cX5_mostAlike 80 = .ok (.goto 4, 3) := by decide +kernel
theorem dX5_mostAlike_83 : decode cX5_mostAlike 83 = .ok (.iload_n 2, 1) := by decide +kernel
theorem dX5_mostAlike_84 : decode cX5_mostAlike 84 = .ok (.istore_n 2, 1) := by decide +kernel
theorem dX5_mostAlike_85 : decode cX5_mostAlike 85 = .ok (.iinc 3 1, 3) := by decide +kernel
theorem dX5_mostAlike_88 : decode cX5_mostAlike 88 = .ok (.goto (-84), 3) := by decide +kernel
theorem dX5_mostAlike_91 : decode cX5_mostAlike 91 = .ok (.iload_n 2, 1) := by decide +kernel
theorem dX5_mostAlike_92 : decode cX5_mostAlike 92 = .ok (.ireturn, 1) := by decide +kernel
theorem dX5_bestLook_0 : decode cX5_bestLook 0 = .ok (.iconst (-1), 1) := by decide +kernel
theorem dX5_bestLook_1 : decode cX5_bestLook 1 = .ok (.istore 5, 2) := by decide +kernel
theorem dX5_bestLook_3 : decode cX5_bestLook 3 = .ok (.ldc 142, 2) := by decide +kernel
theorem dX5_bestLook_5 : decode cX5_bestLook 5 = .ok (.istore 6, 2) := by decide +kernel
theorem dX5_bestLook_7 : decode cX5_bestLook 7 = .ok (.iconst 0, 1) := by decide +kernel
theorem dX5_bestLook_8 : decode cX5_bestLook 8 = .ok (.istore 7, 2) := by decide +kernel
theorem dX5_bestLook_10 : decode cX5_bestLook 10 = .ok (.iload 7, 2) := by decide +kernel
theorem dX5_bestLook_12 : decode cX5_bestLook 12 = .ok (.bipush 60, 2) := by decide +kernel
theorem dX5_bestLook_14 : decode cX5_bestLook 14 = .ok (.if_icmp .ge 125, 3) := by decide +kernel
theorem dX5_bestLook_17 : decode cX5_bestLook 17 = .ok (.iload_n 1, 1) := by decide +kernel
theorem dX5_bestLook_18 : decode cX5_bestLook 18 = .ok (.ifCond .le 121, 3) := by decide +kernel
theorem dX5_bestLook_21 : decode cX5_bestLook 21 = .ok (.iconst 0, 1) := by decide +kernel
theorem dX5_bestLook_22 : decode cX5_bestLook 22 = .ok (.istore 8, 2) := by decide +kernel
theorem dX5_bestLook_24 : decode cX5_bestLook 24 = .ok (.iload 8, 2) := by decide +kernel
theorem dX5_bestLook_26 : decode cX5_bestLook 26 = .ok (.iload_n 3, 1) := by decide +kernel
theorem dX5_bestLook_27 : decode cX5_bestLook 27 = .ok (.if_icmp .ge 103, 3) := by decide +kernel
theorem dX5_bestLook_30 : decode cX5_bestLook 30 = .ok (.iconst 0, 1) := by decide +kernel
theorem dX5_bestLook_31 : decode cX5_bestLook 31 = .ok (.istore 9, 2) := by decide +kernel
theorem dX5_bestLook_33 : decode cX5_bestLook 33 = .ok (.iload 9, 2) := by decide +kernel
theorem dX5_bestLook_35 : decode cX5_bestLook 35 = .ok (.bipush 6, 2) := by decide +kernel
theorem dX5_bestLook_37 : decode cX5_bestLook 37 = .ok (.if_icmp .ge 42, 3) := by decide +kernel
theorem dX5_bestLook_40 : decode cX5_bestLook 40 = .ok (.aload_n 0, 1) := by decide +kernel
theorem dX5_bestLook_41 : decode cX5_bestLook 41 = .ok (.getfield 30, 3) := by decide +kernel
theorem dX5_bestLook_44 : decode cX5_bestLook 44 = .ok (.iload 9, 2) := by decide +kernel
theorem dX5_bestLook_46 : decode cX5_bestLook 46 = .ok (.iload 4, 2) := by decide +kernel
theorem dX5_bestLook_48 : decode cX5_bestLook 48 = .ok (.ifCond .eq 15, 3) := by decide +kernel
theorem dX5_bestLook_51 : decode cX5_bestLook 51 = .ok (.iload 9, 2) := by decide +kernel
theorem dX5_bestLook_53 : decode cX5_bestLook 53 = .ok (.iload 7, 2) := by decide +kernel
theorem dX5_bestLook_55 : decode cX5_bestLook 55 = .ok (.iload 8, 2) := by decide +kernel
theorem dX5_bestLook_57 : decode cX5_bestLook 57 = .ok (.invokestatic 113, 3) := by decide +kernel
theorem dX5_bestLook_60 : decode cX5_bestLook 60 = .ok (.goto 12, 3) := by decide +kernel
theorem dX5_bestLook_63 : decode cX5_bestLook 63 = .ok (.iload 9, 2) := by decide +kernel
theorem dX5_bestLook_65 : decode cX5_bestLook 65 = .ok (.iload 7, 2) := by decide +kernel
theorem dX5_bestLook_67 : decode cX5_bestLook 67 = .ok (.iload 8, 2) := by decide +kernel
theorem dX5_bestLook_69 : decode cX5_bestLook 69 = .ok (.invokestatic 109, 3) := by decide +kernel
theorem dX5_bestLook_72 : decode cX5_bestLook 72 = .ok (.iastore, 1) := by decide +kernel
theorem dX5_bestLook_73 : decode cX5_bestLook 73 = .ok (.iinc 9 1, 3) := by decide +kernel
theorem dX5_bestLook_76 : decode cX5_bestLook 76 = .ok (.goto (-43), 3) := by decide +kernel
theorem dX5_bestLook_79 : decode cX5_bestLook 79 = .ok (.aload_n 0, 1) := by decide +kernel
theorem dX5_bestLook_80 : decode cX5_bestLook 80 = .ok (.iload_n 1, 1) := by decide +kernel
theorem dX5_bestLook_81 : decode cX5_bestLook 81 = .ok (.invokevirtual 157, 3) := by decide +kernel
theorem dX5_bestLook_84 : decode cX5_bestLook 84 = .ok (.istore 9, 2) := by decide +kernel
theorem dX5_bestLook_86 : decode cX5_bestLook 86 = .ok (.iload 9, 2) := by decide +kernel
theorem dX5_bestLook_88 : decode cX5_bestLook 88 = .ok (.iload 6, 2) := by decide +kernel
theorem dX5_bestLook_90 : decode cX5_bestLook 90 = .ok (.if_icmp .ge 14, 3) := by decide +kernel
theorem dX5_bestLook_93 : decode cX5_bestLook 93 = .ok (.bipush 100, 2) := by decide +kernel
theorem dX5_bestLook_95 : decode cX5_bestLook 95 = .ok (.iload 7, 2) := by decide +kernel
theorem dX5_bestLook_97 : decode cX5_bestLook 97 = .ok (.imul, 1) := by decide +kernel
theorem dX5_bestLook_98 : decode cX5_bestLook 98 = .ok (.iload 8, 2) := by decide +kernel
theorem dX5_bestLook_100 : decode cX5_bestLook 100 = .ok (.iadd, 1) := by decide +kernel
theorem dX5_bestLook_101 : decode cX5_bestLook 101 = .ok (.goto 5, 3) := by decide +kernel
theorem dX5_bestLook_104 : decode cX5_bestLook 104 = .ok (.iload 5, 2) := by decide +kernel
theorem dX5_bestLook_106 : decode cX5_bestLook 106 = .ok (.istore 5, 2) := by decide +kernel
theorem dX5_bestLook_108 : decode cX5_bestLook 108 = .ok (.iload 9, 2) := by decide +kernel
theorem dX5_bestLook_110 : decode cX5_bestLook 110 = .ok (.iload 6, 2) := by decide +kernel
theorem dX5_bestLook_112 : decode cX5_bestLook 112 = .ok (.if_icmp .ge 8, 3) := by decide +kernel
theorem dX5_bestLook_115 : decode cX5_bestLook 115 = .ok (.iload 9, 2) := by decide +kernel
theorem dX5_bestLook_117 : decode cX5_bestLook 117 = .ok (.goto 5, 3) := by decide +kernel
theorem dX5_bestLook_120 : decode cX5_bestLook 120 = .ok (.iload 6, 2) := by decide +kernel
theorem dX5_bestLook_122 : decode cX5_bestLook 122 = .ok (.istore 6, 2) := by decide +kernel
theorem dX5_bestLook_124 : decode cX5_bestLook 124 = .ok (.iinc 8 1, 3) := by decide +kernel
theorem dX5_bestLook_127 : decode cX5_bestLook 127 = .ok (.goto (-103), 3) := by decide +kernel
theorem dX5_bestLook_130 : decode cX5_bestLook 130 = .ok (.iload 7, 2) := by decide +kernel
theorem dX5_bestLook_132 : decode cX5_bestLook 132 = .ok (.iload_n 2, 1) := by decide +kernel
theorem dX5_bestLook_133 : decode cX5_bestLook 133 = .ok (.iadd, 1) := by decide +kernel
theorem dX5_bestLook_134 : decode cX5_bestLook 134 = .ok (.istore 7, 2) := by decide +kernel
theorem dX5_bestLook_136 : decode cX5_bestLook 136 = .ok (.goto (-126), 3) := by decide +kernel
theorem dX5_bestLook_139 : decode cX5_bestLook 139 = .ok (.iload 5, 2) := by decide +kernel
theorem dX5_bestLook_141 : decode cX5_bestLook 141 = .ok (.ireturn, 1) := by decide +kernel
theorem dX5_next_0 : decode cX5_next 0 = .ok (.aload_n 0, 1) := by decide +kernel
theorem dX5_next_1 : decode cX5_next 1 = .ok (.iload_n 1, 1) := by decide +kernel
theorem dX5_next_2 : decode cX5_next 2 = .ok (.invokevirtual 120, 3) := by decide +kernel
theorem dX5_next_5 : decode cX5_next 5 = .ok (.ifCond .eq 20, 3) := by decide +kernel
theorem dX5_next_8 : decode cX5_next 8 = .ok (.aload_n 0, 1) := by decide +kernel
theorem dX5_next_9 : decode cX5_next 9 = .ok (.aload_n 0, 1) := by decide +kernel
theorem dX5_next_10 : decode cX5_next 10 = .ok (.iload_n 1, 1) := by decide +kernel
theorem dX5_next_11 : decode cX5_next 11 = .ok (.invokevirtual 154, 3) := by decide +kernel
theorem dX5_next_14 : decode cX5_next 14 = .ok (.bipush 10, 2) := by decide +kernel
theorem dX5_next_16 : decode cX5_next 16 = .ok (.bipush 14, 2) := by decide +kernel
theorem dX5_next_18 : decode cX5_next 18 = .ok (.iconst 1, 1) := by decide +kernel
theorem dX5_next_19 : decode cX5_next 19 = .ok (.invokevirtual 160, 3) := by decide +kernel
theorem dX5_next_22 : decode cX5_next 22 = .ok (.goto 9, 3) := by decide +kernel
theorem dX5_next_25 : decode cX5_next 25 = .ok (.aload_n 0, 1) := by decide +kernel
theorem dX5_next_26 : decode cX5_next 26 = .ok (.bipush (-2), 2) := by decide +kernel
theorem dX5_next_28 : decode cX5_next 28 = .ok (.invokevirtual 67, 3) := by decide +kernel
theorem dX5_next_31 : decode cX5_next 31 = .ok (.ireturn, 1) := by decide +kernel
theorem dX5_mark_0 : decode cX5_mark 0 = .ok (.iload_n 1, 1) := by decide +kernel
theorem dX5_mark_1 : decode cX5_mark 1 = .ok (.i2l, 1) := by decide +kernel
theorem dX5_mark_2 : decode cX5_mark 2 = .ok (.lconst 0, 1) := by decide +kernel
theorem dX5_mark_3 : decode cX5_mark 3 = .ok (.ldc2_w 152, 3) := by decide +kernel
theorem dX5_mark_6 : decode cX5_mark 6 = .ok (.invokestatic 53, 3) := by decide +kernel
theorem dX5_mark_9 : decode cX5_mark 9 = .ok (.ifCond .eq 22, 3) := by decide +kernel
theorem dX5_mark_12 : decode cX5_mark 12 = .ok (.iload_n 2, 1) := by decide +kernel
theorem dX5_mark_13 : decode cX5_mark 13 = .ok (.invokestatic 76, 3) := by decide +kernel
theorem dX5_mark_16 : decode cX5_mark 16 = .ok (.ifCond .eq 15, 3) := by decide +kernel
theorem dX5_mark_19 : decode cX5_mark 19 = .ok (.iload_n 3, 1) := by decide +kernel
theorem dX5_mark_20 : decode cX5_mark 20 = .ok (.i2l, 1) := by decide +kernel
theorem dX5_mark_21 : decode cX5_mark 21 = .ok (.lconst 0, 1) := by decide +kernel
theorem dX5_mark_22 : decode cX5_mark 22 = .ok (.ldc2_w 164, 3) := by decide +kernel
theorem dX5_mark_25 : decode cX5_mark 25 = .ok (.invokestatic 53, 3) := by decide +kernel
theorem dX5_mark_28 : decode cX5_mark 28 = .ok (.ifCond .ne 10, 3) := by decide +kernel
theorem dX5_mark_31 : decode cX5_mark 31 = .ok (.aload_n 0, 1) := by decide +kernel
theorem dX5_mark_32 : decode cX5_mark 32 = .ok (.bipush (-2), 2) := by decide +kernel
theorem dX5_mark_34 : decode cX5_mark 34 = .ok (.invokevirtual 67, 3) := by decide +kernel
theorem dX5_mark_37 : decode cX5_mark 37 = .ok (.ireturn, 1) := by decide +kernel
theorem dX5_mark_38 : decode cX5_mark 38 = .ok (.aload_n 0, 1) := by decide +kernel
theorem dX5_mark_39 : decode cX5_mark 39 = .ok (.getfield 7, 3) := by decide +kernel
theorem dX5_mark_42 : decode cX5_mark 42 = .ok (.iconst 2, 1) := by decide +kernel
theorem dX5_mark_43 : decode cX5_mark 43 = .ok (.iaload, 1) := by decide +kernel
theorem dX5_mark_44 : decode cX5_mark 44 = .ok (.bipush 6, 2) := by decide +kernel
theorem dX5_mark_46 : decode cX5_mark 46 = .ok (.if_icmp .ne 8, 3) := by decide +kernel
theorem dX5_mark_49 : decode cX5_mark 49 = .ok (.aload_n 0, 1) := by decide +kernel
theorem dX5_mark_50 : decode cX5_mark 50 = .ok (.invokevirtual 86, 3) := by decide +kernel
theorem dX5_mark_53 : decode cX5_mark 53 = .ok (.ireturn, 1) := by decide +kernel
theorem dX5_mark_54 : decode cX5_mark 54 = .ok (.bipush 68, 2) := by decide +kernel
theorem dX5_mark_56 : decode cX5_mark 56 = .ok (.iconst 3, 1) := by decide +kernel
theorem dX5_mark_57 : decode cX5_mark 57 = .ok (.aload_n 0, 1) := by decide +kernel
theorem dX5_mark_58 : decode cX5_mark 58 = .ok (.getfield 7, 3) := by decide +kernel
theorem dX5_mark_61 : decode cX5_mark 61 = .ok (.iconst 2, 1) := by decide +kernel
theorem dX5_mark_62 : decode cX5_mark 62 = .ok (.iaload, 1) := by decide +kernel
theorem dX5_mark_63 : decode cX5_mark 63 = .ok (.imul, 1) := by decide +kernel
theorem dX5_mark_64 : decode cX5_mark 64 = .ok (.iadd, 1) := by decide +kernel
theorem dX5_mark_65 : decode cX5_mark 65 = .ok (.istore 4, 2) := by decide +kernel
theorem dX5_mark_67 : decode cX5_mark 67 = .ok (.aload_n 0, 1) := by decide +kernel
theorem dX5_mark_68 : decode cX5_mark 68 = .ok (.getfield 7, 3) := by decide +kernel
theorem dX5_mark_71 : decode cX5_mark 71 = .ok (.iload 4, 2) := by decide +kernel
theorem dX5_mark_73 : decode cX5_mark 73 = .ok (.iload_n 1, 1) := by decide +kernel
theorem dX5_mark_74 : decode cX5_mark 74 = .ok (.iastore, 1) := by decide +kernel
theorem dX5_mark_75 : decode cX5_mark 75 = .ok (.aload_n 0, 1) := by decide +kernel
theorem dX5_mark_76 : decode cX5_mark 76 = .ok (.getfield 7, 3) := by decide +kernel
theorem dX5_mark_79 : decode cX5_mark 79 = .ok (.iload 4, 2) := by decide +kernel
theorem dX5_mark_81 : decode cX5_mark 81 = .ok (.iconst 1, 1) := by decide +kernel
theorem dX5_mark_82 : decode cX5_mark 82 = .ok (.iadd, 1) := by decide +kernel
theorem dX5_mark_83 : decode cX5_mark 83 = .ok (.iload_n 2, 1) := by decide +kernel
theorem dX5_mark_84 : decode cX5_mark 84 = .ok (.iastore, 1) := by decide +kernel
theorem dX5_mark_85 : decode cX5_mark 85 = .ok (.aload_n 0, 1) := by decide +kernel
theorem dX5_mark_86 : decode cX5_mark 86 = .ok (.getfield 7, 3) := by decide +kernel
theorem dX5_mark_89 : decode cX5_mark 89 = .ok (.iload 4, 2) := by decide +kernel
theorem dX5_mark_91 : decode cX5_mark 91 = .ok (.iconst 2, 1) := by decide +kernel
theorem dX5_mark_92 : decode cX5_mark 92 = .ok (.iadd, 1) := by decide +kernel
theorem dX5_mark_93 : decode cX5_mark 93 = .ok (.iload_n 3, 1) := by decide +kernel
theorem dX5_mark_94 : decode cX5_mark 94 = .ok (.iastore, 1) := by decide +kernel
theorem dX5_mark_95 : decode cX5_mark 95 = .ok (.aload_n 0, 1) := by decide +kernel
theorem dX5_mark_96 : decode cX5_mark 96 = .ok (.getfield 7, 3) := by decide +kernel
theorem dX5_mark_99 : decode cX5_mark 99 = .ok (.iconst 2, 1) := by decide +kernel
theorem dX5_mark_100 : decode cX5_mark 100 = .ok (.dup2, 1) := by decide +kernel
theorem dX5_mark_101 : decode cX5_mark 101 = .ok (.iaload, 1) := by decide +kernel
theorem dX5_mark_102 : decode cX5_mark 102 = .ok (.iconst 1, 1) := by decide +kernel
theorem dX5_mark_103 : decode cX5_mark 103 = .ok (.iadd, 1) := by decide +kernel
theorem dX5_mark_104 : decode cX5_mark 104 = .ok (.iastore, 1) := by decide +kernel
theorem dX5_mark_105 : decode cX5_mark 105 = .ok (.aload_n 0, 1) := by decide +kernel
theorem dX5_mark_106 : decode cX5_mark 106 = .ok (.getfield 7, 3) := by decide +kernel
theorem dX5_mark_109 : decode cX5_mark 109 = .ok (.iconst 2, 1) := by decide +kernel
theorem dX5_mark_110 : decode cX5_mark 110 = .ok (.iaload, 1) := by decide +kernel
theorem dX5_mark_111 : decode cX5_mark 111 = .ok (.ireturn, 1) := by decide +kernel
theorem dX5_forget_0 : decode cX5_forget 0 = .ok (.iload_n 1, 1) := by decide +kernel
theorem dX5_forget_1 : decode cX5_forget 1 = .ok (.i2l, 1) := by decide +kernel
theorem dX5_forget_2 : decode cX5_forget 2 = .ok (.lconst 0, 1) := by decide +kernel
theorem dX5_forget_3 : decode cX5_forget 3 = .ok (.lconst 1, 1) := by decide +kernel
theorem dX5_forget_4 : decode cX5_forget 4 = .ok (.invokestatic 53, 3) := by decide +kernel
theorem dX5_forget_7 : decode cX5_forget 7 = .ok (.ifCond .ne 10, 3) := by decide +kernel
theorem dX5_forget_10 : decode cX5_forget 10 = .ok (.aload_n 0, 1) := by decide +kernel
theorem dX5_forget_11 : decode cX5_forget 11 = .ok (.bipush (-2), 2) := by decide +kernel
theorem dX5_forget_13 : decode cX5_forget 13 = .ok (.invokevirtual 67, 3) := by decide +kernel
theorem dX5_forget_16 : decode cX5_forget 16 = .ok (.ireturn, 1) := by decide +kernel
theorem dX5_forget_17 : decode cX5_forget 17 = .ok (.aload_n 0, 1) := by decide +kernel
theorem dX5_forget_18 : decode cX5_forget 18 = .ok (.getfield 7, 3) := by decide +kernel
theorem dX5_forget_21 : decode cX5_forget 21 = .ok (.iconst 1, 1) := by decide +kernel
theorem dX5_forget_22 : decode cX5_forget 22 = .ok (.iload_n 1, 1) := by decide +kernel
theorem dX5_forget_23 : decode cX5_forget 23 = .ok (.iadd, 1) := by decide +kernel
theorem dX5_forget_24 : decode cX5_forget 24 = .ok (.iaload, 1) := by decide +kernel
theorem dX5_forget_25 : decode cX5_forget 25 = .ok (.istore_n 2, 1) := by decide +kernel
theorem dX5_forget_26 : decode cX5_forget 26 = .ok (.aload_n 0, 1) := by decide +kernel
theorem dX5_forget_27 : decode cX5_forget 27 = .ok (.getfield 7, 3) := by decide +kernel
theorem dX5_forget_30 : decode cX5_forget 30 = .ok (.iconst 1, 1) := by decide +kernel
theorem dX5_forget_31 : decode cX5_forget 31 = .ok (.iload_n 1, 1) := by decide +kernel
theorem dX5_forget_32 : decode cX5_forget 32 = .ok (.iadd, 1) := by decide +kernel
theorem dX5_forget_33 : decode cX5_forget 33 = .ok (.iconst 0, 1) := by decide +kernel
theorem dX5_forget_34 : decode cX5_forget 34 = .ok (.iastore, 1) := by decide +kernel
theorem dX5_forget_35 : decode cX5_forget 35 = .ok (.iload_n 2, 1) := by decide +kernel
theorem dX5_forget_36 : decode cX5_forget 36 = .ok (.ireturn, 1) := by decide +kernel
theorem dX5_kinds_0 : decode cX5_kinds 0 = .ok (.iconst 0, 1) := by decide +kernel
theorem dX5_kinds_1 : decode cX5_kinds 1 = .ok (.istore_n 1, 1) := by decide +kernel
theorem dX5_kinds_2 : decode cX5_kinds 2 = .ok (.iconst 0, 1) := by decide +kernel
theorem dX5_kinds_3 : decode cX5_kinds 3 = .ok (.istore_n 2, 1) := by decide +kernel
theorem dX5_kinds_4 : decode cX5_kinds 4 = .ok (.iload_n 2, 1) := by decide +kernel
theorem dX5_kinds_5 : decode cX5_kinds 5 = .ok (.bipush 6, 2) := by decide +kernel
theorem dX5_kinds_7 : decode cX5_kinds 7 = .ok (.if_icmp .ge 96, 3) := by decide +kernel
theorem dX5_kinds_10 : decode cX5_kinds 10 = .ok (.iconst 1, 1) := by decide +kernel
theorem dX5_kinds_11 : decode cX5_kinds 11 = .ok (.istore_n 3, 1) := by decide +kernel
theorem dX5_kinds_12 : decode cX5_kinds 12 = .ok (.iconst 0, 1) := by decide +kernel
theorem dX5_kinds_13 : decode cX5_kinds 13 = .ok (.istore 4, 2) := by decide +kernel
theorem dX5_kinds_15 : decode cX5_kinds 15 = .ok (.iload 4, 2) := by decide +kernel
theorem dX5_kinds_17 : decode cX5_kinds 17 = .ok (.aload_n 0, 1) := by decide +kernel
theorem dX5_kinds_18 : decode cX5_kinds 18 = .ok (.getfield 7, 3) := by decide +kernel
theorem dX5_kinds_21 : decode cX5_kinds 21 = .ok (.iconst 2, 1) := by decide +kernel
theorem dX5_kinds_22 : decode cX5_kinds 22 = .ok (.iaload, 1) := by decide +kernel
theorem dX5_kinds_23 : decode cX5_kinds 23 = .ok (.if_icmp .ge 60, 3) := by decide +kernel
theorem dX5_kinds_26 : decode cX5_kinds 26 = .ok (.bipush 68, 2) := by decide +kernel
theorem dX5_kinds_28 : decode cX5_kinds 28 = .ok (.iconst 3, 1) := by decide +kernel
theorem dX5_kinds_29 : decode cX5_kinds 29 = .ok (.iload 4, 2) := by decide +kernel
theorem dX5_kinds_31 : decode cX5_kinds 31 = .ok (.imul, 1) := by decide +kernel
theorem dX5_kinds_32 : decode cX5_kinds 32 = .ok (.iadd, 1) := by decide +kernel
theorem dX5_kinds_33 : decode cX5_kinds 33 = .ok (.istore 5, 2) := by decide +kernel
theorem dX5_kinds_35 : decode cX5_kinds 35 = .ok (.iload_n 3, 1) := by decide +kernel
theorem dX5_kinds_36 : decode cX5_kinds 36 = .ok (.ifCond .eq 39, 3) := by decide +kernel
theorem dX5_kinds_39 : decode cX5_kinds 39 = .ok (.iload_n 2, 1) := by decide +kernel
theorem dX5_kinds_40 : decode cX5_kinds 40 = .ok (.aload_n 0, 1) := by decide +kernel
theorem dX5_kinds_41 : decode cX5_kinds 41 = .ok (.getfield 7, 3) := by decide +kernel
theorem dX5_kinds_44 : decode cX5_kinds 44 = .ok (.iload 5, 2) := by decide +kernel
theorem dX5_kinds_46 : decode cX5_kinds 46 = .ok (.iconst 1, 1) := by decide +kernel
theorem dX5_kinds_47 : decode cX5_kinds 47 = .ok (.iadd, 1) := by decide +kernel
theorem dX5_kinds_48 : decode cX5_kinds 48 = .ok (.iaload, 1) := by decide +kernel
theorem dX5_kinds_49 : decode cX5_kinds 49 = .ok (.aload_n 0, 1) := by decide +kernel
theorem dX5_kinds_50 : decode cX5_kinds 50 = .ok (.getfield 7, 3) := by decide +kernel
theorem dX5_kinds_53 : decode cX5_kinds 53 = .ok (.iload 5, 2) := by decide +kernel
theorem dX5_kinds_55 : decode cX5_kinds 55 = .ok (.iaload, 1) := by decide +kernel
theorem dX5_kinds_56 : decode cX5_kinds 56 = .ok (.invokestatic 109, 3) := by decide +kernel
theorem dX5_kinds_59 : decode cX5_kinds 59 = .ok (.aload_n 0, 1) := by decide +kernel
theorem dX5_kinds_60 : decode cX5_kinds 60 = .ok (.getfield 7, 3) := by decide +kernel
theorem dX5_kinds_63 : decode cX5_kinds 63 = .ok (.iload 5, 2) := by decide +kernel
theorem dX5_kinds_65 : decode cX5_kinds 65 = .ok (.iconst 2, 1) := by decide +kernel
theorem dX5_kinds_66 : decode cX5_kinds 66 = .ok (.iadd, 1) := by decide +kernel
theorem dX5_kinds_67 : decode cX5_kinds 67 = .ok (.iaload, 1) := by decide +kernel
theorem dX5_kinds_68 : decode cX5_kinds 68 = .ok (.if_icmp .ne 7, 3) := by decide +kernel
theorem dX5_kinds_71 : decode cX5_kinds 71 = .ok (.iconst 1, 1) := by decide +kernel
theorem dX5_kinds_72 : decode cX5_kinds 72 = .ok (.goto 4, 3) := by decide +kernel
theorem dX5_kinds_75 : decode cX5_kinds 75 = .ok (.iconst 0, 1) := by decide +kernel
theorem dX5_kinds_76 : decode cX5_kinds 76 = .ok (.istore_n 3, 1) := by decide +kernel
theorem dX5_kinds_77 : decode cX5_kinds 77 = .ok (.iinc 4 1, 3) := by decide +kernel
theorem dX5_kinds_80 : decode cX5_kinds 80 = .ok (.goto (-65), 3) := by decide +kernel
theorem dX5_kinds_83 : decode cX5_kinds 83 = .ok (.iload_n 1, 1) := by decide +kernel
theorem dX5_kinds_84 : decode cX5_kinds 84 = .ok (.iload_n 3, 1) := by decide +kernel
theorem dX5_kinds_85 : decode cX5_kinds 85 = .ok (.ifCond .eq 9, 3) := by decide +kernel
theorem dX5_kinds_88 : decode cX5_kinds 88 = .ok (.iconst 1, 1) := by decide +kernel
theorem dX5_kinds_89 : decode cX5_kinds 89 = .ok (.iload_n 2, 1) := by decide +kernel
theorem dX5_kinds_90 : decode cX5_kinds 90 = .ok (.ishl, 1) := by decide +kernel
theorem dX5_kinds_91 : decode cX5_kinds 91 = .ok (.goto 4, 3) := by decide +kernel
theorem dX5_kinds_94 : decode cX5_kinds 94 = .ok (.iconst 0, 1) := by decide +kernel
theorem dX5_kinds_95 : decode cX5_kinds 95 = .ok (.ior, 1) := by decide +kernel
theorem dX5_kinds_96 : decode cX5_kinds 96 = .ok (.istore_n 1, 1) := by decide +kernel
theorem dX5_kinds_97 : decode cX5_kinds 97 = .ok (.iinc 2 1, 3) := by decide +kernel
theorem dX5_kinds_100 : decode cX5_kinds 100 = .ok (.goto (-96), 3) := by decide +kernel
theorem dX5_kinds_103 : decode cX5_kinds 103 = .ok (.iload_n 1, 1) := by decide +kernel
theorem dX5_kinds_104 : decode cX5_kinds 104 = .ok (.ireturn, 1) := by decide +kernel
theorem dX5_look_0 : decode cX5_look 0 = .ok (.aload_n 0, 1) := by decide +kernel
theorem dX5_look_1 : decode cX5_look 1 = .ok (.aload_n 0, 1) := by decide +kernel
theorem dX5_look_2 : decode cX5_look 2 = .ok (.invokevirtual 166, 3) := by decide +kernel
theorem dX5_look_5 : decode cX5_look 5 = .ok (.iconst 1, 1) := by decide +kernel
theorem dX5_look_6 : decode cX5_look 6 = .ok (.bipush 6, 2) := by decide +kernel
theorem dX5_look_8 : decode cX5_look 8 = .ok (.iconst 0, 1) := by decide +kernel
theorem dX5_look_9 : decode cX5_look 9 = .ok (.invokevirtual 160, 3) := by decide +kernel
theorem dX5_look_12 : decode cX5_look 12 = .ok (.ireturn, 1) := by decide +kernel
theorem dX5_layLost_0 : decode cX5_layLost 0 = .ok (.iconst 0, 1) := by decide +kernel
theorem dX5_layLost_1 : decode cX5_layLost 1 = .ok (.istore_n 1, 1) := by decide +kernel
theorem dX5_layLost_2 : decode cX5_layLost 2 = .ok (.iload_n 1, 1) := by decide +kernel
theorem dX5_layLost_3 : decode cX5_layLost 3 = .ok (.aload_n 0, 1) := by decide +kernel
theorem dX5_layLost_4 : decode cX5_layLost 4 = .ok (.invokevirtual 49, 3) := by decide +kernel
theorem dX5_layLost_7 : decode cX5_layLost 7 = .ok (.if_icmp .gt 104, 3) := by decide +kernel
theorem dX5_layLost_10 : decode cX5_layLost 10 = .ok (.iconst 0, 1) := by decide +kernel
theorem dX5_layLost_11 : decode cX5_layLost 11 = .ok (.istore_n 2, 1) := by decide +kernel
theorem dX5_layLost_12 : decode cX5_layLost 12 = .ok (.iload_n 2, 1) := by decide +kernel
theorem dX5_layLost_13 : decode cX5_layLost 13 = .ok (.aload_n 0, 1) := by decide +kernel
theorem dX5_layLost_14 : decode cX5_layLost 14 = .ok (.invokevirtual 49, 3) := by decide +kernel
theorem dX5_layLost_17 : decode cX5_layLost 17 = .ok (.if_icmp .gt 88, 3) := by decide +kernel
theorem dX5_layLost_20 : decode cX5_layLost 20 = .ok (.aload_n 0, 1) := by decide +kernel
theorem dX5_layLost_21 : decode cX5_layLost 21 = .ok (.invokevirtual 136, 3) := by decide +kernel
theorem dX5_layLost_24 : decode cX5_layLost 24 = .ok (.iload_n 2, 1) := by decide +kernel
theorem dX5_layLost_25 : decode cX5_layLost 25 = .ok (.aload_n 0, 1) := by decide +kernel
theorem dX5_layLost_26 : decode cX5_layLost 26 = .ok (.invokevirtual 49, 3) := by decide +kernel
theorem dX5_layLost_29 : decode cX5_layLost 29 = .ok (.if_icmp .ge 37, 3) := by decide +kernel
theorem dX5_layLost_32 : decode cX5_layLost 32 = .ok (.aload_n 0, 1) := by decide +kernel
theorem dX5_layLost_33 : decode cX5_layLost 33 = .ok (.getfield 27, 3) := by decide +kernel
theorem dX5_layLost_36 : decode cX5_layLost 36 = .ok (.bipush 7, 2) := by decide +kernel
theorem dX5_layLost_38 : decode cX5_layLost 38 = .ok (.iload_n 2, 1) := by decide +kernel
theorem dX5_layLost_39 : decode cX5_layLost 39 = .ok (.iadd, 1) := by decide +kernel
theorem dX5_layLost_40 : decode cX5_layLost 40 = .ok (.iaload, 1) := by decide +kernel
theorem dX5_layLost_41 : decode cX5_layLost 41 = .ok (.bipush 10, 2) := by decide +kernel
theorem dX5_layLost_43 : decode cX5_layLost 43 = .ok (.iadd, 1) := by decide +kernel
theorem dX5_layLost_44 : decode cX5_layLost 44 = .ok (.istore_n 3, 1) := by decide +kernel
theorem dX5_layLost_45 : decode cX5_layLost 45 = .ok (.aload_n 0, 1) := by decide +kernel
theorem dX5_layLost_46 : decode cX5_layLost 46 = .ok (.getfield 27, 3) := by decide +kernel
theorem dX5_layLost_49 : decode cX5_layLost 49 = .ok (.bipush 7, 2) := by decide +kernel
theorem dX5_layLost_51 : decode cX5_layLost 51 = .ok (.iload_n 2, 1) := by decide +kernel
theorem dX5_layLost_52 : decode cX5_layLost 52 = .ok (.iadd, 1) := by decide +kernel
theorem dX5_layLost_53 : decode cX5_layLost 53 = .ok (.iload_n 3, 1) := by decide +kernel
theorem dX5_layLost_54 : decode cX5_layLost 54 = .ok (.bipush 59, 2) := by decide +kernel
theorem dX5_layLost_56 : decode cX5_layLost 56 = .ok (.if_icmp .le 8, 3) := by decide +kernel
theorem dX5_layLost_59 : decode cX5_layLost 59 = .ok (.bipush 59, 2) := by decide +kernel
theorem dX5_layLost_61 : decode cX5_layLost 61 = .ok (.goto 4, 3) := by decide +kernel
theorem dX5_layLost_64 : decode cX5_layLost 64 = .ok (.iload_n 3, 1) := by decide +kernel
theorem dX5_layLost_65 : decode cX5_layLost 65 = .ok (.iastore, 1) := by decide +kernel
theorem dX5_layLost_66 : decode cX5_layLost 66 = .ok (.aload_n 0, 1) := by decide +kernel
theorem dX5_layLost_67 : decode cX5_layLost 67 = .ok (.getfield 33, 3) := by decide +kernel
theorem dX5_layLost_70 : decode cX5_layLost 70 = .ok (.bipush 8, 2) := by decide +kernel
theorem dX5_layLost_72 : decode cX5_layLost 72 = .ok (.iload_n 1, 1) := by decide +kernel
theorem dX5_layLost_73 : decode cX5_layLost 73 = .ok (.imul, 1) := by decide +kernel
theorem dX5_layLost_74 : decode cX5_layLost 74 = .ok (.iload_n 2, 1) := by decide +kernel
theorem dX5_layLost_75 : decode cX5_layLost 75 = .ok (.iadd, 1) := by decide +kernel
theorem dX5_layLost_76 : decode cX5_layLost 76 = .ok (.aload_n 0, 1) := by decide +kernel
theorem dX5_layLost_77 : decode cX5_layLost 77 = .ok (.aload_n 0, 1) := by decide +kernel
theorem dX5_layLost_78 : decode cX5_layLost 78 = .ok (.getfield 27, 3) := by decide +kernel
theorem dX5_layLost_81 : decode cX5_layLost 81 = .ok (.iload_n 1, 1) := by decide +kernel
theorem dX5_layLost_82 : decode cX5_layLost 82 = .ok (.aload_n 0, 1) := by decide +kernel
theorem dX5_layLost_83 : decode cX5_layLost 83 = .ok (.invokevirtual 49, 3) := by decide +kernel
theorem dX5_layLost_86 : decode cX5_layLost 86 = .ok (.if_icmp .ne 8, 3) := by decide +kernel
theorem dX5_layLost_89 : decode cX5_layLost 89 = .ok (.bipush 7, 2) := by decide +kernel
theorem dX5_layLost_91 : decode cX5_layLost 91 = .ok (.goto 4, 3) := by decide +kernel
theorem dX5_layLost_94 : decode cX5_layLost 94 = .ok (.iload_n 1, 1) := by decide +kernel
theorem dX5_layLost_95 : decode cX5_layLost 95 = .ok (.invokevirtual 126, 3) := by decide +kernel
theorem dX5_layLost_98 : decode cX5_layLost 98 = .ok (.iastore, 1) := by decide +kernel
theorem dX5_layLost_99 : decode cX5_layLost 99 = .ok (.iinc 2 1, 3) := by decide +kernel
theorem dX5_layLost_102 : decode cX5_layLost 102 = .ok (.goto (-90), 3) := by decide +kernel
theorem dX5_layLost_105 : decode cX5_layLost 105 = .ok (.iinc 1 1, 3) := by decide +kernel
theorem dX5_layLost_108 : decode cX5_layLost 108 = .ok (.goto (-106), 3) := by decide +kernel
theorem dX5_layLost_111 : decode cX5_layLost 111 = .ok (.return_, 1) := by decide +kernel
theorem dX5_rests_0 : decode cX5_rests 0 = .ok (.iconst 1, 1) := by decide +kernel
theorem dX5_rests_1 : decode cX5_rests 1 = .ok (.istore_n 3, 1) := by decide +kernel
theorem dX5_rests_2 : decode cX5_rests 2 = .ok (.iconst 0, 1) := by decide +kernel
theorem dX5_rests_3 : decode cX5_rests 3 = .ok (.istore 4, 2) := by decide +kernel
theorem dX5_rests_5 : decode cX5_rests 5 = .ok (.iload 4, 2) := by decide +kernel
theorem dX5_rests_7 : decode cX5_rests 7 = .ok (.aload_n 0, 1) := by decide +kernel
theorem dX5_rests_8 : decode cX5_rests 8 = .ok (.invokevirtual 49, 3) := by decide +kernel
theorem dX5_rests_11 : decode cX5_rests 11 = .ok (.if_icmp .gt 71, 3) := by decide +kernel
theorem dX5_rests_14 : decode cX5_rests 14 = .ok (.iload_n 3, 1) := by decide +kernel
theorem dX5_rests_15 : decode cX5_rests 15 = .ok (.ifCond .eq 59, 3) := by decide +kernel
theorem dX5_rests_18 : decode cX5_rests 18 = .ok (.aload_n 0, 1) := by decide +kernel
theorem dX5_rests_19 : decode cX5_rests 19 = .ok (.getfield 33, 3) := by decide +kernel
theorem dX5_rests_22 : decode cX5_rests 22 = .ok (.bipush 8, 2) := by decide +kernel
theorem dX5_rests_24 : decode cX5_rests 24 = .ok (.iload 4, 2) := by decide +kernel
theorem dX5_rests_26 : decode cX5_rests 26 = .ok (.imul, 1) := by decide +kernel
theorem dX5_rests_27 : decode cX5_rests 27 = .ok (.iload_n 2, 1) := by decide +kernel
theorem dX5_rests_28 : decode cX5_rests 28 = .ok (.iadd, 1) := by decide +kernel
theorem dX5_rests_29 : decode cX5_rests 29 = .ok (.iaload, 1) := by decide +kernel
theorem dX5_rests_30 : decode cX5_rests 30 = .ok (.aload_n 0, 1) := by decide +kernel
theorem dX5_rests_31 : decode cX5_rests 31 = .ok (.getfield 33, 3) := by decide +kernel
theorem dX5_rests_34 : decode cX5_rests 34 = .ok (.bipush 8, 2) := by decide +kernel
theorem dX5_rests_36 : decode cX5_rests 36 = .ok (.iload_n 1, 1) := by decide +kernel
theorem dX5_rests_37 : decode cX5_rests 37 = .ok (.imul, 1) := by decide +kernel
theorem dX5_rests_38 : decode cX5_rests 38 = .ok (.iload_n 2, 1) := by decide +kernel
theorem dX5_rests_39 : decode cX5_rests 39 = .ok (.iadd, 1) := by decide +kernel
theorem dX5_rests_40 : decode cX5_rests 40 = .ok (.iaload, 1) := by decide +kernel
theorem dX5_rests_41 : decode cX5_rests 41 = .ok (.if_icmp .lt 33, 3) := by decide +kernel
theorem dX5_rests_44 : decode cX5_rests 44 = .ok (.aload_n 0, 1) := by decide +kernel
theorem dX5_rests_45 : decode cX5_rests 45 = .ok (.getfield 33, 3) := by decide +kernel
theorem dX5_rests_48 : decode cX5_rests 48 = .ok (.bipush 8, 2) := by decide +kernel
theorem dX5_rests_50 : decode cX5_rests 50 = .ok (.iload_n 1, 1) := by decide +kernel
theorem dX5_rests_51 : decode cX5_rests 51 = .ok (.imul, 1) := by decide +kernel
theorem dX5_rests_52 : decode cX5_rests 52 = .ok (.iload 4, 2) := by decide +kernel
theorem dX5_rests_54 : decode cX5_rests 54 = .ok (.iadd, 1) := by decide +kernel
theorem dX5_rests_55 : decode cX5_rests 55 = .ok (.iaload, 1) := by decide +kernel
theorem dX5_rests_56 : decode cX5_rests 56 = .ok (.aload_n 0, 1) := by decide +kernel
theorem dX5_rests_57 : decode cX5_rests 57 = .ok (.getfield 33, 3) := by decide +kernel
theorem dX5_rests_60 : decode cX5_rests 60 = .ok (.bipush 8, 2) := by decide +kernel
theorem dX5_rests_62 : decode cX5_rests 62 = .ok (.iload_n 1, 1) := by decide +kernel
theorem dX5_rests_63 : decode cX5_rests 63 = .ok (.imul, 1) := by decide +kernel
theorem dX5_rests_64 : decode cX5_rests 64 = .ok (.iload_n 2, 1) := by decide +kernel
theorem dX5_rests_65 : decode cX5_rests 65 = .ok (.iadd, 1) := by decide +kernel
theorem dX5_rests_66 : decode cX5_rests 66 = .ok (.iaload, 1) := by decide +kernel
theorem dX5_rests_67 : decode cX5_rests 67 = .ok (.if_icmp .gt 7, 3) := by decide +kernel
theorem dX5_rests_70 : decode cX5_rests 70 = .ok (.iconst 1, 1) := by decide +kernel
theorem dX5_rests_71 : decode cX5_rests 71 = .ok (.goto 4, 3) := by decide +kernel
theorem dX5_rests_74 : decode cX5_rests 74 = .ok (.iconst 0, 1) := by decide +kernel
theorem dX5_rests_75 : decode cX5_rests 75 = .ok (.istore_n 3, 1) := by decide +kernel
theorem dX5_rests_76 : decode cX5_rests 76 = .ok (.iinc 4 1, 3) := by decide +kernel
theorem dX5_rests_79 : decode cX5_rests 79 = .ok (.goto (-74), 3) := by decide +kernel
theorem dX5_rests_82 : decode cX5_rests 82 = .ok (.iload_n 3, 1) := by decide +kernel
theorem dX5_rests_83 : decode cX5_rests 83 = .ok (.ireturn, 1) := by decide +kernel
theorem dX5_named_0 : decode cX5_named 0 = .ok (.iload_n 1, 1) := by decide +kernel
theorem dX5_named_1 : decode cX5_named 1 = .ok (.aload_n 0, 1) := by decide +kernel
theorem dX5_named_2 : decode cX5_named 2 = .ok (.invokevirtual 49, 3) := by decide +kernel
theorem dX5_named_5 : decode cX5_named 5 = .ok (.if_icmp .ne 8, 3) := by decide +kernel
theorem dX5_named_8 : decode cX5_named 8 = .ok (.bipush 7, 2) := by decide +kernel
theorem dX5_named_10 : decode cX5_named 10 = .ok (.goto 4, 3) := by decide +kernel
theorem dX5_named_13 : decode cX5_named 13 = .ok (.iload_n 1, 1) := by decide +kernel
theorem dX5_named_14 : decode cX5_named 14 = .ok (.ireturn, 1) := by decide +kernel
theorem dX5_waiting_0 : decode cX5_waiting 0 = .ok (.iload_n 1, 1) := by decide +kernel
theorem dX5_waiting_1 : decode cX5_waiting 1 = .ok (.iconst (-1), 1) := by decide +kernel
theorem dX5_waiting_2 : decode cX5_waiting 2 = .ok (.if_icmp .ge 10, 3) := by decide +kernel
theorem dX5_waiting_5 : decode cX5_waiting 5 = .ok (.aload_n 0, 1) := by decide +kernel
theorem dX5_waiting_6 : decode cX5_waiting 6 = .ok (.bipush (-10), 2) := by decide +kernel
theorem dX5_waiting_8 : decode cX5_waiting 8 = .ok (.invokevirtual 67, 3) := by decide +kernel
theorem dX5_waiting_11 : decode cX5_waiting 11 = .ok (.ireturn, 1) := by decide +kernel
theorem dX5_waiting_12 : decode cX5_waiting 12 = .ok (.iconst 0, 1) := by decide +kernel
theorem dX5_waiting_13 : decode cX5_waiting 13 = .ok (.istore_n 2, 1) := by decide +kernel
theorem dX5_waiting_14 : decode cX5_waiting 14 = .ok (.aload_n 0, 1) := by decide +kernel
theorem dX5_waiting_15 : decode cX5_waiting 15 = .ok (.invokevirtual 169, 3) := by decide +kernel
theorem dX5_waiting_18 : decode cX5_waiting 18 = .ok (.iconst 0, 1) := by decide +kernel
theorem dX5_waiting_19 : decode cX5_waiting 19 = .ok (.istore_n 3, 1) := by decide +kernel
theorem dX5_waiting_20 : decode cX5_waiting 20 = .ok (.iload_n 3, 1) := by decide +kernel
theorem dX5_waiting_21 : decode cX5_waiting 21 = .ok (.aload_n 0, 1) := by decide +kernel
theorem dX5_waiting_22 : decode cX5_waiting 22 = .ok (.invokevirtual 49, 3) := by decide +kernel
theorem dX5_waiting_25 : decode cX5_waiting 25 = .ok (.if_icmp .gt 61, 3) := by decide +kernel
theorem dX5_waiting_28 : decode cX5_waiting 28 = .ok (.iconst 0, 1) := by decide +kernel
theorem dX5_waiting_29 : decode cX5_waiting 29 = .ok (.istore 4, 2) := by decide +kernel
theorem dX5_waiting_31 : decode cX5_waiting 31 = .ok (.iload 4, 2) := by decide +kernel
theorem dX5_waiting_33 : decode cX5_waiting 33 = .ok (.aload_n 0, 1) := by decide +kernel
theorem dX5_waiting_34 : decode cX5_waiting 34 = .ok (.invokevirtual 49, 3) := by decide +kernel
theorem dX5_waiting_37 : decode cX5_waiting 37 = .ok (.if_icmp .gt 43, 3) := by decide +kernel
theorem dX5_waiting_40 : decode cX5_waiting 40 = .ok (.aload_n 0, 1) := by decide +kernel
theorem dX5_waiting_41 : decode cX5_waiting 41 = .ok (.iload_n 3, 1) := by decide +kernel
theorem dX5_waiting_42 : decode cX5_waiting 42 = .ok (.iload 4, 2) := by decide +kernel
theorem dX5_waiting_44 : decode cX5_waiting 44 = .ok (.invokevirtual 172, 3) := by decide +kernel
theorem dX5_waiting_47 : decode cX5_waiting 47 = .ok (.ifCond .eq 27, 3) := by decide +kernel
theorem dX5_waiting_50 : decode cX5_waiting 50 = .ok (.iload_n 2, 1) := by decide +kernel
theorem dX5_waiting_51 : decode cX5_waiting 51 = .ok (.iload_n 1, 1) := by decide +kernel
theorem dX5_waiting_52 : decode cX5_waiting 52 = .ok (.if_icmp .ne 19, 3) := by decide +kernel
theorem dX5_waiting_55 : decode cX5_waiting 55 = .ok (.bipush 10, 2) := by decide +kernel
theorem dX5_waiting_57 : decode cX5_waiting 57 = .ok (.aload_n 0, 1) := by decide +kernel
theorem dX5_waiting_58 : decode cX5_waiting 58 = .ok (.iload_n 3, 1) := by decide +kernel
theorem dX5_waiting_59 : decode cX5_waiting 59 = .ok (.invokevirtual 175, 3) := by decide +kernel
theorem dX5_waiting_62 : decode cX5_waiting 62 = .ok (.imul, 1) := by decide +kernel
theorem dX5_waiting_63 : decode cX5_waiting 63 = .ok (.aload_n 0, 1) := by decide +kernel
theorem dX5_waiting_64 : decode cX5_waiting 64 = .ok (.iload 4, 2) := by decide +kernel
theorem dX5_waiting_66 : decode cX5_waiting 66 = .ok (.invokevirtual 175, 3) := by decide +kernel
theorem dX5_waiting_69 : decode cX5_waiting 69 = .ok (.iadd, 1) := by decide +kernel
theorem dX5_waiting_70 : decode cX5_waiting 70 = .ok (.ireturn, 1) := by decide +kernel
theorem dX5_waiting_71 : decode cX5_waiting 71 = .ok (.iinc 2 1, 3) := by decide +kernel
theorem dX5_waiting_74 : decode cX5_waiting 74 = .ok (.iinc 4 1, 3) := by decide +kernel
theorem dX5_waiting_77 : decode cX5_waiting 77 = .ok (.goto (-46), 3) := by decide +kernel
theorem dX5_waiting_80 : decode cX5_waiting 80 = .ok (.iinc 3 1, 3) := by decide +kernel
theorem dX5_waiting_83 : decode cX5_waiting 83 = .ok (.goto (-63), 3) := by decide +kernel
theorem dX5_waiting_86 : decode cX5_waiting 86 = .ok (.iload_n 1, 1) := by decide +kernel
theorem dX5_waiting_87 : decode cX5_waiting 87 = .ok (.iconst (-1), 1) := by decide +kernel
theorem dX5_waiting_88 : decode cX5_waiting 88 = .ok (.if_icmp .ne 7, 3) := by decide +kernel
theorem dX5_waiting_91 : decode cX5_waiting 91 = .ok (.iload_n 2, 1) := by decide +kernel
theorem dX5_waiting_92 : decode cX5_waiting 92 = .ok (.goto 5, 3) := by decide +kernel
theorem dX5_waiting_95 : decode cX5_waiting 95 = .ok (.bipush (-5), 2) := by decide +kernel
theorem dX5_waiting_97 : decode cX5_waiting 97 = .ok (.ireturn, 1) := by decide +kernel
theorem dX5_fraction_0 : decode cX5_fraction 0 = .ok (.lload_n 1, 1) := by decide +kernel
theorem dX5_fraction_1 : decode cX5_fraction 1 = .ok (.lstore 5, 2) := by decide +kernel
theorem dX5_fraction_3 : decode cX5_fraction 3 = .ok (.lload_n 3, 1) := by decide +kernel
theorem dX5_fraction_4 : decode cX5_fraction 4 = .ok (.lstore 7, 2) := by decide +kernel
theorem dX5_fraction_6 : decode cX5_fraction 6 = .ok (.lload 7, 2) := by decide +kernel
theorem dX5_fraction_8 : decode cX5_fraction 8 = .ok (.lconst 0, 1) := by decide +kernel
theorem dX5_fraction_9 : decode cX5_fraction 9 = .ok (.lcmp, 1) := by decide +kernel
theorem dX5_fraction_10 : decode cX5_fraction 10 = .ok (.ifCond .eq 21, 3) := by decide +kernel
theorem dX5_fraction_13 : decode cX5_fraction 13 = .ok (.lload 5, 2) := by decide +kernel
theorem dX5_fraction_15 : decode cX5_fraction 15 = .ok (.lload 7, 2) := by decide +kernel
theorem dX5_fraction_17 : decode cX5_fraction 17 = .ok (.lrem, 1) := by decide +kernel
theorem dX5_fraction_18 : decode cX5_fraction 18 = .ok (.lstore 9, 2) := by decide +kernel
theorem dX5_fraction_20 : decode cX5_fraction 20 = .ok (.lload 7, 2) := by decide +kernel
theorem dX5_fraction_22 : decode cX5_fraction 22 = .ok (.lstore 5, 2) := by decide +kernel
theorem dX5_fraction_24 : decode cX5_fraction 24 = .ok (.lload 9, 2) := by decide +kernel
theorem dX5_fraction_26 : decode cX5_fraction 26 = .ok (.lstore 7, 2) := by decide +kernel
theorem dX5_fraction_28 : decode cX5_fraction 28 = .ok (.goto (-22), 3) := by decide +kernel
theorem dX5_fraction_31 : decode cX5_fraction 31 = .ok (.aload_n 0, 1) := by decide +kernel
theorem dX5_fraction_32 : decode cX5_fraction 32 = .ok (.lload_n 1, 1) := by decide +kernel
theorem dX5_fraction_33 : decode cX5_fraction 33 = .ok (.lload 5, 2) := by decide +kernel
theorem dX5_fraction_35 : decode cX5_fraction 35 = .ok (.ldiv, 1) := by decide +kernel
theorem dX5_fraction_36 : decode cX5_fraction 36 = .ok (.putfield 178, 3) := by decide +kernel
theorem dX5_fraction_39 : decode cX5_fraction 39 = .ok (.aload_n 0, 1) := by decide +kernel
theorem dX5_fraction_40 : decode cX5_fraction 40 = .ok (.lload_n 3, 1) := by decide +kernel
theorem dX5_fraction_41 : decode cX5_fraction 41 = .ok (.lload 5, 2) := by decide +kernel
theorem dX5_fraction_43 : decode cX5_fraction 43 = .ok (.ldiv, 1) := by decide +kernel
theorem dX5_fraction_44 : decode cX5_fraction 44 = .ok (.putfield 23, 3) := by decide +kernel
theorem dX5_fraction_47 : decode cX5_fraction 47 = .ok (.return_, 1) := by decide +kernel
theorem dX5_chance_0 : decode cX5_chance 0 = .ok (.iload_n 1, 1) := by decide +kernel
theorem dX5_chance_1 : decode cX5_chance 1 = .ok (.i2l, 1) := by decide +kernel
theorem dX5_chance_2 : decode cX5_chance 2 = .ok (.lconst 0, 1) := by decide +kernel
theorem dX5_chance_3 : decode cX5_chance 3 = .ok (.ldc2_w 132, 3) := by decide +kernel
theorem dX5_chance_6 : decode cX5_chance 6 = .ok (.invokestatic 53, 3) := by decide +kernel
theorem dX5_chance_9 : decode cX5_chance 9 = .ok (.ifCond .eq 27, 3) := by decide +kernel
theorem dX5_chance_12 : decode cX5_chance 12 = .ok (.iload_n 2, 1) := by decide +kernel
theorem dX5_chance_13 : decode cX5_chance 13 = .ok (.i2l, 1) := by decide +kernel
theorem dX5_chance_14 : decode cX5_chance 14 = .ok (.lconst 0, 1) := by decide +kernel
theorem dX5_chance_15 : decode cX5_chance 15 = .ok (.ldc2_w 181, 3) := by decide +kernel
theorem dX5_chance_18 : decode cX5_chance 18 = .ok (.invokestatic 53, 3) := by decide +kernel
theorem dX5_chance_21 : decode cX5_chance 21 = .ok (.ifCond .eq 15, 3) := by decide +kernel
theorem dX5_chance_24 : decode cX5_chance 24 = .ok (.iload_n 3, 1) := by decide +kernel
theorem dX5_chance_25 : decode cX5_chance 25 = .ok (.i2l, 1) := by decide +kernel
theorem dX5_chance_26 : decode cX5_chance 26 = .ok (.lconst 0, 1) := by decide +kernel
theorem dX5_chance_27 : decode cX5_chance 27 = .ok (.ldc2_w 183, 3) := by decide +kernel
theorem dX5_chance_30 : decode cX5_chance 30 = .ok (.invokestatic 53, 3) := by decide +kernel
theorem dX5_chance_33 : decode cX5_chance 33 = .ok (.ifCond .ne 10, 3) := by decide +kernel
theorem dX5_chance_36 : decode cX5_chance 36 = .ok (.aload_n 0, 1) := by decide +kernel
theorem dX5_chance_37 : decode cX5_chance 37 = .ok (.bipush (-2), 2) := by decide +kernel
theorem dX5_chance_39 : decode cX5_chance 39 = .ok (.invokevirtual 67, 3) := by decide +kernel
theorem dX5_chance_42 : decode cX5_chance 42 = .ok (.ireturn, 1) := by decide +kernel
theorem dX5_chance_43 : decode cX5_chance 43 = .ok (.lconst 0, 1) := by decide +kernel
theorem dX5_chance_44 : decode cX5_chance 44 = .ok (.lstore 4, 2) := by decide +kernel
theorem dX5_chance_46 : decode cX5_chance 46 = .ok (.iconst 0, 1) := by decide +kernel
theorem dX5_chance_47 : decode cX5_chance 47 = .ok (.istore 6, 2) := by decide +kernel
theorem dX5_chance_49 : decode cX5_chance 49 = .ok (.iload 6, 2) := by decide +kernel
theorem dX5_chance_51 : decode cX5_chance 51 = .ok (.iconst 1, 1) := by decide +kernel
theorem dX5_chance_52 : decode cX5_chance 52 = .ok (.iload_n 1, 1) := by decide +kernel
theorem dX5_chance_53 : decode cX5_chance 53 = .ok (.ishl, 1) := by decide +kernel
theorem dX5_chance_54 : decode cX5_chance 54 = .ok (.if_icmp .ge 111, 3) := by decide +kernel
theorem dX5_chance_57 : decode cX5_chance 57 = .ok (.lconst 1, 1) := by decide +kernel
theorem dX5_chance_58 : decode cX5_chance 58 = .ok (.lstore 7, 2) := by decide +kernel
theorem dX5_chance_60 : decode cX5_chance 60 = .ok (.iconst 0, 1) := by decide +kernel
theorem dX5_chance_61 : decode cX5_chance 61 = .ok (.istore 9, 2) := by decide +kernel
theorem dX5_chance_63 : decode cX5_chance 63 = .ok (.aload_n 0, 1) := by decide +kernel
theorem dX5_chance_64 : decode cX5_chance 64 = .ok (.invokevirtual 136, 3) := by decide +kernel
theorem dX5_chance_67 : decode cX5_chance 67 = .ok (.iconst 0, 1) := by decide +kernel
theorem dX5_chance_68 : decode cX5_chance 68 = .ok (.istore 10, 2) := by decide +kernel
theorem dX5_chance_70 : decode cX5_chance 70 = .ok (.iload 10, 2) := by decide +kernel
theorem dX5_chance_72 : decode cX5_chance 72 = .ok (.iload_n 1, 1) := by decide +kernel
theorem dX5_chance_73 : decode cX5_chance 73 = .ok (.if_icmp .ge 69, 3) := by decide +kernel
theorem dX5_chance_76 : decode cX5_chance 76 = .ok (.lload 7, 2) := by decide +kernel
theorem dX5_chance_78 : decode cX5_chance 78 = .ok (.iload 6, 2) := by decide +kernel
theorem dX5_chance_80 : decode cX5_chance 80 = .ok (.iload 10, 2) := by decide +kernel
theorem dX5_chance_82 : decode cX5_chance 82 = .ok (.invokestatic 105, 3) := by decide +kernel
theorem dX5_chance_85 : decode cX5_chance 85 = .ok (.ifCond .eq 8, 3) := by decide +kernel
theorem dX5_chance_88 : decode cX5_chance 88 = .ok (.iload_n 3, 1) := by decide +kernel
theorem dX5_chance_89 : decode cX5_chance 89 = .ok (.i2l, 1) := by decide +kernel
theorem dX5_chance_90 : decode cX5_chance 90 = .ok (.goto 8, 3) := by decide +kernel
theorem dX5_chance_93 : decode cX5_chance 93 = .ok (.bipush 10, 2) := by decide +kernel
theorem dX5_chance_95 : decode cX5_chance 95 = .ok (.iload_n 3, 1) := by decide +kernel
theorem dX5_chance_96 : decode cX5_chance 96 = .ok (.isub, 1) := by decide +kernel
theorem dX5_chance_97 : decode cX5_chance 97 = .ok (.i2l, 1) := by decide +kernel
theorem dX5_chance_98 : decode cX5_chance 98 = .ok (.lmul, 1) := by decide +kernel
theorem dX5_chance_99 : decode cX5_chance 99 = .ok (.lstore 7, 2) := by decide +kernel
theorem dX5_chance_101 : decode cX5_chance 101 = .ok (.iload 9, 2) := by decide +kernel
theorem dX5_chance_103 : decode cX5_chance 103 = .ok (.aload_n 0, 1) := by decide +kernel
theorem dX5_chance_104 : decode cX5_chance 104 = .ok (.aload_n 0, 1) := by decide +kernel
theorem dX5_chance_105 : decode cX5_chance 105 = .ok (.getfield 27, 3) := by decide +kernel
theorem dX5_chance_108 : decode cX5_chance 108 = .ok (.iload 6, 2) := by decide +kernel
theorem dX5_chance_110 : decode cX5_chance 110 = .ok (.iload 10, 2) := by decide +kernel
theorem dX5_chance_112 : decode cX5_chance 112 = .ok (.invokestatic 105, 3) := by decide +kernel
theorem dX5_chance_115 : decode cX5_chance 115 = .ok (.ifCond .eq 13, 3) := by decide +kernel
theorem dX5_chance_118 : decode cX5_chance 118 = .ok (.aload_n 0, 1) := by decide +kernel
theorem dX5_chance_119 : decode cX5_chance 119 = .ok (.getfield 27, 3) := by decide +kernel
theorem dX5_chance_122 : decode cX5_chance 122 = .ok (.invokestatic 149, 3) := by decide +kernel
theorem dX5_chance_125 : decode cX5_chance 125 = .ok (.goto 5, 3) := by decide +kernel
theorem dX5_chance_128 : decode cX5_chance 128 = .ok (.bipush 7, 2) := by decide +kernel
theorem dX5_chance_130 : decode cX5_chance 130 = .ok (.invokevirtual 126, 3) := by decide +kernel
theorem dX5_chance_133 : decode cX5_chance 133 = .ok (.iadd, 1) := by decide +kernel
theorem dX5_chance_134 : decode cX5_chance 134 = .ok (.istore 9, 2) := by decide +kernel
theorem dX5_chance_136 : decode cX5_chance 136 = .ok (.iinc 10 1, 3) := by decide +kernel
theorem dX5_chance_139 : decode cX5_chance 139 = .ok (.goto (-69), 3) := by decide +kernel
theorem dX5_chance_142 : decode cX5_chance 142 = .ok (.lload 4, 2) := by decide +kernel
theorem dX5_chance_144 : decode cX5_chance 144 = .ok (.iload 9, 2) := by decide +kernel
theorem dX5_chance_146 : decode cX5_chance 146 = .ok (.iload_n 2, 1) := by decide +kernel
theorem dX5_chance_147 : decode cX5_chance 147 = .ok (.if_icmp .lt 8, 3) := by decide +kernel
theorem dX5_chance_150 : decode cX5_chance 150 = .ok (.lload 7, 2) := by decide +kernel
theorem dX5_chance_152 : decode cX5_chance 152 = .ok (.goto 4, 3) := by decide +kernel
theorem dX5_chance_155 : decode cX5_chance 155 = .ok (.lconst 0, 1) := by decide +kernel
theorem dX5_chance_156 : decode cX5_chance 156 = .ok (.ladd, 1) := by decide +kernel
theorem dX5_chance_157 : decode cX5_chance 157 = .ok (.lstore 4, 2) := by decide +kernel
theorem dX5_chance_159 : decode cX5_chance 159 = .ok (.iinc 6 1, 3) := by decide +kernel
theorem dX5_chance_162 : decode cX5_chance 162 = .ok (.goto (-113), 3) := by decide +kernel
theorem dX5_chance_165 : decode cX5_chance 165 = .ok (.aload_n 0, 1) := by decide +kernel
theorem dX5_chance_166 : decode cX5_chance 166 = .ok (.lload 4, 2) := by decide +kernel
theorem dX5_chance_168 : decode cX5_chance 168 = .ok (.bipush 10, 2) := by decide +kernel
theorem dX5_chance_170 : decode cX5_chance 170 = .ok (.iload_n 1, 1) := by decide +kernel
theorem dX5_chance_171 : decode cX5_chance 171 = .ok (.invokestatic 143, 3) := by decide +kernel
theorem dX5_chance_174 : decode cX5_chance 174 = .ok (.i2l, 1) := by decide +kernel
theorem dX5_chance_175 : decode cX5_chance 175 = .ok (.invokevirtual 185, 3) := by decide +kernel
theorem dX5_chance_178 : decode cX5_chance 178 = .ok (.iconst 1, 1) := by decide +kernel
theorem dX5_chance_179 : decode cX5_chance 179 = .ok (.ireturn, 1) := by decide +kernel
theorem dX5_years_0 : decode cX5_years 0 = .ok (.iload_n 1, 1) := by decide +kernel
theorem dX5_years_1 : decode cX5_years 1 = .ok (.i2l, 1) := by decide +kernel
theorem dX5_years_2 : decode cX5_years 2 = .ok (.lconst 0, 1) := by decide +kernel
theorem dX5_years_3 : decode cX5_years 3 = .ok (.ldc2_w 189, 3) := by decide +kernel
theorem dX5_years_6 : decode cX5_years 6 = .ok (.invokestatic 53, 3) := by decide +kernel
theorem dX5_years_9 : decode cX5_years 9 = .ok (.ifCond .eq 15, 3) := by decide +kernel
theorem dX5_years_12 : decode cX5_years 12 = .ok (.iload_n 2, 1) := by decide +kernel
theorem dX5_years_13 : decode cX5_years 13 = .ok (.i2l, 1) := by decide +kernel
theorem dX5_years_14 : decode cX5_years 14 = .ok (.lconst 0, 1) := by decide +kernel
theorem dX5_years_15 : decode cX5_years 15 = .ok (.ldc2_w 191, 3) := by decide +kernel
theorem dX5_years_18 : decode cX5_years 18 = .ok (.invokestatic 53, 3) := by decide +kernel
theorem dX5_years_21 : decode cX5_years 21 = .ok (.ifCond .ne 10, 3) := by decide +kernel
theorem dX5_years_24 : decode cX5_years 24 = .ok (.aload_n 0, 1) := by decide +kernel
theorem dX5_years_25 : decode cX5_years 25 = .ok (.bipush (-2), 2) := by decide +kernel
theorem dX5_years_27 : decode cX5_years 27 = .ok (.invokevirtual 67, 3) := by decide +kernel
theorem dX5_years_30 : decode cX5_years 30 = .ok (.ireturn, 1) := by decide +kernel
theorem dX5_years_31 : decode cX5_years 31 = .ok (.iload_n 1, 1) := by decide +kernel
theorem dX5_years_32 : decode cX5_years 32 = .ok (.i2l, 1) := by decide +kernel
theorem dX5_years_33 : decode cX5_years 33 = .ok (.lstore_n 3, 1) := by decide +kernel
theorem dX5_years_34 : decode cX5_years 34 = .ok (.iconst 0, 1) := by decide +kernel
theorem dX5_years_35 : decode cX5_years 35 = .ok (.istore 5, 2) := by decide +kernel
theorem dX5_years_37 : decode cX5_years 37 = .ok (.aload_n 0, 1) := by decide +kernel
theorem dX5_years_38 : decode cX5_years 38 = .ok (.invokevirtual 136, 3) := by decide +kernel
theorem dX5_years_41 : decode cX5_years 41 = .ok (.iconst 0, 1) := by decide +kernel
theorem dX5_years_42 : decode cX5_years 42 = .ok (.istore 6, 2) := by decide +kernel
theorem dX5_years_44 : decode cX5_years 44 = .ok (.iload 6, 2) := by decide +kernel
theorem dX5_years_46 : decode cX5_years 46 = .ok (.iload_n 2, 1) := by decide +kernel
theorem dX5_years_47 : decode cX5_years 47 = .ok (.if_icmp .ge 64, 3) := by decide +kernel
theorem dX5_years_50 : decode cX5_years 50 = .ok (.lload_n 3, 1) := by decide +kernel
theorem dX5_years_51 : decode cX5_years 51 = .ok (.ldc2_w 193, 3) := by decide +kernel
theorem dX5_years_54 : decode cX5_years 54 = .ok (.lmul, 1) := by decide +kernel
theorem dX5_years_55 : decode cX5_years 55 = .ok (.ldc2_w 195, 3) := by decide +kernel
theorem dX5_years_58 : decode cX5_years 58 = .ok (.ladd, 1) := by decide +kernel
theorem dX5_years_59 : decode cX5_years 59 = .ok (.ldc2_w 197, 3) := by decide +kernel
theorem dX5_years_62 : decode cX5_years 62 = .ok (.lrem, 1) := by decide +kernel
theorem dX5_years_63 : decode cX5_years 63 = .ok (.lstore_n 3, 1) := by decide +kernel
theorem dX5_years_64 : decode cX5_years 64 = .ok (.lload_n 3, 1) := by decide +kernel
theorem dX5_years_65 : decode cX5_years 65 = .ok (.ldc2_w 199, 3) := by decide +kernel
theorem dX5_years_68 : decode cX5_years 68 = .ok (.ldiv, 1) := by decide +kernel
theorem dX5_years_69 : decode cX5_years 69 = .ok (.ldc2_w 201, 3) := by decide +kernel
theorem dX5_years_72 : decode cX5_years 72 = .ok (.lrem, 1) := by decide +kernel
theorem dX5_years_73 : decode cX5_years 73 = .ok (.l2i, 1) := by decide +kernel
theorem dX5_years_74 : decode cX5_years 74 = .ok (.istore 7, 2) := by decide +kernel
theorem dX5_years_76 : decode cX5_years 76 = .ok (.iload 5, 2) := by decide +kernel
theorem dX5_years_78 : decode cX5_years 78 = .ok (.aload_n 0, 1) := by decide +kernel
theorem dX5_years_79 : decode cX5_years 79 = .ok (.aload_n 0, 1) := by decide +kernel
theorem dX5_years_80 : decode cX5_years 80 = .ok (.getfield 27, 3) := by decide +kernel
theorem dX5_years_83 : decode cX5_years 83 = .ok (.aload_n 0, 1) := by decide +kernel
theorem dX5_years_84 : decode cX5_years 84 = .ok (.iload 7, 2) := by decide +kernel
theorem dX5_years_86 : decode cX5_years 86 = .ok (.invokevirtual 120, 3) := by decide +kernel
theorem dX5_years_89 : decode cX5_years 89 = .ok (.ifCond .eq 8, 3) := by decide +kernel
theorem dX5_years_92 : decode cX5_years 92 = .ok (.iload 7, 2) := by decide +kernel
theorem dX5_years_94 : decode cX5_years 94 = .ok (.goto 5, 3) := by decide +kernel
theorem dX5_years_97 : decode cX5_years 97 = .ok (.bipush 7, 2) := by decide +kernel
theorem dX5_years_99 : decode cX5_years 99 = .ok (.invokevirtual 126, 3) := by decide +kernel
theorem dX5_years_102 : decode cX5_years 102 = .ok (.iadd, 1) := by decide +kernel
theorem dX5_years_103 : decode cX5_years 103 = .ok (.istore 5, 2) := by decide +kernel
theorem dX5_years_105 : decode cX5_years 105 = .ok (.iinc 6 1, 3) := by decide +kernel
theorem dX5_years_108 : decode cX5_years 108 = .ok (.goto (-64), 3) := by decide +kernel
theorem dX5_years_111 : decode cX5_years 111 = .ok (.iload 5, 2) := by decide +kernel
theorem dX5_years_113 : decode cX5_years 113 = .ok (.ireturn, 1) := by decide +kernel
theorem dX5_type_0 : decode cX5_type 0 = .ok (.iload_n 1, 1) := by decide +kernel
theorem dX5_type_1 : decode cX5_type 1 = .ok (.i2l, 1) := by decide +kernel
theorem dX5_type_2 : decode cX5_type 2 = .ok (.lconst 0, 1) := by decide +kernel
theorem dX5_type_3 : decode cX5_type 3 = .ok (.ldc2_w 203, 3) := by decide +kernel
theorem dX5_type_6 : decode cX5_type 6 = .ok (.invokestatic 53, 3) := by decide +kernel
theorem dX5_type_9 : decode cX5_type 9 = .ok (.ifCond .ne 10, 3) := by decide +kernel
theorem dX5_type_12 : decode cX5_type 12 = .ok (.aload_n 0, 1) := by decide +kernel
theorem dX5_type_13 : decode cX5_type 13 = .ok (.bipush (-2), 2) := by decide +kernel
theorem dX5_type_15 : decode cX5_type 15 = .ok (.invokevirtual 67, 3) := by decide +kernel
theorem dX5_type_18 : decode cX5_type 18 = .ok (.ireturn, 1) := by decide +kernel
theorem dX5_type_19 : decode cX5_type 19 = .ok (.aload_n 0, 1) := by decide +kernel
theorem dX5_type_20 : decode cX5_type 20 = .ok (.getfield 205, 3) := by decide +kernel
theorem dX5_type_23 : decode cX5_type 23 = .ok (.sipush 150, 3) := by decide +kernel
theorem dX5_type_26 : decode cX5_type 26 = .ok (.if_icmp .ne 8, 3) := by decide +kernel
theorem dX5_type_29 : decode cX5_type 29 = .ok (.aload_n 0, 1) := by decide +kernel
theorem dX5_type_30 : decode cX5_type 30 = .ok (.invokevirtual 86, 3) := by decide +kernel
theorem dX5_type_33 : decode cX5_type 33 = .ok (.ireturn, 1) := by decide +kernel
theorem dX5_type_34 : decode cX5_type 34 = .ok (.aload_n 0, 1) := by decide +kernel
theorem dX5_type_35 : decode cX5_type 35 = .ok (.getfield 36, 3) := by decide +kernel
theorem dX5_type_38 : decode cX5_type 38 = .ok (.aload_n 0, 1) := by decide +kernel
theorem dX5_type_39 : decode cX5_type 39 = .ok (.getfield 205, 3) := by decide +kernel
theorem dX5_type_42 : decode cX5_type 42 = .ok (.iload_n 1, 1) := by decide +kernel
theorem dX5_type_43 : decode cX5_type 43 = .ok (.iastore, 1) := by decide +kernel
theorem dX5_type_44 : decode cX5_type 44 = .ok (.aload_n 0, 1) := by decide +kernel
theorem dX5_type_45 : decode cX5_type 45 = .ok (.dup, 1) := by decide +kernel
theorem dX5_type_46 : decode cX5_type 46 = .ok (.getfield 205, 3) := by decide +kernel
theorem dX5_type_49 : decode cX5_type 49 = .ok (.iconst 1, 1) := by decide +kernel
theorem dX5_type_50 : decode cX5_type 50 = .ok (.iadd, 1) := by decide +kernel
theorem dX5_type_51 : decode cX5_type 51 = .ok (.putfield 205, 3) := by decide +kernel
theorem dX5_type_54 : decode cX5_type 54 = .ok (.aload_n 0, 1) := by decide +kernel
theorem dX5_type_55 : decode cX5_type 55 = .ok (.getfield 205, 3) := by decide +kernel
theorem dX5_type_58 : decode cX5_type 58 = .ok (.ireturn, 1) := by decide +kernel
theorem dX5_clear_0 : decode cX5_clear 0 = .ok (.aload_n 0, 1) := by decide +kernel
theorem dX5_clear_1 : decode cX5_clear 1 = .ok (.getfield 205, 3) := by decide +kernel
theorem dX5_clear_4 : decode cX5_clear 4 = .ok (.istore_n 1, 1) := by decide +kernel
theorem dX5_clear_5 : decode cX5_clear 5 = .ok (.aload_n 0, 1) := by decide +kernel
theorem dX5_clear_6 : decode cX5_clear 6 = .ok (.iconst 0, 1) := by decide +kernel
theorem dX5_clear_7 : decode cX5_clear 7 = .ok (.putfield 205, 3) := by decide +kernel
theorem dX5_clear_10 : decode cX5_clear 10 = .ok (.iload_n 1, 1) := by decide +kernel
theorem dX5_clear_11 : decode cX5_clear 11 = .ok (.ireturn, 1) := by decide +kernel
theorem dX5_isSmall_0 : decode cX5_isSmall 0 = .ok (.iload_n 0, 1) := by decide +kernel
theorem dX5_isSmall_1 : decode cX5_isSmall 1 = .ok (.i2l, 1) := by decide +kernel
theorem dX5_isSmall_2 : decode cX5_isSmall 2 = .ok (.ldc2_w 208, 3) := by decide +kernel
theorem dX5_isSmall_5 : decode cX5_isSmall 5 = .ok (.ldc2_w 210, 3) := by decide +kernel
theorem dX5_isSmall_8 : decode cX5_isSmall 8 = .ok (.invokestatic 53, 3) := by decide +kernel
theorem dX5_isSmall_11 : decode cX5_isSmall 11 = .ok (.ireturn, 1) := by decide +kernel
theorem dX5_isFigure_0 : decode cX5_isFigure 0 = .ok (.iload_n 0, 1) := by decide +kernel
theorem dX5_isFigure_1 : decode cX5_isFigure 1 = .ok (.i2l, 1) := by decide +kernel
theorem dX5_isFigure_2 : decode cX5_isFigure 2 = .ok (.ldc2_w 212, 3) := by decide +kernel
theorem dX5_isFigure_5 : decode cX5_isFigure 5 = .ok (.ldc2_w 214, 3) := by decide +kernel
theorem dX5_isFigure_8 : decode cX5_isFigure 8 = .ok (.invokestatic 53, 3) := by decide +kernel
theorem dX5_isFigure_11 : decode cX5_isFigure 11 = .ok (.ireturn, 1) := by decide +kernel
theorem dX5_lookAt_0 : decode cX5_lookAt 0 = .ok (.aload_n 0, 1) := by decide +kernel
theorem dX5_lookAt_1 : decode cX5_lookAt 1 = .ok (.iload_n 1, 1) := by decide +kernel
theorem dX5_lookAt_2 : decode cX5_lookAt 2 = .ok (.putfield 216, 3) := by decide +kernel
theorem dX5_lookAt_5 : decode cX5_lookAt 5 = .ok (.aload_n 0, 1) := by decide +kernel
theorem dX5_lookAt_6 : decode cX5_lookAt 6 = .ok (.getfield 216, 3) := by decide +kernel
theorem dX5_lookAt_9 : decode cX5_lookAt 9 = .ok (.aload_n 0, 1) := by decide +kernel
theorem dX5_lookAt_10 : decode cX5_lookAt 10 = .ok (.getfield 205, 3) := by decide +kernel
theorem dX5_lookAt_13 : decode cX5_lookAt 13 = .ok (.if_icmp .ge 30, 3) := by decide +kernel
theorem dX5_lookAt_16 : decode cX5_lookAt 16 = .ok (.aload_n 0, 1) := by decide +kernel
theorem dX5_lookAt_17 : decode cX5_lookAt 17 = .ok (.getfield 36, 3) := by decide +kernel
theorem dX5_lookAt_20 : decode cX5_lookAt 20 = .ok (.aload_n 0, 1) := by decide +kernel
theorem dX5_lookAt_21 : decode cX5_lookAt 21 = .ok (.getfield 216, 3) := by decide +kernel
theorem dX5_lookAt_24 : decode cX5_lookAt 24 = .ok (.iaload, 1) := by decide +kernel
theorem dX5_lookAt_25 : decode cX5_lookAt 25 = .ok (.bipush 32, 2) := by decide +kernel
theorem dX5_lookAt_27 : decode cX5_lookAt 27 = .ok (.if_icmp .ne 16, 3) := by decide +kernel
theorem dX5_lookAt_30 : decode cX5_lookAt 30 = .ok (.aload_n 0, 1) := by decide +kernel
theorem dX5_lookAt_31 : decode cX5_lookAt 31 = .ok (.dup, 1) := by decide +kernel
theorem dX5_lookAt_32 : decode cX5_lookAt 32 = .ok (.getfield 216, 3) := by decide +kernel
theorem dX5_lookAt_35 : decode cX5_lookAt 35 = .ok (.iconst 1, 1) := by decide +kernel
theorem dX5_lookAt_36 : decode cX5_lookAt 36 = .ok (.iadd, 1) := by decide +kernel
theorem dX5_lookAt_37 : decode cX5_lookAt 37 = .ok (.putfield 216, 3) := by decide +kernel
theorem dX5_lookAt_40 : decode cX5_lookAt 40 = .ok (.goto (-35), 3) := by decide +kernel
theorem dX5_lookAt_43 : decode cX5_lookAt 43 = .ok (.aload_n 0, 1) := by decide +kernel
theorem dX5_lookAt_44 : decode cX5_lookAt 44 = .ok (.iconst 0, 1) := by decide +kernel
theorem dX5_lookAt_45 : decode cX5_lookAt 45 = .ok (.putfield 219, 3) := by decide +kernel
theorem dX5_lookAt_48 : decode cX5_lookAt 48 = .ok (.aload_n 0, 1) := by decide +kernel
theorem dX5_lookAt_49 : decode cX5_lookAt 49 = .ok (.iconst 0, 1) := by decide +kernel
theorem dX5_lookAt_50 : decode cX5_lookAt 50 = .ok (.putfield 222, 3) := by decide +kernel
theorem dX5_lookAt_53 : decode cX5_lookAt 53 = .ok (.aload_n 0, 1) := by decide +kernel
theorem dX5_lookAt_54 : decode cX5_lookAt 54 = .ok (.iconst 0, 1) := by decide +kernel
theorem dX5_lookAt_55 : decode cX5_lookAt 55 = .ok (.putfield 225, 3) := by decide +kernel
theorem dX5_lookAt_58 : decode cX5_lookAt 58 = .ok (.aload_n 0, 1) := by decide +kernel
theorem dX5_lookAt_59 : decode cX5_lookAt 59 = .ok (.getfield 216, 3) := by decide +kernel
theorem dX5_lookAt_62 : decode cX5_lookAt 62 = .ok (.aload_n 0, 1) := by decide +kernel
theorem dX5_lookAt_63 : decode cX5_lookAt 63 = .ok (.getfield 205, 3) := by decide +kernel
theorem dX5_lookAt_66 : decode cX5_lookAt 66 = .ok (.if_icmp .ne 4, 3) := by decide +kernel
theorem dX5_lookAt_69 : decode cX5_lookAt 69 = .ok (.return_, 1) := by decide +kernel
theorem dX5_lookAt_70 : decode cX5_lookAt 70 = .ok (.aload_n 0, 1) := by decide +kernel
theorem dX5_lookAt_71 : decode cX5_lookAt 71 = .ok (.getfield 36, 3) := by decide +kernel
theorem dX5_lookAt_74 : decode cX5_lookAt 74 = .ok (.aload_n 0, 1) := by decide +kernel
theorem dX5_lookAt_75 : decode cX5_lookAt 75 = .ok (.getfield 216, 3) := by decide +kernel
theorem dX5_lookAt_78 : decode cX5_lookAt 78 = .ok (.iaload, 1) := by decide +kernel
theorem dX5_lookAt_79 : decode cX5_lookAt 79 = .ok (.istore_n 2, 1) := by decide +kernel
theorem dX5_lookAt_80 : decode cX5_lookAt 80 = .ok (.aload_n 0, 1) := by decide +kernel
theorem dX5_lookAt_81 : decode cX5_lookAt 81 = .ok (.iload_n 2, 1) := by decide +kernel
theorem dX5_lookAt_82 : decode cX5_lookAt 82 = .ok (.invokestatic 228, 3) := by decide +kernel
theorem dX5_lookAt_85 : decode cX5_lookAt 85 = .ok (.ifCond .eq 7, 3) := by decide +kernel
theorem dX5_lookAt_88 : decode cX5_lookAt 88 = .ok (.iconst 1, 1) := by decide +kernel
theorem dX5_lookAt_89 : decode cX5_lookAt 89 = .ok (.goto 25, 3) := by decide +kernel
theorem dX5_lookAt_92 : decode cX5_lookAt 92 = .ok (.iload_n 2, 1) := by decide +kernel
theorem dX5_lookAt_93 : decode cX5_lookAt 93 = .ok (.invokestatic 231, 3) := by decide +kernel
theorem dX5_lookAt_96 : decode cX5_lookAt 96 = .ok (.ifCond .eq 7, 3) := by decide +kernel
theorem dX5_lookAt_99 : decode cX5_lookAt 99 = .ok (.iconst 2, 1) := by decide +kernel
theorem dX5_lookAt_100 : decode cX5_lookAt 100 = .ok (.goto 14, 3) := by decide +kernel
theorem dX5_lookAt_103 : decode cX5_lookAt 103 = .ok (.iload_n 2, 1) := by decide +kernel
theorem dX5_lookAt_104 : decode cX5_lookAt 104 = .ok (.bipush 59, 2) := by decide +kernel
theorem dX5_lookAt_106 : decode cX5_lookAt 106 = .ok (.if_icmp .ne 7, 3) := by decide +kernel
theorem dX5_lookAt_109 : decode cX5_lookAt 109 = .ok (.iconst 3, 1) := by decide +kernel
theorem dX5_lookAt_110 : decode cX5_lookAt 110 = .ok (.goto 4, 3) := by decide +kernel
theorem dX5_lookAt_113 : decode cX5_lookAt 113 = .ok (.iconst 4, 1) := by decide +kernel
theorem dX5_lookAt_114 : decode cX5_lookAt 114 = .ok (.putfield 222, 3) := by decide +kernel
theorem dX5_lookAt_117 : decode cX5_lookAt 117 = .ok (.aload_n 0, 1) := by decide +kernel
theorem dX5_lookAt_118 : decode cX5_lookAt 118 = .ok (.iconst 1, 1) := by decide +kernel
theorem dX5_lookAt_119 : decode cX5_lookAt 119 = .ok (.putfield 219, 3) := by decide +kernel
theorem dX5_lookAt_122 : decode cX5_lookAt 122 = .ok (.aload_n 0, 1) := by decide +kernel
theorem dX5_lookAt_123 : decode cX5_lookAt 123 = .ok (.getfield 222, 3) := by decide +kernel
theorem dX5_lookAt_126 : decode cX5_lookAt 126 = .ok (.iconst 3, 1) := by decide +kernel
theorem dX5_lookAt_127 : decode cX5_lookAt 127 = .ok (.if_icmp .ge 7, 3) := by decide +kernel
theorem dX5_lookAt_130 : decode cX5_lookAt 130 = .ok (.iconst 1, 1) := by decide +kernel
theorem dX5_lookAt_131 : decode cX5_lookAt 131 = .ok (.goto 4, 3) := by decide +kernel
theorem dX5_lookAt_134 : decode cX5_lookAt 134 = .ok (.iconst 0, 1) := by decide +kernel
theorem dX5_lookAt_135 : decode cX5_lookAt 135 = .ok (.istore_n 3, 1) := by decide +kernel
theorem dX5_lookAt_136 : decode cX5_lookAt 136 = .ok (.iload_n 3, 1) := by decide +kernel
theorem dX5_lookAt_137 : decode cX5_lookAt 137 = .ok (.ifCond .eq 78, 3) := by decide +kernel
theorem dX5_lookAt_140 : decode cX5_lookAt 140 = .ok (.aload_n 0, 1) := by decide +kernel
theorem dX5_lookAt_141 : decode cX5_lookAt 141 = .ok (.getfield 216, 3) := by decide +kernel
theorem dX5_lookAt_144 : decode cX5_lookAt 144 = .ok (.aload_n 0, 1) := by decide +kernel
theorem dX5_lookAt_145 : decode cX5_lookAt 145 = .ok (.getfield 219, 3) := by decide +kernel
theorem dX5_lookAt_148 : decode cX5_lookAt 148 = .ok (.iadd, 1) := by decide +kernel
theorem dX5_lookAt_149 : decode cX5_lookAt 149 = .ok (.aload_n 0, 1) := by decide +kernel
theorem dX5_lookAt_150 : decode cX5_lookAt 150 = .ok (.getfield 205, 3) := by decide +kernel
theorem dX5_lookAt_153 : decode cX5_lookAt 153 = .ok (.if_icmp .ge 62, 3) := by decide +kernel
theorem dX5_lookAt_156 : decode cX5_lookAt 156 = .ok (.aload_n 0, 1) := by decide +kernel
theorem dX5_lookAt_157 : decode cX5_lookAt 157 = .ok (.getfield 36, 3) := by decide +kernel
theorem dX5_lookAt_160 : decode cX5_lookAt 160 = .ok (.aload_n 0, 1) := by decide +kernel
theorem dX5_lookAt_161 : decode cX5_lookAt 161 = .ok (.getfield 216, 3) := by decide +kernel
theorem dX5_lookAt_164 : decode cX5_lookAt 164 = .ok (.aload_n 0, 1) := by decide +kernel
theorem dX5_lookAt_165 : decode cX5_lookAt 165 = .ok (.getfield 219, 3) := by decide +kernel
theorem dX5_lookAt_168 : decode cX5_lookAt 168 = .ok (.iadd, 1) := by decide +kernel
theorem dX5_lookAt_169 : decode cX5_lookAt 169 = .ok (.iaload, 1) := by decide +kernel
theorem dX5_lookAt_170 : decode cX5_lookAt 170 = .ok (.istore 4, 2) := by decide +kernel
theorem dX5_lookAt_172 : decode cX5_lookAt 172 = .ok (.aload_n 0, 1) := by decide +kernel
theorem dX5_lookAt_173 : decode cX5_lookAt 173 = .ok (.getfield 222, 3) := by decide +kernel
theorem dX5_lookAt_176 : decode cX5_lookAt 176 = .ok (.iconst 1, 1) := by decide +kernel
theorem dX5_lookAt_177 : decode cX5_lookAt 177 = .ok (.if_icmp .ne 11, 3) := by decide +kernel
theorem dX5_lookAt_180 : decode cX5_lookAt 180 = .ok (.iload 4, 2) := by decide +kernel
theorem dX5_lookAt_182 : decode cX5_lookAt 182 = .ok (.invokestatic 228, 3) := by decide +kernel
theorem dX5_lookAt_185 : decode cX5_lookAt 185 = .ok (.goto 8, 3) := by decide +kernel
theorem dX5_lookAt_188 : decode cX5_lookAt 188 = .ok (.iload 4, 2) := by decide +kernel
theorem dX5_lookAt_190 : decode cX5_lookAt 190 = .ok (.invokestatic 231, 3) := by decide +kernel
theorem dX5_lookAt_193 : decode cX5_lookAt 193 = .ok (.istore_n 3, 1) := by decide +kernel
theorem dX5_lookAt_194 : decode cX5_lookAt 194 = .ok (.aload_n 0, 1) := by decide +kernel
theorem dX5_lookAt_195 : decode cX5_lookAt 195 = .ok (.dup, 1) := by decide +kernel
theorem dX5_lookAt_196 : decode cX5_lookAt 196 = .ok (.getfield 219, 3) := by decide +kernel
theorem dX5_lookAt_199 : decode cX5_lookAt 199 = .ok (.iload_n 3, 1) := by decide +kernel
theorem dX5_lookAt_200 : decode cX5_lookAt 200 = .ok (.ifCond .eq 7, 3) := by decide +kernel
theorem dX5_lookAt_203 : decode cX5_lookAt 203 = .ok (.iconst 1, 1) := by decide +kernel
theorem dX5_lookAt_204 : decode cX5_lookAt 204 = .ok (.goto 4, 3) := by decide +kernel
theorem dX5_lookAt_207 : decode cX5_lookAt 207 = .ok (.iconst 0, 1) := by decide +kernel
theorem dX5_lookAt_208 : decode cX5_lookAt 208 = .ok (.iadd, 1) := by decide +kernel
theorem dX5_lookAt_209 : decode cX5_lookAt 209 = .ok (.putfield 219, 3) := by decide +kernel
theorem dX5_lookAt_212 : decode cX5_lookAt 212 = .ok (.goto (-76), 3) := by decide +kernel
theorem dX5_lookAt_215 : decode cX5_lookAt 215 = .ok (.iconst 0, 1) := by decide +kernel
theorem dX5_lookAt_216 : decode cX5_lookAt 216 = .ok (.istore 4, 2) := by decide +kernel
theorem dX5_lookAt_218 : decode cX5_lookAt 218 = .ok (.iload 4, 2) := by decide +kernel
theorem dX5_lookAt_220 : decode cX5_lookAt 220 = .ok (.aload_n 0, 1) := by decide +kernel
theorem dX5_lookAt_221 : decode cX5_lookAt 221 = .ok (.getfield 219, 3) := by decide +kernel
theorem dX5_lookAt_224 : decode cX5_lookAt 224 = .ok (.if_icmp .ge 50, 3) := by decide +kernel
theorem dX5_lookAt_227 : decode cX5_lookAt 227 = .ok (.iload 4, 2) := by decide +kernel
theorem dX5_lookAt_229 : decode cX5_lookAt 229 = .ok (.iconst 2, 1) := by decide +kernel
theorem dX5_lookAt_230 : decode cX5_lookAt 230 = .ok (.if_icmp .ge 44, 3) := by decide +kernel
theorem dX5_lookAt_233 : decode cX5_lookAt 233 = .ok (.aload_n 0, 1) := by decide +kernel
theorem dX5_lookAt_234 : decode cX5_lookAt 234 = .ok (.getfield 222, 3) := by decide +kernel
theorem dX5_lookAt_237 : decode cX5_lookAt 237 = .ok (.iconst 2, 1) := by decide +kernel
theorem dX5_lookAt_238 : decode cX5_lookAt 238 = .ok (.if_icmp .ne 36, 3) := by decide +kernel
theorem dX5_lookAt_241 : decode cX5_lookAt 241 = .ok (.aload_n 0, 1) := by decide +kernel
theorem dX5_lookAt_242 : decode cX5_lookAt 242 = .ok (.bipush 10, 2) := by decide +kernel
theorem dX5_lookAt_244 : decode cX5_lookAt 244 = .ok (.aload_n 0, 1) := by decide +kernel
theorem dX5_lookAt_245 : decode cX5_lookAt 245 = .ok (.getfield 225, 3) := by decide +kernel
theorem dX5_lookAt_248 : decode cX5_lookAt 248 = .ok (.imul, 1) := by decide +kernel
theorem dX5_lookAt_249 : decode cX5_lookAt 249 = .ok (.aload_n 0, 1) := by decide +kernel
theorem dX5_lookAt_250 : decode cX5_lookAt 250 = .ok (.getfield 36, 3) := by decide +kernel
theorem dX5_lookAt_253 : decode cX5_lookAt 253 = .ok (.aload_n 0, 1) := by decide +kernel
theorem dX5_lookAt_254 : decode cX5_lookAt 254 = .ok (.getfield 216, 3) := by decide +kernel
theorem dX5_lookAt_257 : decode cX5_lookAt 257 = .ok (.iload 4, 2) := by decide +kernel
theorem dX5_lookAt_259 : decode cX5_lookAt 259 = .ok (.iadd, 1) := by decide +kernel
theorem dX5_lookAt_260 : decode cX5_lookAt 260 = .ok (.iaload, 1) := by decide +kernel
theorem dX5_lookAt_261 : decode cX5_lookAt 261 = .ok (.iadd, 1) := by decide +kernel
theorem dX5_lookAt_262 : decode cX5_lookAt 262 = .ok (.bipush 48, 2) := by decide +kernel
theorem dX5_lookAt_264 : decode cX5_lookAt 264 = .ok (.isub, 1) := by decide +kernel
theorem dX5_lookAt_265 : decode cX5_lookAt 265 = .ok (.putfield 225, 3) := by decide +kernel
theorem dX5_lookAt_268 : decode cX5_lookAt 268 = .ok (.iinc 4 1, 3) := by decide +kernel
theorem dX5_lookAt_271 : decode cX5_lookAt 271 = .ok (.goto (-53), 3) := by decide +kernel
theorem dX5_lookAt_274 : decode cX5_lookAt 274 = .ok (.aload_n 0, 1) := by decide +kernel
theorem dX5_lookAt_275 : decode cX5_lookAt 275 = .ok (.aload_n 0, 1) := by decide +kernel
theorem dX5_lookAt_276 : decode cX5_lookAt 276 = .ok (.getfield 222, 3) := by decide +kernel
theorem dX5_lookAt_279 : decode cX5_lookAt 279 = .ok (.iconst 2, 1) := by decide +kernel
theorem dX5_lookAt_280 : decode cX5_lookAt 280 = .ok (.if_icmp .ne 15, 3) := by decide +kernel
theorem dX5_lookAt_283 : decode cX5_lookAt 283 = .ok (.aload_n 0, 1) := by decide +kernel
theorem dX5_lookAt_284 : decode cX5_lookAt 284 = .ok (.getfield 219, 3) := by decide +kernel
theorem dX5_lookAt_287 : decode cX5_lookAt 287 = .ok (.iconst 2, 1) := by decide +kernel
theorem dX5_lookAt_288 : decode cX5_lookAt 288 = .ok (.if_icmp .le 7, 3) := by decide +kernel
theorem dX5_lookAt_291 : decode cX5_lookAt 291 = .ok (.iconst 4, 1) := by decide +kernel
theorem dX5_lookAt_292 : decode cX5_lookAt 292 = .ok (.goto 7, 3) := by decide +kernel
theorem dX5_lookAt_295 : decode cX5_lookAt 295 = .ok (.aload_n 0, 1) := by decide +kernel
theorem dX5_lookAt_296 : decode cX5_lookAt 296 = .ok (.getfield 222, 3) := by decide +kernel
theorem dX5_lookAt_299 : decode cX5_lookAt 299 = .ok (.putfield 222, 3) := by decide +kernel
theorem dX5_lookAt_302 : decode cX5_lookAt 302 = .ok (.return_, 1) := by decide +kernel
theorem dX5_goBehind_0 : decode cX5_goBehind 0 = .ok (.aload_n 0, 1) := by decide +kernel
theorem dX5_goBehind_1 : decode cX5_goBehind 1 = .ok (.aload_n 0, 1) := by decide +kernel
theorem dX5_goBehind_2 : decode cX5_goBehind 2 = .ok (.getfield 216, 3) := by decide +kernel
theorem dX5_goBehind_5 : decode cX5_goBehind 5 = .ok (.aload_n 0, 1) := by decide +kernel
theorem dX5_goBehind_6 : decode cX5_goBehind 6 = .ok (.getfield 219, 3) := by decide +kernel
theorem dX5_goBehind_9 : decode cX5_goBehind 9 = .ok (.iadd, 1) := by decide +kernel
theorem dX5_goBehind_10 : decode cX5_goBehind 10 = .ok (.invokevirtual 234, 3) := by decide +kernel
theorem dX5_goBehind_13 : decode cX5_goBehind 13 = .ok (.return_, 1) := by decide +kernel
theorem dX5_spells_0 : decode cX5_spells 0 = .ok (.aload_n 0, 1) := by decide +kernel
theorem dX5_spells_1 : decode cX5_spells 1 = .ok (.getfield 222, 3) := by decide +kernel
theorem dX5_spells_4 : decode cX5_spells 4 = .ok (.iconst 1, 1) := by decide +kernel
theorem dX5_spells_5 : decode cX5_spells 5 = .ok (.if_icmp .ne 15, 3) := by decide +kernel
theorem dX5_spells_8 : decode cX5_spells 8 = .ok (.aload_n 0, 1) := by decide +kernel
theorem dX5_spells_9 : decode cX5_spells 9 = .ok (.getfield 219, 3) := by decide +kernel
theorem dX5_spells_12 : decode cX5_spells 12 = .ok (.iload_n 1, 1) := by decide +kernel
theorem dX5_spells_13 : decode cX5_spells 13 = .ok (.if_icmp .ne 7, 3) := by decide +kernel
theorem dX5_spells_16 : decode cX5_spells 16 = .ok (.iconst 1, 1) := by decide +kernel
theorem dX5_spells_17 : decode cX5_spells 17 = .ok (.goto 4, 3) := by decide +kernel
theorem dX5_spells_20 : decode cX5_spells 20 = .ok (.iconst 0, 1) := by decide +kernel
theorem dX5_spells_21 : decode cX5_spells 21 = .ok (.istore 8, 2) := by decide +kernel
theorem dX5_spells_23 : decode cX5_spells 23 = .ok (.iconst 0, 1) := by decide +kernel
theorem dX5_spells_24 : decode cX5_spells 24 = .ok (.istore 9, 2) := by decide +kernel
theorem dX5_spells_26 : decode cX5_spells 26 = .ok (.iload 9, 2) := by decide +kernel
theorem dX5_spells_28 : decode cX5_spells 28 = .ok (.iload_n 1, 1) := by decide +kernel
theorem dX5_spells_29 : decode cX5_spells 29 = .ok (.if_icmp .ge 90, 3) := by decide +kernel
theorem dX5_spells_32 : decode cX5_spells 32 = .ok (.iload 8, 2) := by decide +kernel
theorem dX5_spells_34 : decode cX5_spells 34 = .ok (.ifCond .eq 85, 3) := by decide +kernel
theorem dX5_spells_37 : decode cX5_spells 37 = .ok (.aload_n 0, 1) := by decide +kernel
theorem dX5_spells_38 : decode cX5_spells 38 = .ok (.getfield 36, 3) := by decide +kernel
theorem dX5_spells_41 : decode cX5_spells 41 = .ok (.aload_n 0, 1) := by decide +kernel
theorem dX5_spells_42 : decode cX5_spells 42 = .ok (.getfield 216, 3) := by decide +kernel
theorem dX5_spells_45 : decode cX5_spells 45 = .ok (.iload 9, 2) := by decide +kernel
theorem dX5_spells_47 : decode cX5_spells 47 = .ok (.iadd, 1) := by decide +kernel
theorem dX5_spells_48 : decode cX5_spells 48 = .ok (.iaload, 1) := by decide +kernel
theorem dX5_spells_49 : decode cX5_spells 49 = .ok (.iload 9, 2) := by decide +kernel
theorem dX5_spells_51 : decode cX5_spells 51 = .ok (.ifCond .ne 7, 3) := by decide +kernel
theorem dX5_spells_54 : decode cX5_spells 54 = .ok (.iload_n 2, 1) := by decide +kernel
theorem dX5_spells_55 : decode cX5_spells 55 = .ok (.goto 48, 3) := by decide +kernel
theorem dX5_spells_58 : decode cX5_spells 58 = .ok (.iload 9, 2) := by decide +kernel
theorem dX5_spells_60 : decode cX5_spells 60 = .ok (.iconst 1, 1) := by decide +kernel
theorem dX5_spells_61 : decode cX5_spells 61 = .ok (.if_icmp .ne 7, 3) := by decide +kernel
theorem dX5_spells_64 : decode cX5_spells 64 = .ok (.iload_n 3, 1) := by decide +kernel
theorem dX5_spells_65 : decode cX5_spells 65 = .ok (.goto 38, 3) := by decide +kernel
theorem dX5_spells_68 : decode cX5_spells 68 = .ok (.iload 9, 2) := by decide +kernel
theorem dX5_spells_70 : decode cX5_spells 70 = .ok (.iconst 2, 1) := by decide +kernel
theorem dX5_spells_71 : decode cX5_spells 71 = .ok (.if_icmp .ne 8, 3) := by decide +kernel
theorem dX5_spells_74 : decode cX5_spells 74 = .ok (.iload 4, 2) := by decide +kernel
theorem dX5_spells_76 : decode cX5_spells 76 = .ok (.goto 27, 3) := by decide +kernel
theorem dX5_spells_79 : decode cX5_spells 79 = .ok (.iload 9, 2) := by decide +kernel
theorem dX5_spells_81 : decode cX5_spells 81 = .ok (.iconst 3, 1) := by decide +kernel
theorem dX5_spells_82 : decode cX5_spells 82 = .ok (.if_icmp .ne 8, 3) := by decide +kernel
theorem dX5_spells_85 : decode cX5_spells 85 = .ok (.iload 5, 2) := by decide +kernel
theorem dX5_spells_87 : decode cX5_spells 87 = .ok (.goto 16, 3) := by decide +kernel
theorem dX5_spells_90 : decode cX5_spells 90 = .ok (.iload 9, 2) := by decide +kernel
theorem dX5_spells_92 : decode cX5_spells 92 = .ok (.iconst 4, 1) := by decide +kernel
theorem dX5_spells_93 : decode cX5_spells 93 = .ok (.if_icmp .ne 8, 3) := by decide +kernel
theorem dX5_spells_96 : decode cX5_spells 96 = .ok (.iload 6, 2) := by decide +kernel
theorem dX5_spells_98 : decode cX5_spells 98 = .ok (.goto 5, 3) := by decide +kernel
theorem dX5_spells_101 : decode cX5_spells 101 = .ok (.iload 7, 2) := by decide +kernel
theorem dX5_spells_103 : decode cX5_spells 103 = .ok (.if_icmp .ne 7, 3) := by decide +kernel
theorem dX5_spells_106 : decode cX5_spells 106 = .ok (.iconst 1, 1) := by decide +kernel
theorem dX5_spells_107 : decode cX5_spells 107 = .ok (.goto 4, 3) := by decide +kernel
theorem dX5_spells_110 : decode cX5_spells 110 = .ok (.iconst 0, 1) := by decide +kernel
theorem dX5_spells_111 : decode cX5_spells 111 = .ok (.istore 8, 2) := by decide +kernel
theorem dX5_spells_113 : decode cX5_spells 113 = .ok (.iinc 9 1, 3) := by decide +kernel
theorem dX5_spells_116 : decode cX5_spells 116 = .ok (.goto (-90), 3) := by decide +kernel
theorem dX5_spells_119 : decode cX5_spells 119 = .ok (.iload 8, 2) := by decide +kernel
theorem dX5_spells_121 : decode cX5_spells 121 = .ok (.ireturn, 1) := by decide +kernel
theorem dX5_takes_0 : decode cX5_takes 0 = .ok (.aload_n 0, 1) := by decide +kernel
theorem dX5_takes_1 : decode cX5_takes 1 = .ok (.getfield 222, 3) := by decide +kernel
theorem dX5_takes_4 : decode cX5_takes 4 = .ok (.iconst 2, 1) := by decide +kernel
theorem dX5_takes_5 : decode cX5_takes 5 = .ok (.if_icmp .ne 18, 3) := by decide +kernel
theorem dX5_takes_8 : decode cX5_takes 8 = .ok (.aload_n 0, 1) := by decide +kernel
theorem dX5_takes_9 : decode cX5_takes 9 = .ok (.getfield 225, 3) := by decide +kernel
theorem dX5_takes_12 : decode cX5_takes 12 = .ok (.i2l, 1) := by decide +kernel
theorem dX5_takes_13 : decode cX5_takes 13 = .ok (.iload_n 2, 1) := by decide +kernel
theorem dX5_takes_14 : decode cX5_takes 14 = .ok (.i2l, 1) := by decide +kernel
theorem dX5_takes_15 : decode cX5_takes 15 = .ok (.iload_n 3, 1) := by decide +kernel
theorem dX5_takes_16 : decode cX5_takes 16 = .ok (.i2l, 1) := by decide +kernel
theorem dX5_takes_17 : decode cX5_takes 17 = .ok (.invokestatic 53, 3) := by decide +kernel
theorem dX5_takes_20 : decode cX5_takes 20 = .ok (.ifCond .ne 5, 3) := by decide +kernel
theorem dX5_takes_23 : decode cX5_takes 23 = .ok (.iconst 0, 1) := by decide +kernel
theorem dX5_takes_24 : decode cX5_takes 24 = .ok (.ireturn, 1) := by decide +kernel
theorem dX5_takes_25 : decode cX5_takes 25 = .ok (.aload_n 0, 1) := by decide +kernel
theorem dX5_takes_26 : decode cX5_takes 26 = .ok (.getfield 42, 3) := by decide +kernel
theorem dX5_takes_29 : decode cX5_takes 29 = .ok (.iload_n 1, 1) := by decide +kernel
theorem dX5_takes_30 : decode cX5_takes 30 = .ok (.aload_n 0, 1) := by decide +kernel
theorem dX5_takes_31 : decode cX5_takes 31 = .ok (.getfield 225, 3) := by decide +kernel
theorem dX5_takes_34 : decode cX5_takes 34 = .ok (.iastore, 1) := by decide +kernel
theorem dX5_takes_35 : decode cX5_takes 35 = .ok (.aload_n 0, 1) := by decide +kernel
theorem dX5_takes_36 : decode cX5_takes 36 = .ok (.invokevirtual 238, 3) := by decide +kernel
theorem dX5_takes_39 : decode cX5_takes 39 = .ok (.iconst 1, 1) := by decide +kernel
theorem dX5_takes_40 : decode cX5_takes 40 = .ok (.ireturn, 1) := by decide +kernel
theorem dX5_takesVines_0 : decode cX5_takesVines 0 = .ok (.aload_n 0, 1) := by decide +kernel
theorem dX5_takesVines_1 : decode cX5_takesVines 1 = .ok (.invokevirtual 238, 3) := by decide +kernel
theorem dX5_takesVines_4 : decode cX5_takesVines 4 = .ok (.aload_n 0, 1) := by decide +kernel
theorem dX5_takesVines_5 : decode cX5_takesVines 5 = .ok (.iconst 0, 1) := by decide +kernel
theorem dX5_takesVines_6 : decode cX5_takesVines 6 = .ok (.iconst 0, 1) := by decide +kernel
theorem dX5_takesVines_7 : decode cX5_takesVines 7 = .ok (.bipush 19, 2) := by decide +kernel
theorem dX5_takesVines_9 : decode cX5_takesVines 9 = .ok (.invokevirtual 241, 3) := by decide +kernel
theorem dX5_takesVines_12 : decode cX5_takesVines 12 = .ok (.ifCond .eq 14, 3) := by decide +kernel
theorem dX5_takesVines_15 : decode cX5_takesVines 15 = .ok (.aload_n 0, 1) := by decide +kernel
theorem dX5_takesVines_16 : decode cX5_takesVines 16 = .ok (.iconst 1, 1) := by decide +kernel
theorem dX5_takesVines_17 : decode cX5_takesVines 17 = .ok (.iconst 0, 1) := by decide +kernel
theorem dX5_takesVines_18 : decode cX5_takesVines 18 = .ok (.bipush 9, 2) := by decide +kernel
theorem dX5_takesVines_20 : decode cX5_takesVines 20 = .ok (.invokevirtual 241, 3) := by decide +kernel
theorem dX5_takesVines_23 : decode cX5_takesVines 23 = .ok (.ifCond .ne 5, 3) := by decide +kernel
theorem dX5_takesVines_26 : decode cX5_takesVines 26 = .ok (.iconst 0, 1) := by decide +kernel
theorem dX5_takesVines_27 : decode cX5_takesVines 27 = .ok (.ireturn, 1) := by decide +kernel
theorem dX5_takesVines_28 : decode cX5_takesVines 28 = .ok (.aload_n 0, 1) := by decide +kernel
theorem dX5_takesVines_29 : decode cX5_takesVines 29 = .ok (.getfield 39, 3) := by decide +kernel
theorem dX5_takesVines_32 : decode cX5_takesVines 32 = .ok (.bipush 14, 2) := by decide +kernel
theorem dX5_takesVines_34 : decode cX5_takesVines 34 = .ok (.aload_n 0, 1) := by decide +kernel
theorem dX5_takesVines_35 : decode cX5_takesVines 35 = .ok (.getfield 42, 3) := by decide +kernel
theorem dX5_takesVines_38 : decode cX5_takesVines 38 = .ok (.iconst 0, 1) := by decide +kernel
theorem dX5_takesVines_39 : decode cX5_takesVines 39 = .ok (.iaload, 1) := by decide +kernel
theorem dX5_takesVines_40 : decode cX5_takesVines 40 = .ok (.iadd, 1) := by decide +kernel
theorem dX5_takesVines_41 : decode cX5_takesVines 41 = .ok (.aload_n 0, 1) := by decide +kernel
theorem dX5_takesVines_42 : decode cX5_takesVines 42 = .ok (.getfield 42, 3) := by decide +kernel
theorem dX5_takesVines_45 : decode cX5_takesVines 45 = .ok (.iconst 1, 1) := by decide +kernel
theorem dX5_takesVines_46 : decode cX5_takesVines 46 = .ok (.iaload, 1) := by decide +kernel
theorem dX5_takesVines_47 : decode cX5_takesVines 47 = .ok (.iastore, 1) := by decide +kernel
theorem dX5_takesVines_48 : decode cX5_takesVines 48 = .ok (.iconst 1, 1) := by decide +kernel
theorem dX5_takesVines_49 : decode cX5_takesVines 49 = .ok (.ireturn, 1) := by decide +kernel
theorem dX5_takesHill_0 : decode cX5_takesHill 0 = .ok (.aload_n 0, 1) := by decide +kernel
theorem dX5_takesHill_1 : decode cX5_takesHill 1 = .ok (.getfield 39, 3) := by decide +kernel
theorem dX5_takesHill_4 : decode cX5_takesHill 4 = .ok (.iconst 0, 1) := by decide +kernel
theorem dX5_takesHill_5 : decode cX5_takesHill 5 = .ok (.iaload, 1) := by decide +kernel
theorem dX5_takesHill_6 : decode cX5_takesHill 6 = .ok (.bipush 7, 2) := by decide +kernel
theorem dX5_takesHill_8 : decode cX5_takesHill 8 = .ok (.if_icmp .ne 5, 3) := by decide +kernel
theorem dX5_takesHill_11 : decode cX5_takesHill 11 = .ok (.iconst 0, 1) := by decide +kernel
theorem dX5_takesHill_12 : decode cX5_takesHill 12 = .ok (.ireturn, 1) := by decide +kernel
theorem dX5_takesHill_13 : decode cX5_takesHill 13 = .ok (.aload_n 0, 1) := by decide +kernel
theorem dX5_takesHill_14 : decode cX5_takesHill 14 = .ok (.invokevirtual 238, 3) := by decide +kernel
theorem dX5_takesHill_17 : decode cX5_takesHill 17 = .ok (.aload_n 0, 1) := by decide +kernel
theorem dX5_takesHill_18 : decode cX5_takesHill 18 = .ok (.iconst 0, 1) := by decide +kernel
theorem dX5_takesHill_19 : decode cX5_takesHill 19 = .ok (.iconst 0, 1) := by decide +kernel
theorem dX5_takesHill_20 : decode cX5_takesHill 20 = .ok (.iconst 5, 1) := by decide +kernel
theorem dX5_takesHill_21 : decode cX5_takesHill 21 = .ok (.invokevirtual 241, 3) := by decide +kernel
theorem dX5_takesHill_24 : decode cX5_takesHill 24 = .ok (.ifCond .eq 47, 3) := by decide +kernel
theorem dX5_takesHill_27 : decode cX5_takesHill 27 = .ok (.aload_n 0, 1) := by decide +kernel
theorem dX5_takesHill_28 : decode cX5_takesHill 28 = .ok (.getfield 222, 3) := by decide +kernel
theorem dX5_takesHill_31 : decode cX5_takesHill 31 = .ok (.iconst 2, 1) := by decide +kernel
theorem dX5_takesHill_32 : decode cX5_takesHill 32 = .ok (.if_icmp .ne 39, 3) := by decide +kernel
theorem dX5_takesHill_35 : decode cX5_takesHill 35 = .ok (.aload_n 0, 1) := by decide +kernel
theorem dX5_takesHill_36 : decode cX5_takesHill 36 = .ok (.getfield 39, 3) := by decide +kernel
theorem dX5_takesHill_39 : decode cX5_takesHill 39 = .ok (.aload_n 0, 1) := by decide +kernel
theorem dX5_takesHill_40 : decode cX5_takesHill 40 = .ok (.getfield 225, 3) := by decide +kernel
theorem dX5_takesHill_43 : decode cX5_takesHill 43 = .ok (.invokestatic 79, 3) := by decide +kernel
theorem dX5_takesHill_46 : decode cX5_takesHill 46 = .ok (.ifCond .eq 25, 3) := by decide +kernel
theorem dX5_takesHill_49 : decode cX5_takesHill 49 = .ok (.aload_n 0, 1) := by decide +kernel
theorem dX5_takesHill_50 : decode cX5_takesHill 50 = .ok (.iconst 1, 1) := by decide +kernel
theorem dX5_takesHill_51 : decode cX5_takesHill 51 = .ok (.iconst 0, 1) := by decide +kernel
theorem dX5_takesHill_52 : decode cX5_takesHill 52 = .ok (.bipush 19, 2) := by decide +kernel
theorem dX5_takesHill_54 : decode cX5_takesHill 54 = .ok (.invokevirtual 241, 3) := by decide +kernel
theorem dX5_takesHill_57 : decode cX5_takesHill 57 = .ok (.ifCond .eq 14, 3) := by decide +kernel
theorem dX5_takesHill_60 : decode cX5_takesHill 60 = .ok (.aload_n 0, 1) := by decide +kernel
theorem dX5_takesHill_61 : decode cX5_takesHill 61 = .ok (.iconst 2, 1) := by decide +kernel
theorem dX5_takesHill_62 : decode cX5_takesHill 62 = .ok (.iconst 0, 1) := by decide +kernel
theorem dX5_takesHill_63 : decode cX5_takesHill 63 = .ok (.bipush 59, 2) := by decide +kernel
theorem dX5_takesHill_65 : decode cX5_takesHill 65 = .ok (.invokevirtual 241, 3) := by decide +kernel
theorem dX5_takesHill_68 : decode cX5_takesHill 68 = .ok (.ifCond .ne 5, 3) := by decide +kernel
theorem dX5_takesHill_71 : decode cX5_takesHill 71 = .ok (.iconst 0, 1) := by decide +kernel
theorem dX5_takesHill_72 : decode cX5_takesHill 72 = .ok (.ireturn, 1) := by decide +kernel
theorem dX5_takesHill_73 : decode cX5_takesHill 73 = .ok (.aload_n 0, 1) := by decide +kernel
theorem dX5_takesHill_74 : decode cX5_takesHill 74 = .ok (.getfield 39, 3) := by decide +kernel
theorem dX5_takesHill_77 : decode cX5_takesHill 77 = .ok (.aload_n 0, 1) := by decide +kernel
theorem dX5_takesHill_78 : decode cX5_takesHill 78 = .ok (.getfield 42, 3) := by decide +kernel
theorem dX5_takesHill_81 : decode cX5_takesHill 81 = .ok (.iconst 0, 1) := by decide +kernel
theorem dX5_takesHill_82 : decode cX5_takesHill 82 = .ok (.iaload, 1) := by decide +kernel
theorem dX5_takesHill_83 : decode cX5_takesHill 83 = .ok (.aload_n 0, 1) := by decide +kernel
theorem dX5_takesHill_84 : decode cX5_takesHill 84 = .ok (.getfield 42, 3) := by decide +kernel
theorem dX5_takesHill_87 : decode cX5_takesHill 87 = .ok (.iconst 1, 1) := by decide +kernel
theorem dX5_takesHill_88 : decode cX5_takesHill 88 = .ok (.iaload, 1) := by decide +kernel
theorem dX5_takesHill_89 : decode cX5_takesHill 89 = .ok (.aload_n 0, 1) := by decide +kernel
theorem dX5_takesHill_90 : decode cX5_takesHill 90 = .ok (.getfield 42, 3) := by decide +kernel
theorem dX5_takesHill_93 : decode cX5_takesHill 93 = .ok (.iconst 2, 1) := by decide +kernel
theorem dX5_takesHill_94 : decode cX5_takesHill 94 = .ok (.iaload, 1) := by decide +kernel
theorem dX5_takesHill_95 : decode cX5_takesHill 95 = .ok (.invokestatic 89, 3) := by decide +kernel
theorem dX5_takesHill_98 : decode cX5_takesHill 98 = .ok (.iconst 1, 1) := by decide +kernel
theorem dX5_takesHill_99 : decode cX5_takesHill 99 = .ok (.ireturn, 1) := by decide +kernel
theorem dX5_takesDays_0 : decode cX5_takesDays 0 = .ok (.iconst 0, 1) := by decide +kernel
theorem dX5_takesDays_1 : decode cX5_takesDays 1 = .ok (.istore_n 1, 1) := by decide +kernel
theorem dX5_takesDays_2 : decode cX5_takesDays 2 = .ok (.aload_n 0, 1) := by decide +kernel
theorem dX5_takesDays_3 : decode cX5_takesDays 3 = .ok (.invokevirtual 238, 3) := by decide +kernel
theorem dX5_takesDays_6 : decode cX5_takesDays 6 = .ok (.aload_n 0, 1) := by decide +kernel
theorem dX5_takesDays_7 : decode cX5_takesDays 7 = .ok (.getfield 222, 3) := by decide +kernel
theorem dX5_takesDays_10 : decode cX5_takesDays 10 = .ok (.iconst 2, 1) := by decide +kernel
theorem dX5_takesDays_11 : decode cX5_takesDays 11 = .ok (.if_icmp .ne 62, 3) := by decide +kernel
theorem dX5_takesDays_14 : decode cX5_takesDays 14 = .ok (.iload_n 1, 1) := by decide +kernel
theorem dX5_takesDays_15 : decode cX5_takesDays 15 = .ok (.bipush 9, 2) := by decide +kernel
theorem dX5_takesDays_17 : decode cX5_takesDays 17 = .ok (.if_icmp .ge 56, 3) := by decide +kernel
theorem dX5_takesDays_20 : decode cX5_takesDays 20 = .ok (.aload_n 0, 1) := by decide +kernel
theorem dX5_takesDays_21 : decode cX5_takesDays 21 = .ok (.getfield 225, 3) := by decide +kernel
theorem dX5_takesDays_24 : decode cX5_takesDays 24 = .ok (.aload_n 0, 1) := by decide +kernel
theorem dX5_takesDays_25 : decode cX5_takesDays 25 = .ok (.getfield 39, 3) := by decide +kernel
theorem dX5_takesDays_28 : decode cX5_takesDays 28 = .ok (.iconst 0, 1) := by decide +kernel
theorem dX5_takesDays_29 : decode cX5_takesDays 29 = .ok (.iaload, 1) := by decide +kernel
theorem dX5_takesDays_30 : decode cX5_takesDays 30 = .ok (.if_icmp .lt 12, 3) := by decide +kernel
theorem dX5_takesDays_33 : decode cX5_takesDays 33 = .ok (.aload_n 0, 1) := by decide +kernel
theorem dX5_takesDays_34 : decode cX5_takesDays 34 = .ok (.getfield 225, 3) := by decide +kernel
theorem dX5_takesDays_37 : decode cX5_takesDays 37 = .ok (.bipush 7, 2) := by decide +kernel
theorem dX5_takesDays_39 : decode cX5_takesDays 39 = .ok (.if_icmp .ne 34, 3) := by decide +kernel
theorem dX5_takesDays_42 : decode cX5_takesDays 42 = .ok (.aload_n 0, 1) := by decide +kernel
theorem dX5_takesDays_43 : decode cX5_takesDays 43 = .ok (.aload_n 0, 1) := by decide +kernel
theorem dX5_takesDays_44 : decode cX5_takesDays 44 = .ok (.getfield 39, 3) := by decide +kernel
theorem dX5_takesDays_47 : decode cX5_takesDays 47 = .ok (.aload_n 0, 1) := by decide +kernel
theorem dX5_takesDays_48 : decode cX5_takesDays 48 = .ok (.getfield 225, 3) := by decide +kernel
theorem dX5_takesDays_51 : decode cX5_takesDays 51 = .ok (.invokevirtual 126, 3) := by decide +kernel
theorem dX5_takesDays_54 : decode cX5_takesDays 54 = .ok (.istore_n 2, 1) := by decide +kernel
theorem dX5_takesDays_55 : decode cX5_takesDays 55 = .ok (.aload_n 0, 1) := by decide +kernel
theorem dX5_takesDays_56 : decode cX5_takesDays 56 = .ok (.getfield 39, 3) := by decide +kernel
theorem dX5_takesDays_59 : decode cX5_takesDays 59 = .ok (.iload_n 2, 1) := by decide +kernel
theorem dX5_takesDays_60 : decode cX5_takesDays 60 = .ok (.invokestatic 129, 3) := by decide +kernel
theorem dX5_takesDays_63 : decode cX5_takesDays 63 = .ok (.iinc 1 1, 3) := by decide +kernel
theorem dX5_takesDays_66 : decode cX5_takesDays 66 = .ok (.aload_n 0, 1) := by decide +kernel
theorem dX5_takesDays_67 : decode cX5_takesDays 67 = .ok (.invokevirtual 238, 3) := by decide +kernel
theorem dX5_takesDays_70 : decode cX5_takesDays 70 = .ok (.goto (-64), 3) := by decide +kernel
theorem dX5_takesDays_73 : decode cX5_takesDays 73 = .ok (.iload_n 1, 1) := by decide +kernel
theorem dX5_takesDays_74 : decode cX5_takesDays 74 = .ok (.ifCond .le 7, 3) := by decide +kernel
theorem dX5_takesDays_77 : decode cX5_takesDays 77 = .ok (.iconst 1, 1) := by decide +kernel
theorem dX5_takesDays_78 : decode cX5_takesDays 78 = .ok (.goto 4, 3) := by decide +kernel
theorem dX5_takesDays_81 : decode cX5_takesDays 81 = .ok (.iconst 0, 1) := by decide +kernel
theorem dX5_takesDays_82 : decode cX5_takesDays 82 = .ok (.ireturn, 1) := by decide +kernel
theorem dX5_takesItem_0 : decode cX5_takesItem 0 = .ok (.aload_n 0, 1) := by decide +kernel
theorem dX5_takesItem_1 : decode cX5_takesItem 1 = .ok (.iconst 5, 1) := by decide +kernel
theorem dX5_takesItem_2 : decode cX5_takesItem 2 = .ok (.bipush 118, 2) := by decide +kernel
theorem dX5_takesItem_4 : decode cX5_takesItem 4 = .ok (.bipush 105, 2) := by decide +kernel
theorem dX5_takesItem_6 : decode cX5_takesItem 6 = .ok (.bipush 110, 2) := by decide +kernel
theorem dX5_takesItem_8 : decode cX5_takesItem 8 = .ok (.bipush 101, 2) := by decide +kernel
theorem dX5_takesItem_10 : decode cX5_takesItem 10 = .ok (.bipush 115, 2) := by decide +kernel
theorem dX5_takesItem_12 : decode cX5_takesItem 12 = .ok (.iconst 0, 1) := by decide +kernel
theorem dX5_takesItem_13 : decode cX5_takesItem 13 = .ok (.invokevirtual 245, 3) := by decide +kernel
theorem dX5_takesItem_16 : decode cX5_takesItem 16 = .ok (.ifCond .eq 8, 3) := by decide +kernel
theorem dX5_takesItem_19 : decode cX5_takesItem 19 = .ok (.aload_n 0, 1) := by decide +kernel
theorem dX5_takesItem_20 : decode cX5_takesItem 20 = .ok (.invokevirtual 249, 3) := by decide +kernel
theorem dX5_takesItem_23 : decode cX5_takesItem 23 = .ok (.ireturn, 1) := by decide +kernel
theorem dX5_takesItem_24 : decode cX5_takesItem 24 = .ok (.aload_n 0, 1) := by decide +kernel
theorem dX5_takesItem_25 : decode cX5_takesItem 25 = .ok (.iconst 4, 1) := by decide +kernel
theorem dX5_takesItem_26 : decode cX5_takesItem 26 = .ok (.bipush 104, 2) := by decide +kernel
theorem dX5_takesItem_28 : decode cX5_takesItem 28 = .ok (.bipush 105, 2) := by decide +kernel
theorem dX5_takesItem_30 : decode cX5_takesItem 30 = .ok (.bipush 108, 2) := by decide +kernel
theorem dX5_takesItem_32 : decode cX5_takesItem 32 = .ok (.bipush 108, 2) := by decide +kernel
theorem dX5_takesItem_34 : decode cX5_takesItem 34 = .ok (.iconst 0, 1) := by decide +kernel
theorem dX5_takesItem_35 : decode cX5_takesItem 35 = .ok (.iconst 0, 1) := by decide +kernel
theorem dX5_takesItem_36 : decode cX5_takesItem 36 = .ok (.invokevirtual 245, 3) := by decide +kernel
theorem dX5_takesItem_39 : decode cX5_takesItem 39 = .ok (.ifCond .eq 8, 3) := by decide +kernel
theorem dX5_takesItem_42 : decode cX5_takesItem 42 = .ok (.aload_n 0, 1) := by decide +kernel
theorem dX5_takesItem_43 : decode cX5_takesItem 43 = .ok (.invokevirtual 253, 3) := by decide +kernel
theorem dX5_takesItem_46 : decode cX5_takesItem 46 = .ok (.ireturn, 1) := by decide +kernel
theorem dX5_takesItem_47 : decode cX5_takesItem 47 = .ok (.aload_n 0, 1) := by decide +kernel
theorem dX5_takesItem_48 : decode cX5_takesItem 48 = .ok (.iconst 3, 1) := by decide +kernel
theorem dX5_takesItem_49 : decode cX5_takesItem 49 = .ok (.bipush 100, 2) := by decide +kernel
theorem dX5_takesItem_51 : decode cX5_takesItem 51 = .ok (.bipush 97, 2) := by decide +kernel
theorem dX5_takesItem_53 : decode cX5_takesItem 53 = .ok (.bipush 121, 2) := by decide +kernel
theorem dX5_takesItem_55 : decode cX5_takesItem 55 = .ok (.iconst 0, 1) := by decide +kernel
theorem dX5_takesItem_56 : decode cX5_takesItem 56 = .ok (.iconst 0, 1) := by decide +kernel
theorem dX5_takesItem_57 : decode cX5_takesItem 57 = .ok (.iconst 0, 1) := by decide +kernel
theorem dX5_takesItem_58 : decode cX5_takesItem 58 = .ok (.invokevirtual 245, 3) := by decide +kernel
theorem dX5_takesItem_61 : decode cX5_takesItem 61 = .ok (.ifCond .eq 14, 3) := by decide +kernel
theorem dX5_takesItem_64 : decode cX5_takesItem 64 = .ok (.aload_n 0, 1) := by decide +kernel
theorem dX5_takesItem_65 : decode cX5_takesItem 65 = .ok (.invokevirtual 256, 3) := by decide +kernel
theorem dX5_takesItem_68 : decode cX5_takesItem 68 = .ok (.ifCond .eq 7, 3) := by decide +kernel
theorem dX5_takesItem_71 : decode cX5_takesItem 71 = .ok (.iconst 1, 1) := by decide +kernel
theorem dX5_takesItem_72 : decode cX5_takesItem 72 = .ok (.goto 4, 3) := by decide +kernel
theorem dX5_takesItem_75 : decode cX5_takesItem 75 = .ok (.iconst 0, 1) := by decide +kernel
theorem dX5_takesItem_76 : decode cX5_takesItem 76 = .ok (.ireturn, 1) := by decide +kernel
theorem dX5_read_0 : decode cX5_read 0 = .ok (.aload_n 0, 1) := by decide +kernel
theorem dX5_read_1 : decode cX5_read 1 = .ok (.iconst 0, 1) := by decide +kernel
theorem dX5_read_2 : decode cX5_read 2 = .ok (.invokevirtual 234, 3) := by decide +kernel
theorem dX5_read_5 : decode cX5_read 5 = .ok (.aload_n 0, 1) := by decide +kernel
theorem dX5_read_6 : decode cX5_read 6 = .ok (.bipush 6, 2) := by decide +kernel
theorem dX5_read_8 : decode cX5_read 8 = .ok (.bipush 105, 2) := by decide +kernel
theorem dX5_read_10 : decode cX5_read 10 = .ok (.bipush 115, 2) := by decide +kernel
theorem dX5_read_12 : decode cX5_read 12 = .ok (.bipush 108, 2) := by decide +kernel
theorem dX5_read_14 : decode cX5_read 14 = .ok (.bipush 97, 2) := by decide +kernel
theorem dX5_read_16 : decode cX5_read 16 = .ok (.bipush 110, 2) := by decide +kernel
theorem dX5_read_18 : decode cX5_read 18 = .ok (.bipush 100, 2) := by decide +kernel
theorem dX5_read_20 : decode cX5_read 20 = .ok (.invokevirtual 245, 3) := by decide +kernel
theorem dX5_read_23 : decode cX5_read 23 = .ok (.ifCond .ne 11, 3) := by decide +kernel
theorem dX5_read_26 : decode cX5_read 26 = .ok (.bipush (-10), 2) := by decide +kernel
theorem dX5_read_28 : decode cX5_read 28 = .ok (.aload_n 0, 1) := by decide +kernel
theorem dX5_read_29 : decode cX5_read 29 = .ok (.getfield 216, 3) := by decide +kernel
theorem dX5_read_32 : decode cX5_read 32 = .ok (.isub, 1) := by decide +kernel
theorem dX5_read_33 : decode cX5_read 33 = .ok (.ireturn, 1) := by decide +kernel
theorem dX5_read_34 : decode cX5_read 34 = .ok (.aload_n 0, 1) := by decide +kernel
theorem dX5_read_35 : decode cX5_read 35 = .ok (.invokevirtual 238, 3) := by decide +kernel
theorem dX5_read_38 : decode cX5_read 38 = .ok (.aload_n 0, 1) := by decide +kernel
theorem dX5_read_39 : decode cX5_read 39 = .ok (.iconst 0, 1) := by decide +kernel
theorem dX5_read_40 : decode cX5_read 40 = .ok (.iconst 0, 1) := by decide +kernel
theorem dX5_read_41 : decode cX5_read 41 = .ok (.iconst 5, 1) := by decide +kernel
theorem dX5_read_42 : decode cX5_read 42 = .ok (.invokevirtual 241, 3) := by decide +kernel
theorem dX5_read_45 : decode cX5_read 45 = .ok (.ifCond .eq 11, 3) := by decide +kernel
theorem dX5_read_48 : decode cX5_read 48 = .ok (.aload_n 0, 1) := by decide +kernel
theorem dX5_read_49 : decode cX5_read 49 = .ok (.getfield 222, 3) := by decide +kernel
theorem dX5_read_52 : decode cX5_read 52 = .ok (.iconst 3, 1) := by decide +kernel
theorem dX5_read_53 : decode cX5_read 53 = .ok (.if_icmp .eq 11, 3) := by decide +kernel
theorem dX5_read_56 : decode cX5_read 56 = .ok (.bipush (-10), 2) := by decide +kernel
theorem dX5_read_58 : decode cX5_read 58 = .ok (.aload_n 0, 1) := by decide +kernel
theorem dX5_read_59 : decode cX5_read 59 = .ok (.getfield 216, 3) := by decide +kernel
theorem dX5_read_62 : decode cX5_read 62 = .ok (.isub, 1) := by decide +kernel
theorem dX5_read_63 : decode cX5_read 63 = .ok (.ireturn, 1) := by decide +kernel
theorem dX5_read_64 : decode cX5_read 64 = .ok (.aload_n 0, 1) := by decide +kernel
theorem dX5_read_65 : decode cX5_read 65 = .ok (.invokevirtual 238, 3) := by decide +kernel
theorem dX5_read_68 : decode cX5_read 68 = .ok (.aload_n 0, 1) := by decide +kernel
theorem dX5_read_69 : decode cX5_read 69 = .ok (.getfield 39, 3) := by decide +kernel
theorem dX5_read_72 : decode cX5_read 72 = .ok (.aload_n 0, 1) := by decide +kernel
theorem dX5_read_73 : decode cX5_read 73 = .ok (.getfield 42, 3) := by decide +kernel
theorem dX5_read_76 : decode cX5_read 76 = .ok (.iconst 0, 1) := by decide +kernel
theorem dX5_read_77 : decode cX5_read 77 = .ok (.iaload, 1) := by decide +kernel
theorem dX5_read_78 : decode cX5_read 78 = .ok (.invokestatic 45, 3) := by decide +kernel
theorem dX5_read_81 : decode cX5_read 81 = .ok (.iconst 1, 1) := by decide +kernel
theorem dX5_read_82 : decode cX5_read 82 = .ok (.istore_n 1, 1) := by decide +kernel
theorem dX5_read_83 : decode cX5_read 83 = .ok (.aload_n 0, 1) := by decide +kernel
theorem dX5_read_84 : decode cX5_read 84 = .ok (.getfield 222, 3) := by decide +kernel
theorem dX5_read_87 : decode cX5_read 87 = .ok (.ifCond .eq 36, 3) := by decide +kernel
theorem dX5_read_90 : decode cX5_read 90 = .ok (.aload_n 0, 1) := by decide +kernel
theorem dX5_read_91 : decode cX5_read 91 = .ok (.invokevirtual 259, 3) := by decide +kernel
theorem dX5_read_94 : decode cX5_read 94 = .ok (.ifCond .eq 11, 3) := by decide +kernel
theorem dX5_read_97 : decode cX5_read 97 = .ok (.aload_n 0, 1) := by decide +kernel
theorem dX5_read_98 : decode cX5_read 98 = .ok (.getfield 222, 3) := by decide +kernel
theorem dX5_read_101 : decode cX5_read 101 = .ok (.iconst 3, 1) := by decide +kernel
theorem dX5_read_102 : decode cX5_read 102 = .ok (.if_icmp .eq 11, 3) := by decide +kernel
theorem dX5_read_105 : decode cX5_read 105 = .ok (.bipush (-10), 2) := by decide +kernel
theorem dX5_read_107 : decode cX5_read 107 = .ok (.aload_n 0, 1) := by decide +kernel
theorem dX5_read_108 : decode cX5_read 108 = .ok (.getfield 216, 3) := by decide +kernel
theorem dX5_read_111 : decode cX5_read 111 = .ok (.isub, 1) := by decide +kernel
theorem dX5_read_112 : decode cX5_read 112 = .ok (.ireturn, 1) := by decide +kernel
theorem dX5_read_113 : decode cX5_read 113 = .ok (.aload_n 0, 1) := by decide +kernel
theorem dX5_read_114 : decode cX5_read 114 = .ok (.invokevirtual 238, 3) := by decide +kernel
theorem dX5_read_117 : decode cX5_read 117 = .ok (.iinc 1 1, 3) := by decide +kernel
theorem dX5_read_120 : decode cX5_read 120 = .ok (.goto (-37), 3) := by decide +kernel
theorem dX5_read_123 : decode cX5_read 123 = .ok (.iconst 0, 1) := by decide +kernel
theorem dX5_read_124 : decode cX5_read 124 = .ok (.istore_n 2, 1) := by decide +kernel
theorem dX5_read_125 : decode cX5_read 125 = .ok (.iload_n 2, 1) := by decide +kernel
theorem dX5_read_126 : decode cX5_read 126 = .ok (.bipush 86, 2) := by decide +kernel
theorem dX5_read_128 : decode cX5_read 128 = .ok (.if_icmp .ge 21, 3) := by decide +kernel
theorem dX5_read_131 : decode cX5_read 131 = .ok (.aload_n 0, 1) := by decide +kernel
theorem dX5_read_132 : decode cX5_read 132 = .ok (.getfield 7, 3) := by decide +kernel
theorem dX5_read_135 : decode cX5_read 135 = .ok (.iload_n 2, 1) := by decide +kernel
theorem dX5_read_136 : decode cX5_read 136 = .ok (.aload_n 0, 1) := by decide +kernel
theorem dX5_read_137 : decode cX5_read 137 = .ok (.getfield 39, 3) := by decide +kernel
theorem dX5_read_140 : decode cX5_read 140 = .ok (.iload_n 2, 1) := by decide +kernel
theorem dX5_read_141 : decode cX5_read 141 = .ok (.iaload, 1) := by decide +kernel
theorem dX5_read_142 : decode cX5_read 142 = .ok (.iastore, 1) := by decide +kernel
theorem dX5_read_143 : decode cX5_read 143 = .ok (.iinc 2 1, 3) := by decide +kernel
theorem dX5_read_146 : decode cX5_read 146 = .ok (.goto (-21), 3) := by decide +kernel
theorem dX5_read_149 : decode cX5_read 149 = .ok (.iload_n 1, 1) := by decide +kernel
theorem dX5_read_150 : decode cX5_read 150 = .ok (.ireturn, 1) := by decide +kernel
theorem dX5_part_0 : decode cX5_part 0 = .ok (.iload_n 1, 1) := by decide +kernel
theorem dX5_part_1 : decode cX5_part 1 = .ok (.ifCond .ne 10, 3) := by decide +kernel
theorem dX5_part_4 : decode cX5_part 4 = .ok (.aload_n 0, 1) := by decide +kernel
theorem dX5_part_5 : decode cX5_part 5 = .ok (.getfield 178, 3) := by decide +kernel
theorem dX5_part_8 : decode cX5_part 8 = .ok (.goto 22, 3) := by decide +kernel
theorem dX5_part_11 : decode cX5_part 11 = .ok (.iload_n 1, 1) := by decide +kernel
theorem dX5_part_12 : decode cX5_part 12 = .ok (.iconst 1, 1) := by decide +kernel
theorem dX5_part_13 : decode cX5_part 13 = .ok (.if_icmp .ne 10, 3) := by decide +kernel
theorem dX5_part_16 : decode cX5_part 16 = .ok (.aload_n 0, 1) := by decide +kernel
theorem dX5_part_17 : decode cX5_part 17 = .ok (.getfield 23, 3) := by decide +kernel
theorem dX5_part_20 : decode cX5_part 20 = .ok (.goto 10, 3) := by decide +kernel
theorem dX5_part_23 : decode cX5_part 23 = .ok (.aload_n 0, 1) := by decide +kernel
theorem dX5_part_24 : decode cX5_part 24 = .ok (.bipush (-2), 2) := by decide +kernel
theorem dX5_part_26 : decode cX5_part 26 = .ok (.invokevirtual 67, 3) := by decide +kernel
theorem dX5_part_29 : decode cX5_part 29 = .ok (.i2l, 1) := by decide +kernel
theorem dX5_part_30 : decode cX5_part 30 = .ok (.lreturn, 1) := by decide +kernel
theorem dX5_image_0 : decode cX5_image 0 = .ok (.iload_n 1, 1) := by decide +kernel
theorem dX5_image_1 : decode cX5_image 1 = .ok (.i2l, 1) := by decide +kernel
theorem dX5_image_2 : decode cX5_image 2 = .ok (.lconst 0, 1) := by decide +kernel
theorem dX5_image_3 : decode cX5_image 3 = .ok (.lconst 1, 1) := by decide +kernel
theorem dX5_image_4 : decode cX5_image 4 = .ok (.invokestatic 53, 3) := by decide +kernel
theorem dX5_image_7 : decode cX5_image 7 = .ok (.ifCond .ne 10, 3) := by decide +kernel
theorem dX5_image_10 : decode cX5_image 10 = .ok (.aload_n 0, 1) := by decide +kernel
theorem dX5_image_11 : decode cX5_image 11 = .ok (.bipush (-2), 2) := by decide +kernel
theorem dX5_image_13 : decode cX5_image 13 = .ok (.invokevirtual 67, 3) := by decide +kernel
theorem dX5_image_16 : decode cX5_image 16 = .ok (.ireturn, 1) := by decide +kernel
theorem dX5_image_17 : decode cX5_image 17 = .ok (.iconst 0, 1) := by decide +kernel
theorem dX5_image_18 : decode cX5_image 18 = .ok (.istore_n 2, 1) := by decide +kernel
theorem dX5_image_19 : decode cX5_image 19 = .ok (.iload_n 2, 1) := by decide +kernel
theorem dX5_image_20 : decode cX5_image 20 = .ok (.sipush 318, 3) := by decide +kernel
theorem dX5_image_23 : decode cX5_image 23 = .ok (.if_icmp .ge 27, 3) := by decide +kernel
theorem dX5_image_26 : decode cX5_image 26 = .ok (.aload_n 0, 1) := by decide +kernel
theorem dX5_image_27 : decode cX5_image 27 = .ok (.getfield 13, 3) := by decide +kernel
theorem dX5_image_30 : decode cX5_image 30 = .ok (.sipush 318, 3) := by decide +kernel
theorem dX5_image_33 : decode cX5_image 33 = .ok (.iload_n 1, 1) := by decide +kernel
theorem dX5_image_34 : decode cX5_image 34 = .ok (.imul, 1) := by decide +kernel
theorem dX5_image_35 : decode cX5_image 35 = .ok (.iload_n 2, 1) := by decide +kernel
theorem dX5_image_36 : decode cX5_image 36 = .ok (.iadd, 1) := by decide +kernel
theorem dX5_image_37 : decode cX5_image 37 = .ok (.aload_n 0, 1) := by decide +kernel
theorem dX5_image_38 : decode cX5_image 38 = .ok (.getfield 7, 3) := by decide +kernel
theorem dX5_image_41 : decode cX5_image 41 = .ok (.iload_n 2, 1) := by decide +kernel
theorem dX5_image_42 : decode cX5_image 42 = .ok (.iaload, 1) := by decide +kernel
theorem dX5_image_43 : decode cX5_image 43 = .ok (.iastore, 1) := by decide +kernel
theorem dX5_image_44 : decode cX5_image 44 = .ok (.iinc 2 1, 3) := by decide +kernel
theorem dX5_image_47 : decode cX5_image 47 = .ok (.goto (-28), 3) := by decide +kernel
theorem dX5_image_50 : decode cX5_image 50 = .ok (.aload_n 0, 1) := by decide +kernel
theorem dX5_image_51 : decode cX5_image 51 = .ok (.getfield 16, 3) := by decide +kernel
theorem dX5_image_54 : decode cX5_image 54 = .ok (.iload_n 1, 1) := by decide +kernel
theorem dX5_image_55 : decode cX5_image 55 = .ok (.iconst 1, 1) := by decide +kernel
theorem dX5_image_56 : decode cX5_image 56 = .ok (.bastore, 1) := by decide +kernel
theorem dX5_image_57 : decode cX5_image 57 = .ok (.iconst 1, 1) := by decide +kernel
theorem dX5_image_58 : decode cX5_image 58 = .ok (.ireturn, 1) := by decide +kernel
theorem dX5_from_0 : decode cX5_from 0 = .ok (.iload_n 1, 1) := by decide +kernel
theorem dX5_from_1 : decode cX5_from 1 = .ok (.i2l, 1) := by decide +kernel
theorem dX5_from_2 : decode cX5_from 2 = .ok (.lconst 0, 1) := by decide +kernel
theorem dX5_from_3 : decode cX5_from 3 = .ok (.lconst 1, 1) := by decide +kernel
theorem dX5_from_4 : decode cX5_from 4 = .ok (.invokestatic 53, 3) := by decide +kernel
theorem dX5_from_7 : decode cX5_from 7 = .ok (.ifCond .ne 10, 3) := by decide +kernel
theorem dX5_from_10 : decode cX5_from 10 = .ok (.aload_n 0, 1) := by decide +kernel
theorem dX5_from_11 : decode cX5_from 11 = .ok (.bipush (-2), 2) := by decide +kernel
theorem dX5_from_13 : decode cX5_from 13 = .ok (.invokevirtual 67, 3) := by decide +kernel
theorem dX5_from_16 : decode cX5_from 16 = .ok (.ireturn, 1) := by decide +kernel
theorem dX5_from_17 : decode cX5_from 17 = .ok (.aload_n 0, 1) := by decide +kernel
theorem dX5_from_18 : decode cX5_from 18 = .ok (.getfield 16, 3) := by decide +kernel
theorem dX5_from_21 : decode cX5_from 21 = .ok (.iload_n 1, 1) := by decide +kernel
theorem dX5_from_22 : decode cX5_from 22 = .ok (.baload, 1) := by decide +kernel
theorem dX5_from_23 : decode cX5_from 23 = .ok (.ifCond .ne 8, 3) := by decide +kernel
theorem dX5_from_26 : decode cX5_from 26 = .ok (.aload_n 0, 1) := by decide +kernel
theorem dX5_from_27 : decode cX5_from 27 = .ok (.invokevirtual 83, 3) := by decide +kernel
theorem dX5_from_30 : decode cX5_from 30 = .ok (.ireturn, 1) := by decide +kernel
theorem dX5_from_31 : decode cX5_from 31 = .ok (.iconst 0, 1) := by decide +kernel
theorem dX5_from_32 : decode cX5_from 32 = .ok (.istore_n 2, 1) := by decide +kernel
theorem dX5_from_33 : decode cX5_from 33 = .ok (.iload_n 2, 1) := by decide +kernel
theorem dX5_from_34 : decode cX5_from 34 = .ok (.sipush 318, 3) := by decide +kernel
theorem dX5_from_37 : decode cX5_from 37 = .ok (.if_icmp .ge 27, 3) := by decide +kernel
theorem dX5_from_40 : decode cX5_from 40 = .ok (.aload_n 0, 1) := by decide +kernel
theorem dX5_from_41 : decode cX5_from 41 = .ok (.getfield 7, 3) := by decide +kernel
theorem dX5_from_44 : decode cX5_from 44 = .ok (.iload_n 2, 1) := by decide +kernel
theorem dX5_from_45 : decode cX5_from 45 = .ok (.aload_n 0, 1) := by decide +kernel
theorem dX5_from_46 : decode cX5_from 46 = .ok (.getfield 13, 3) := by decide +kernel
theorem dX5_from_49 : decode cX5_from 49 = .ok (.sipush 318, 3) := by decide +kernel
theorem dX5_from_52 : decode cX5_from 52 = .ok (.iload_n 1, 1) := by decide +kernel
theorem dX5_from_53 : decode cX5_from 53 = .ok (.imul, 1) := by decide +kernel
theorem dX5_from_54 : decode cX5_from 54 = .ok (.iload_n 2, 1) := by decide +kernel
theorem dX5_from_55 : decode cX5_from 55 = .ok (.iadd, 1) := by decide +kernel
theorem dX5_from_56 : decode cX5_from 56 = .ok (.iaload, 1) := by decide +kernel
theorem dX5_from_57 : decode cX5_from 57 = .ok (.iastore, 1) := by decide +kernel
theorem dX5_from_58 : decode cX5_from 58 = .ok (.iinc 2 1, 3) := by decide +kernel
theorem dX5_from_61 : decode cX5_from 61 = .ok (.goto (-28), 3) := by decide +kernel
theorem dX5_from_64 : decode cX5_from 64 = .ok (.iconst 1, 1) := by decide +kernel
theorem dX5_from_65 : decode cX5_from 65 = .ok (.ireturn, 1) := by decide +kernel
theorem dX5_status_0 : decode cX5_status 0 = .ok (.iload_n 1, 1) := by decide +kernel
theorem dX5_status_1 : decode cX5_status 1 = .ok (.i2l, 1) := by decide +kernel
theorem dX5_status_2 : decode cX5_status 2 = .ok (.lconst 0, 1) := by decide +kernel
theorem dX5_status_3 : decode cX5_status 3 = .ok (.ldc2_w 262, 3) := by decide +kernel
theorem dX5_status_6 : decode cX5_status 6 = .ok (.invokestatic 53, 3) := by decide +kernel
theorem dX5_status_9 : decode cX5_status 9 = .ok (.ifCond .eq 12, 3) := by decide +kernel
theorem dX5_status_12 : decode cX5_status 12 = .ok (.aload_n 0, 1) := by decide +kernel
theorem dX5_status_13 : decode cX5_status 13 = .ok (.getfield 20, 3) := by decide +kernel
theorem dX5_status_16 : decode cX5_status 16 = .ok (.iload_n 1, 1) := by decide +kernel
theorem dX5_status_17 : decode cX5_status 17 = .ok (.iaload, 1) := by decide +kernel
theorem dX5_status_18 : decode cX5_status 18 = .ok (.goto 8, 3) := by decide +kernel
theorem dX5_status_21 : decode cX5_status 21 = .ok (.aload_n 0, 1) := by decide +kernel
theorem dX5_status_22 : decode cX5_status 22 = .ok (.iconst (-1), 1) := by decide +kernel
theorem dX5_status_23 : decode cX5_status 23 = .ok (.invokevirtual 67, 3) := by decide +kernel
theorem dX5_status_26 : decode cX5_status 26 = .ok (.ireturn, 1) := by decide +kernel
theorem dX5_vinesOfAll_0 : decode cX5_vinesOfAll 0 = .ok (.iconst 0, 1) := by decide +kernel
theorem dX5_vinesOfAll_1 : decode cX5_vinesOfAll 1 = .ok (.istore_n 1, 1) := by decide +kernel
theorem dX5_vinesOfAll_2 : decode cX5_vinesOfAll 2 = .ok (.iconst 0, 1) := by decide +kernel
theorem dX5_vinesOfAll_3 : decode cX5_vinesOfAll 3 = .ok (.istore_n 2, 1) := by decide +kernel
theorem dX5_vinesOfAll_4 : decode cX5_vinesOfAll 4 = .ok (.iload_n 2, 1) := by decide +kernel
theorem dX5_vinesOfAll_5 : decode cX5_vinesOfAll 5 = .ok (.bipush 20, 2) := by decide +kernel
theorem dX5_vinesOfAll_7 : decode cX5_vinesOfAll 7 = .ok (.if_icmp .ge 21, 3) := by decide +kernel
theorem dX5_vinesOfAll_10 : decode cX5_vinesOfAll 10 = .ok (.iload_n 1, 1) := by decide +kernel
theorem dX5_vinesOfAll_11 : decode cX5_vinesOfAll 11 = .ok (.aload_n 0, 1) := by decide +kernel
theorem dX5_vinesOfAll_12 : decode cX5_vinesOfAll 12 = .ok (.getfield 7, 3) := by decide +kernel
theorem dX5_vinesOfAll_15 : decode cX5_vinesOfAll 15 = .ok (.bipush 14, 2) := by decide +kernel
theorem dX5_vinesOfAll_17 : decode cX5_vinesOfAll 17 = .ok (.iload_n 2, 1) := by decide +kernel
theorem dX5_vinesOfAll_18 : decode cX5_vinesOfAll 18 = .ok (.iadd, 1) := by decide +kernel
theorem dX5_vinesOfAll_19 : decode cX5_vinesOfAll 19 = .ok (.iaload, 1) := by decide +kernel
theorem dX5_vinesOfAll_20 : decode cX5_vinesOfAll 20 = .ok (.iadd, 1) := by decide +kernel
theorem dX5_vinesOfAll_21 : decode cX5_vinesOfAll 21 = .ok (.istore_n 1, 1) := by decide +kernel
theorem dX5_vinesOfAll_22 : decode cX5_vinesOfAll 22 = .ok (.iinc 2 1, 3) := by decide +kernel
theorem dX5_vinesOfAll_25 : decode cX5_vinesOfAll 25 = .ok (.goto (-21), 3) := by decide +kernel
theorem dX5_vinesOfAll_28 : decode cX5_vinesOfAll 28 = .ok (.iload_n 1, 1) := by decide +kernel
theorem dX5_vinesOfAll_29 : decode cX5_vinesOfAll 29 = .ok (.ireturn, 1) := by decide +kernel
theorem dX5_counted_0 : decode cX5_counted 0 = .ok (.iload_n 1, 1) := by decide +kernel
theorem dX5_counted_1 : decode cX5_counted 1 = .ok (.tableswitch 112 0 8 #[51, 56, 61, 69, 76, 84, 91, 98, 105], 51) := by decide +kernel
theorem dX5_counted_52 : decode cX5_counted 52 = .ok (.aload_n 0, 1) := by decide +kernel
theorem dX5_counted_53 : decode cX5_counted 53 = .ok (.invokevirtual 49, 3) := by decide +kernel
theorem dX5_counted_56 : decode cX5_counted 56 = .ok (.ireturn, 1) := by decide +kernel
theorem dX5_counted_57 : decode cX5_counted 57 = .ok (.aload_n 0, 1) := by decide +kernel
theorem dX5_counted_58 : decode cX5_counted 58 = .ok (.invokevirtual 264, 3) := by decide +kernel
theorem dX5_counted_61 : decode cX5_counted 61 = .ok (.ireturn, 1) := by decide +kernel
theorem dX5_counted_62 : decode cX5_counted 62 = .ok (.aload_n 0, 1) := by decide +kernel
theorem dX5_counted_63 : decode cX5_counted 63 = .ok (.getfield 7, 3) := by decide +kernel
theorem dX5_counted_66 : decode cX5_counted 66 = .ok (.bipush 6, 2) := by decide +kernel
theorem dX5_counted_68 : decode cX5_counted 68 = .ok (.iaload, 1) := by decide +kernel
theorem dX5_counted_69 : decode cX5_counted 69 = .ok (.ireturn, 1) := by decide +kernel
theorem dX5_counted_70 : decode cX5_counted 70 = .ok (.aload_n 0, 1) := by decide +kernel
theorem dX5_counted_71 : decode cX5_counted 71 = .ok (.getfield 7, 3) := by decide +kernel
theorem dX5_counted_74 : decode cX5_counted 74 = .ok (.iconst 5, 1) := by decide +kernel
theorem dX5_counted_75 : decode cX5_counted 75 = .ok (.iaload, 1) := by decide +kernel
theorem dX5_counted_76 : decode cX5_counted 76 = .ok (.ireturn, 1) := by decide +kernel
theorem dX5_counted_77 : decode cX5_counted 77 = .ok (.aload_n 0, 1) := by decide +kernel
theorem dX5_counted_78 : decode cX5_counted 78 = .ok (.getfield 7, 3) := by decide +kernel
theorem dX5_counted_81 : decode cX5_counted 81 = .ok (.invokestatic 146, 3) := by decide +kernel
theorem dX5_counted_84 : decode cX5_counted 84 = .ok (.ireturn, 1) := by decide +kernel
theorem dX5_counted_85 : decode cX5_counted 85 = .ok (.aload_n 0, 1) := by decide +kernel
theorem dX5_counted_86 : decode cX5_counted 86 = .ok (.getfield 7, 3) := by decide +kernel
theorem dX5_counted_89 : decode cX5_counted 89 = .ok (.iconst 4, 1) := by decide +kernel
theorem dX5_counted_90 : decode cX5_counted 90 = .ok (.iaload, 1) := by decide +kernel
theorem dX5_counted_91 : decode cX5_counted 91 = .ok (.ireturn, 1) := by decide +kernel
theorem dX5_counted_92 : decode cX5_counted 92 = .ok (.aload_n 0, 1) := by decide +kernel
theorem dX5_counted_93 : decode cX5_counted 93 = .ok (.getfield 7, 3) := by decide +kernel
theorem dX5_counted_96 : decode cX5_counted 96 = .ok (.iconst 1, 1) := by decide +kernel
theorem dX5_counted_97 : decode cX5_counted 97 = .ok (.iaload, 1) := by decide +kernel
theorem dX5_counted_98 : decode cX5_counted 98 = .ok (.ireturn, 1) := by decide +kernel
theorem dX5_counted_99 : decode cX5_counted 99 = .ok (.aload_n 0, 1) := by decide +kernel
theorem dX5_counted_100 : decode cX5_counted 100 = .ok (.getfield 7, 3) := by decide +kernel
theorem dX5_counted_103 : decode cX5_counted 103 = .ok (.iconst 2, 1) := by decide +kernel
theorem dX5_counted_104 : decode cX5_counted 104 = .ok (.iaload, 1) := by decide +kernel
theorem dX5_counted_105 : decode cX5_counted 105 = .ok (.ireturn, 1) := by decide +kernel
theorem dX5_counted_106 : decode cX5_counted 106 = .ok (.aload_n 0, 1) := by decide +kernel
theorem dX5_counted_107 : decode cX5_counted 107 = .ok (.getfield 7, 3) := by decide +kernel
theorem dX5_counted_110 : decode cX5_counted 110 = .ok (.iconst 3, 1) := by decide +kernel
theorem dX5_counted_111 : decode cX5_counted 111 = .ok (.iaload, 1) := by decide +kernel
theorem dX5_counted_112 : decode cX5_counted 112 = .ok (.ireturn, 1) := by decide +kernel
theorem dX5_counted_113 : decode cX5_counted 113 = .ok (.aload_n 0, 1) := by decide +kernel
theorem dX5_counted_114 : decode cX5_counted 114 = .ok (.getfield 205, 3) := by decide +kernel
theorem dX5_counted_117 : decode cX5_counted 117 = .ok (.ireturn, 1) := by decide +kernel
theorem dX5_count_0 : decode cX5_count 0 = .ok (.iload_n 1, 1) := by decide +kernel
theorem dX5_count_1 : decode cX5_count 1 = .ok (.i2l, 1) := by decide +kernel
theorem dX5_count_2 : decode cX5_count 2 = .ok (.lconst 0, 1) := by decide +kernel
theorem dX5_count_3 : decode cX5_count 3 = .ok (.ldc2_w 74, 3) := by decide +kernel
theorem dX5_count_6 : decode cX5_count 6 = .ok (.invokestatic 53, 3) := by decide +kernel
theorem dX5_count_9 : decode cX5_count 9 = .ok (.ifCond .eq 11, 3) := by decide +kernel
theorem dX5_count_12 : decode cX5_count 12 = .ok (.aload_n 0, 1) := by decide +kernel
theorem dX5_count_13 : decode cX5_count 13 = .ok (.iload_n 1, 1) := by decide +kernel
theorem dX5_count_14 : decode cX5_count 14 = .ok (.invokevirtual 267, 3) := by decide +kernel
theorem dX5_count_17 : decode cX5_count 17 = .ok (.goto 9, 3) := by decide +kernel
theorem dX5_count_20 : decode cX5_count 20 = .ok (.aload_n 0, 1) := by decide +kernel
theorem dX5_count_21 : decode cX5_count 21 = .ok (.bipush (-2), 2) := by decide +kernel
theorem dX5_count_23 : decode cX5_count 23 = .ok (.invokevirtual 67, 3) := by decide +kernel
theorem dX5_count_26 : decode cX5_count 26 = .ok (.ireturn, 1) := by decide +kernel
theorem dX5_sums_0 : decode cX5_sums 0 = .ok (.lload_n 1, 1) := by decide +kernel
theorem dX5_sums_1 : decode cX5_sums 1 = .ok (.lstore 5, 2) := by decide +kernel
theorem dX5_sums_3 : decode cX5_sums 3 = .ok (.iconst 0, 1) := by decide +kernel
theorem dX5_sums_4 : decode cX5_sums 4 = .ok (.istore 7, 2) := by decide +kernel
theorem dX5_sums_6 : decode cX5_sums 6 = .ok (.iload 7, 2) := by decide +kernel
theorem dX5_sums_8 : decode cX5_sums 8 = .ok (.iload 4, 2) := by decide +kernel
theorem dX5_sums_10 : decode cX5_sums 10 = .ok (.if_icmp .ge 28, 3) := by decide +kernel
theorem dX5_sums_13 : decode cX5_sums 13 = .ok (.ldc2_w 270, 3) := by decide +kernel
theorem dX5_sums_16 : decode cX5_sums 16 = .ok (.lload 5, 2) := by decide +kernel
theorem dX5_sums_18 : decode cX5_sums 18 = .ok (.lmul, 1) := by decide +kernel
theorem dX5_sums_19 : decode cX5_sums 19 = .ok (.aload_n 0, 1) := by decide +kernel
theorem dX5_sums_20 : decode cX5_sums 20 = .ok (.getfield 7, 3) := by decide +kernel
theorem dX5_sums_23 : decode cX5_sums 23 = .ok (.iload_n 3, 1) := by decide +kernel
theorem dX5_sums_24 : decode cX5_sums 24 = .ok (.iload 7, 2) := by decide +kernel
theorem dX5_sums_26 : decode cX5_sums 26 = .ok (.iadd, 1) := by decide +kernel
theorem dX5_sums_27 : decode cX5_sums 27 = .ok (.iaload, 1) := by decide +kernel
theorem dX5_sums_28 : decode cX5_sums 28 = .ok (.i2l, 1) := by decide +kernel
theorem dX5_sums_29 : decode cX5_sums 29 = .ok (.ladd, 1) := by decide +kernel
theorem dX5_sums_30 : decode cX5_sums 30 = .ok (.lstore 5, 2) := by decide +kernel
theorem dX5_sums_32 : decode cX5_sums 32 = .ok (.iinc 7 1, 3) := by decide +kernel
theorem dX5_sums_35 : decode cX5_sums 35 = .ok (.goto (-29), 3) := by decide +kernel
theorem dX5_sums_38 : decode cX5_sums 38 = .ok (.lload 5, 2) := by decide +kernel
theorem dX5_sums_40 : decode cX5_sums 40 = .ok (.lreturn, 1) := by decide +kernel
theorem dX5_digest_0 : decode cX5_digest 0 = .ok (.ldc2_w 272, 3) := by decide +kernel
theorem dX5_digest_3 : decode cX5_digest 3 = .ok (.lstore_n 1, 1) := by decide +kernel
theorem dX5_digest_4 : decode cX5_digest 4 = .ok (.iconst 0, 1) := by decide +kernel
theorem dX5_digest_5 : decode cX5_digest 5 = .ok (.istore_n 3, 1) := by decide +kernel
theorem dX5_digest_6 : decode cX5_digest 6 = .ok (.iload_n 3, 1) := by decide +kernel
theorem dX5_digest_7 : decode cX5_digest 7 = .ok (.bipush 10, 2) := by decide +kernel
theorem dX5_digest_9 : decode cX5_digest 9 = .ok (.if_icmp .ge 22, 3) := by decide +kernel
theorem dX5_digest_12 : decode cX5_digest 12 = .ok (.ldc2_w 270, 3) := by decide +kernel
theorem dX5_digest_15 : decode cX5_digest 15 = .ok (.lload_n 1, 1) := by decide +kernel
theorem dX5_digest_16 : decode cX5_digest 16 = .ok (.lmul, 1) := by decide +kernel
theorem dX5_digest_17 : decode cX5_digest 17 = .ok (.aload_n 0, 1) := by decide +kernel
theorem dX5_digest_18 : decode cX5_digest 18 = .ok (.iload_n 3, 1) := by decide +kernel
theorem dX5_digest_19 : decode cX5_digest 19 = .ok (.invokevirtual 267, 3) := by decide +kernel
theorem dX5_digest_22 : decode cX5_digest 22 = .ok (.i2l, 1) := by decide +kernel
theorem dX5_digest_23 : decode cX5_digest 23 = .ok (.ladd, 1) := by decide +kernel
theorem dX5_digest_24 : decode cX5_digest 24 = .ok (.lstore_n 1, 1) := by decide +kernel
theorem dX5_digest_25 : decode cX5_digest 25 = .ok (.iinc 3 1, 3) := by decide +kernel
theorem dX5_digest_28 : decode cX5_digest 28 = .ok (.goto (-22), 3) := by decide +kernel
theorem dX5_digest_31 : decode cX5_digest 31 = .ok (.iconst 0, 1) := by decide +kernel
theorem dX5_digest_32 : decode cX5_digest 32 = .ok (.istore_n 3, 1) := by decide +kernel
theorem dX5_digest_33 : decode cX5_digest 33 = .ok (.iload_n 3, 1) := by decide +kernel
theorem dX5_digest_34 : decode cX5_digest 34 = .ok (.aload_n 0, 1) := by decide +kernel
theorem dX5_digest_35 : decode cX5_digest 35 = .ok (.invokevirtual 49, 3) := by decide +kernel
theorem dX5_digest_38 : decode cX5_digest 38 = .ok (.if_icmp .ge 56, 3) := by decide +kernel
theorem dX5_digest_41 : decode cX5_digest 41 = .ok (.ldc2_w 270, 3) := by decide +kernel
theorem dX5_digest_44 : decode cX5_digest 44 = .ok (.ldc2_w 270, 3) := by decide +kernel
theorem dX5_digest_47 : decode cX5_digest 47 = .ok (.ldc2_w 270, 3) := by decide +kernel
theorem dX5_digest_50 : decode cX5_digest 50 = .ok (.lload_n 1, 1) := by decide +kernel
theorem dX5_digest_51 : decode cX5_digest 51 = .ok (.lmul, 1) := by decide +kernel
theorem dX5_digest_52 : decode cX5_digest 52 = .ok (.aload_n 0, 1) := by decide +kernel
theorem dX5_digest_53 : decode cX5_digest 53 = .ok (.getfield 7, 3) := by decide +kernel
theorem dX5_digest_56 : decode cX5_digest 56 = .ok (.bipush 34, 2) := by decide +kernel
theorem dX5_digest_58 : decode cX5_digest 58 = .ok (.iload_n 3, 1) := by decide +kernel
theorem dX5_digest_59 : decode cX5_digest 59 = .ok (.iadd, 1) := by decide +kernel
theorem dX5_digest_60 : decode cX5_digest 60 = .ok (.iaload, 1) := by decide +kernel
theorem dX5_digest_61 : decode cX5_digest 61 = .ok (.i2l, 1) := by decide +kernel
theorem dX5_digest_62 : decode cX5_digest 62 = .ok (.ladd, 1) := by decide +kernel
theorem dX5_digest_63 : decode cX5_digest 63 = .ok (.lmul, 1) := by decide +kernel
theorem dX5_digest_64 : decode cX5_digest 64 = .ok (.aload_n 0, 1) := by decide +kernel
theorem dX5_digest_65 : decode cX5_digest 65 = .ok (.getfield 7, 3) := by decide +kernel
theorem dX5_digest_68 : decode cX5_digest 68 = .ok (.bipush 41, 2) := by decide +kernel
theorem dX5_digest_70 : decode cX5_digest 70 = .ok (.iload_n 3, 1) := by decide +kernel
theorem dX5_digest_71 : decode cX5_digest 71 = .ok (.iadd, 1) := by decide +kernel
theorem dX5_digest_72 : decode cX5_digest 72 = .ok (.iaload, 1) := by decide +kernel
theorem dX5_digest_73 : decode cX5_digest 73 = .ok (.i2l, 1) := by decide +kernel
theorem dX5_digest_74 : decode cX5_digest 74 = .ok (.ladd, 1) := by decide +kernel
theorem dX5_digest_75 : decode cX5_digest 75 = .ok (.lmul, 1) := by decide +kernel
theorem dX5_digest_76 : decode cX5_digest 76 = .ok (.aload_n 0, 1) := by decide +kernel
theorem dX5_digest_77 : decode cX5_digest 77 = .ok (.getfield 7, 3) := by decide +kernel
theorem dX5_digest_80 : decode cX5_digest 80 = .ok (.bipush 7, 2) := by decide +kernel
theorem dX5_digest_82 : decode cX5_digest 82 = .ok (.iload_n 3, 1) := by decide +kernel
theorem dX5_digest_83 : decode cX5_digest 83 = .ok (.iadd, 1) := by decide +kernel
theorem dX5_digest_84 : decode cX5_digest 84 = .ok (.iaload, 1) := by decide +kernel
theorem dX5_digest_85 : decode cX5_digest 85 = .ok (.i2l, 1) := by decide +kernel
theorem dX5_digest_86 : decode cX5_digest 86 = .ok (.ladd, 1) := by decide +kernel
theorem dX5_digest_87 : decode cX5_digest 87 = .ok (.lstore_n 1, 1) := by decide +kernel
theorem dX5_digest_88 : decode cX5_digest 88 = .ok (.iinc 3 1, 3) := by decide +kernel
theorem dX5_digest_91 : decode cX5_digest 91 = .ok (.goto (-58), 3) := by decide +kernel
theorem dX5_digest_94 : decode cX5_digest 94 = .ok (.aload_n 0, 1) := by decide +kernel
theorem dX5_digest_95 : decode cX5_digest 95 = .ok (.lload_n 1, 1) := by decide +kernel
theorem dX5_digest_96 : decode cX5_digest 96 = .ok (.bipush 14, 2) := by decide +kernel
theorem dX5_digest_98 : decode cX5_digest 98 = .ok (.bipush 20, 2) := by decide +kernel
theorem dX5_digest_100 : decode cX5_digest 100 = .ok (.invokevirtual 274, 3) := by decide +kernel
theorem dX5_digest_103 : decode cX5_digest 103 = .ok (.lstore_n 1, 1) := by decide +kernel
theorem dX5_digest_104 : decode cX5_digest 104 = .ok (.aload_n 0, 1) := by decide +kernel
theorem dX5_digest_105 : decode cX5_digest 105 = .ok (.lload_n 1, 1) := by decide +kernel
theorem dX5_digest_106 : decode cX5_digest 106 = .ok (.bipush 48, 2) := by decide +kernel
theorem dX5_digest_108 : decode cX5_digest 108 = .ok (.iconst 4, 1) := by decide +kernel
theorem dX5_digest_109 : decode cX5_digest 109 = .ok (.aload_n 0, 1) := by decide +kernel
theorem dX5_digest_110 : decode cX5_digest 110 = .ok (.getfield 7, 3) := by decide +kernel
theorem dX5_digest_113 : decode cX5_digest 113 = .ok (.iconst 1, 1) := by decide +kernel
theorem dX5_digest_114 : decode cX5_digest 114 = .ok (.iaload, 1) := by decide +kernel
theorem dX5_digest_115 : decode cX5_digest 115 = .ok (.imul, 1) := by decide +kernel
theorem dX5_digest_116 : decode cX5_digest 116 = .ok (.invokevirtual 274, 3) := by decide +kernel
theorem dX5_digest_119 : decode cX5_digest 119 = .ok (.lstore_n 1, 1) := by decide +kernel
theorem dX5_digest_120 : decode cX5_digest 120 = .ok (.aload_n 0, 1) := by decide +kernel
theorem dX5_digest_121 : decode cX5_digest 121 = .ok (.lload_n 1, 1) := by decide +kernel
theorem dX5_digest_122 : decode cX5_digest 122 = .ok (.bipush 68, 2) := by decide +kernel
theorem dX5_digest_124 : decode cX5_digest 124 = .ok (.iconst 3, 1) := by decide +kernel
theorem dX5_digest_125 : decode cX5_digest 125 = .ok (.aload_n 0, 1) := by decide +kernel
theorem dX5_digest_126 : decode cX5_digest 126 = .ok (.getfield 7, 3) := by decide +kernel
theorem dX5_digest_129 : decode cX5_digest 129 = .ok (.iconst 2, 1) := by decide +kernel
theorem dX5_digest_130 : decode cX5_digest 130 = .ok (.iaload, 1) := by decide +kernel
theorem dX5_digest_131 : decode cX5_digest 131 = .ok (.imul, 1) := by decide +kernel
theorem dX5_digest_132 : decode cX5_digest 132 = .ok (.invokevirtual 274, 3) := by decide +kernel
theorem dX5_digest_135 : decode cX5_digest 135 = .ok (.lstore_n 1, 1) := by decide +kernel
theorem dX5_digest_136 : decode cX5_digest 136 = .ok (.ldc2_w 270, 3) := by decide +kernel
theorem dX5_digest_139 : decode cX5_digest 139 = .ok (.ldc2_w 270, 3) := by decide +kernel
theorem dX5_digest_142 : decode cX5_digest 142 = .ok (.lload_n 1, 1) := by decide +kernel
theorem dX5_digest_143 : decode cX5_digest 143 = .ok (.lmul, 1) := by decide +kernel
theorem dX5_digest_144 : decode cX5_digest 144 = .ok (.aload_n 0, 1) := by decide +kernel
theorem dX5_digest_145 : decode cX5_digest 145 = .ok (.getfield 178, 3) := by decide +kernel
theorem dX5_digest_148 : decode cX5_digest 148 = .ok (.ladd, 1) := by decide +kernel
theorem dX5_digest_149 : decode cX5_digest 149 = .ok (.lmul, 1) := by decide +kernel
theorem dX5_digest_150 : decode cX5_digest 150 = .ok (.aload_n 0, 1) := by decide +kernel
theorem dX5_digest_151 : decode cX5_digest 151 = .ok (.getfield 23, 3) := by decide +kernel
theorem dX5_digest_154 : decode cX5_digest 154 = .ok (.ladd, 1) := by decide +kernel
theorem dX5_digest_155 : decode cX5_digest 155 = .ok (.lreturn, 1) := by decide +kernel
theorem dJ9_abs_0f7a4_0 : decode cJ9_abs_0f7a4 0 = .ok (.iload_n 0, 1) := by decide +kernel
theorem dJ9_abs_0f7a4_1 : decode cJ9_abs_0f7a4 1 = .ok (.ifCond .ge 8, 3) := by decide +kernel
theorem dJ9_abs_0f7a4_4 : decode cJ9_abs_0f7a4 4 = .ok (.iload_n 0, 1) := by decide +kernel
theorem dJ9_abs_0f7a4_5 : decode cJ9_abs_0f7a4 5 = .ok (.ineg, 1) := by decide +kernel
theorem dJ9_abs_0f7a4_6 : decode cJ9_abs_0f7a4 6 = .ok (.goto 4, 3) := by decide +kernel
theorem dJ9_abs_0f7a4_9 : decode cJ9_abs_0f7a4 9 = .ok (.iload_n 0, 1) := by decide +kernel
theorem dJ9_abs_0f7a4_10 : decode cJ9_abs_0f7a4 10 = .ok (.ireturn, 1) := by decide +kernel
theorem dJ9_max_7cf53_0 : decode cJ9_max_7cf53 0 = .ok (.iload_n 0, 1) := by decide +kernel
theorem dJ9_max_7cf53_1 : decode cJ9_max_7cf53 1 = .ok (.iload_n 1, 1) := by decide +kernel
theorem dJ9_max_7cf53_2 : decode cJ9_max_7cf53 2 = .ok (.if_icmp .lt 7, 3) := by decide +kernel
theorem dJ9_max_7cf53_5 : decode cJ9_max_7cf53 5 = .ok (.iload_n 0, 1) := by decide +kernel
theorem dJ9_max_7cf53_6 : decode cJ9_max_7cf53 6 = .ok (.goto 4, 3) := by decide +kernel
theorem dJ9_max_7cf53_9 : decode cJ9_max_7cf53 9 = .ok (.iload_n 1, 1) := by decide +kernel
theorem dJ9_max_7cf53_10 : decode cJ9_max_7cf53 10 = .ok (.ireturn, 1) := by decide +kernel
theorem dJ9_min_7cf53_0 : decode cJ9_min_7cf53 0 = .ok (.iload_n 0, 1) := by decide +kernel
theorem dJ9_min_7cf53_1 : decode cJ9_min_7cf53 1 = .ok (.iload_n 1, 1) := by decide +kernel
theorem dJ9_min_7cf53_2 : decode cJ9_min_7cf53 2 = .ok (.if_icmp .gt 7, 3) := by decide +kernel
theorem dJ9_min_7cf53_5 : decode cJ9_min_7cf53 5 = .ok (.iload_n 0, 1) := by decide +kernel
theorem dJ9_min_7cf53_6 : decode cJ9_min_7cf53 6 = .ok (.goto 4, 3) := by decide +kernel
theorem dJ9_min_7cf53_9 : decode cJ9_min_7cf53 9 = .ok (.iload_n 1, 1) := by decide +kernel
theorem dJ9_min_7cf53_10 : decode cJ9_min_7cf53 10 = .ok (.ireturn, 1) := by decide +kernel
theorem dJ0_length_8abf5_0 : decode cJ0_length_8abf5 0 = .ok (.aload_n 0, 1) := by decide +kernel
theorem dJ0_length_8abf5_1 : decode cJ0_length_8abf5 1 = .ok (.getfield 9, 3) := by decide +kernel
theorem dJ0_length_8abf5_4 : decode cJ0_length_8abf5 4 = .ok (.arraylength, 1) := by decide +kernel
theorem dJ0_length_8abf5_5 : decode cJ0_length_8abf5 5 = .ok (.aload_n 0, 1) := by decide +kernel
theorem dJ0_length_8abf5_6 : decode cJ0_length_8abf5 6 = .ok (.invokevirtual 335, 3) := by decide +kernel
theorem dJ0_length_8abf5_9 : decode cJ0_length_8abf5 9 = .ok (.ishr, 1) := by decide +kernel
theorem dJ0_length_8abf5_10 : decode cJ0_length_8abf5 10 = .ok (.ireturn, 1) := by decide +kernel
theorem dJ0_charAt_5068e_0 : decode cJ0_charAt_5068e 0 = .ok (.aload_n 0, 1) := by decide +kernel
theorem dJ0_charAt_5068e_1 : decode cJ0_charAt_5068e 1 = .ok (.invokevirtual 492, 3) := by decide +kernel
theorem dJ0_charAt_5068e_4 : decode cJ0_charAt_5068e 4 = .ok (.ifCond .eq 12, 3) := by decide +kernel
theorem dJ0_charAt_5068e_7 : decode cJ0_charAt_5068e 7 = .ok (.aload_n 0, 1) := by decide +kernel
theorem dJ0_charAt_5068e_8 : decode cJ0_charAt_5068e 8 = .ok (.getfield 9, 3) := by decide +kernel
theorem dJ0_charAt_5068e_11 : decode cJ0_charAt_5068e 11 = .ok (.iload_n 1, 1) := by decide +kernel
theorem dJ0_charAt_5068e_12 : decode cJ0_charAt_5068e 12 = .ok (.invokestatic 495, 3) := by decide +kernel
theorem dJ0_charAt_5068e_15 : decode cJ0_charAt_5068e 15 = .ok (.ireturn, 1) := by decide +kernel
theorem dJ0_charAt_5068e_16 : decode cJ0_charAt_5068e 16 = .ok (.aload_n 0, 1) := by decide +kernel
theorem dJ0_charAt_5068e_17 : decode cJ0_charAt_5068e 17 = .ok (.getfield 9, 3) := by decide +kernel
theorem dJ0_charAt_5068e_20 : decode cJ0_charAt_5068e 20 = .ok (.iload_n 1, 1) := by decide +kernel
theorem dJ0_charAt_5068e_21 : decode cJ0_charAt_5068e 21 = .ok (.invokestatic 498, 3) := by decide +kernel
theorem dJ0_charAt_5068e_24 : decode cJ0_charAt_5068e 24 = .ok (.ireturn, 1) := by decide +kernel
theorem dJ0_coder_7d493_0 : decode cJ0_coder_7d493 0 = .ok (.getstatic 38, 3) := by decide +kernel
theorem dJ0_coder_7d493_3 : decode cJ0_coder_7d493 3 = .ok (.ifCond .eq 10, 3) := by decide +kernel
theorem dJ0_coder_7d493_6 : decode cJ0_coder_7d493 6 = .ok (.aload_n 0, 1) := by decide +kernel
theorem dJ0_coder_7d493_7 : decode cJ0_coder_7d493 7 = .ok (.getfield 15, 3) := by decide +kernel
theorem dJ0_coder_7d493_10 : decode cJ0_coder_7d493 10 = .ok (.goto 4, 3) := by decide +kernel
theorem dJ0_coder_7d493_13 : decode cJ0_coder_7d493 13 = .ok (.iconst 1, 1) := by decide +kernel
theorem dJ0_coder_7d493_14 : decode cJ0_coder_7d493 14 = .ok (.ireturn, 1) := by decide +kernel
theorem dJ0_isLatin1_aae02_0 : decode cJ0_isLatin1_aae02 0 = .ok (.getstatic 38, 3) := by decide +kernel
theorem dJ0_isLatin1_aae02_3 : decode cJ0_isLatin1_aae02 3 = .ok (.ifCond .eq 14, 3) := by decide +kernel
theorem dJ0_isLatin1_aae02_6 : decode cJ0_isLatin1_aae02 6 = .ok (.aload_n 0, 1) := by decide +kernel
theorem dJ0_isLatin1_aae02_7 : decode cJ0_isLatin1_aae02 7 = .ok (.getfield 15, 3) := by decide +kernel
theorem dJ0_isLatin1_aae02_10 : decode cJ0_isLatin1_aae02 10 = .ok (.ifCond .ne 7, 3) := by decide +kernel
theorem dJ0_isLatin1_aae02_13 : decode cJ0_isLatin1_aae02 13 = .ok (.iconst 1, 1) := by decide +kernel
theorem dJ0_isLatin1_aae02_14 : decode cJ0_isLatin1_aae02 14 = .ok (.goto 4, 3) := by decide +kernel
theorem dJ0_isLatin1_aae02_17 : decode cJ0_isLatin1_aae02 17 = .ok (.iconst 0, 1) := by decide +kernel
theorem dJ0_isLatin1_aae02_18 : decode cJ0_isLatin1_aae02 18 = .ok (.ireturn, 1) := by decide +kernel
theorem dJ0_checkIndex_df160_0 : decode cJ0_checkIndex_df160 0 = .ok (.iload_n 0, 1) := by decide +kernel
theorem dJ0_checkIndex_df160_1 : decode cJ0_checkIndex_df160 1 = .ok (.iload_n 1, 1) := by decide +kernel
theorem dJ0_checkIndex_df160_2 : decode cJ0_checkIndex_df160 2 = .ok (.getstatic 1053, 3) := by decide +kernel
theorem dJ0_checkIndex_df160_5 : decode cJ0_checkIndex_df160 5 = .ok (.invokestatic 1059, 3) := by decide +kernel
theorem dJ0_checkIndex_df160_8 : decode cJ0_checkIndex_df160 8 = .ok (.pop, 1) := by decide +kernel
theorem dJ0_checkIndex_df160_9 : decode cJ0_checkIndex_df160 9 = .ok (.return_, 1) := by decide +kernel
theorem dJ1_charAt_3b067_0 : decode cJ1_charAt_3b067 0 = .ok (.iload_n 1, 1) := by decide +kernel
theorem dJ1_charAt_3b067_1 : decode cJ1_charAt_3b067 1 = .ok (.aload_n 0, 1) := by decide +kernel
theorem dJ1_charAt_3b067_2 : decode cJ1_charAt_3b067 2 = .ok (.arraylength, 1) := by decide +kernel
theorem dJ1_charAt_3b067_3 : decode cJ1_charAt_3b067 3 = .ok (.invokestatic 9, 3) := by decide +kernel
theorem dJ1_charAt_3b067_6 : decode cJ1_charAt_3b067 6 = .ok (.aload_n 0, 1) := by decide +kernel
theorem dJ1_charAt_3b067_7 : decode cJ1_charAt_3b067 7 = .ok (.iload_n 1, 1) := by decide +kernel
theorem dJ1_charAt_3b067_8 : decode cJ1_charAt_3b067 8 = .ok (.baload, 1) := by decide +kernel
theorem dJ1_charAt_3b067_9 : decode cJ1_charAt_3b067 9 = .ok (.sipush 255, 3) := by decide +kernel
theorem dJ1_charAt_3b067_12 : decode cJ1_charAt_3b067 12 = .ok (.iand, 1) := by decide +kernel
theorem dJ1_charAt_3b067_13 : decode cJ1_charAt_3b067 13 = .ok (.i2c, 1) := by decide +kernel
theorem dJ1_charAt_3b067_14 : decode cJ1_charAt_3b067 14 = .ok (.ireturn, 1) := by decide +kernel
theorem dJ2_getChar_3b067_0 : decode cJ2_getChar_3b067 0 = .ok (.getstatic 44, 3) := by decide +kernel
theorem dJ2_getChar_3b067_3 : decode cJ2_getChar_3b067 3 = .ok (.ifCond .ne 25, 3) := by decide +kernel
theorem dJ2_getChar_3b067_6 : decode cJ2_getChar_3b067 6 = .ok (.iload_n 1, 1) := by decide +kernel
theorem dJ2_getChar_3b067_7 : decode cJ2_getChar_3b067 7 = .ok (.ifCond .lt 11, 3) := by decide +kernel
theorem dJ2_getChar_3b067_10 : decode cJ2_getChar_3b067 10 = .ok (.iload_n 1, 1) := by decide +kernel
theorem dJ2_getChar_3b067_11 : decode cJ2_getChar_3b067 11 = .ok (.aload_n 0, 1) := by decide +kernel
theorem dJ2_getChar_3b067_12 : decode cJ2_getChar_3b067 12 = .ok (.invokestatic 48, 3) := by decide +kernel
theorem dJ2_getChar_3b067_15 : decode cJ2_getChar_3b067 15 = .ok (.if_icmp .lt 13, 3) := by decide +kernel
theorem dJ2_getChar_3b067_18 : decode cJ2_getChar_3b067 18 = .ok (.new 52, 3) := by decide +kernel
theorem dJ2_getChar_3b067_21 : decode cJ2_getChar_3b067 21 = .ok (.dup, 1) := by decide +kernel
theorem dJ2_getChar_3b067_22 : decode cJ2_getChar_3b067 22 = .ok (.ldc 54, 2) := by decide +kernel
theorem dJ2_getChar_3b067_24 : decode cJ2_getChar_3b067 24 = .ok (.invokespecial 56, 3) := by decide +kernel
theorem dJ2_getChar_3b067_27 : decode cJ2_getChar_3b067 27 = .ok (.athrow, 1) := by decide +kernel
theorem dJ2_getChar_3b067_28 : decode cJ2_getChar_3b067 28 = .ok (.iload_n 1, 1) := by decide +kernel
theorem dJ2_getChar_3b067_29 : decode cJ2_getChar_3b067 29 = .ok (.iconst 1, 1) := by decide +kernel
theorem dJ2_getChar_3b067_30 : decode cJ2_getChar_3b067 30 = .ok (.ishl, 1) := by decide +kernel
theorem dJ2_getChar_3b067_31 : decode cJ2_getChar_3b067 31 = .ok (.istore_n 1, 1) := by decide +kernel
theorem dJ2_getChar_3b067_32 : decode cJ2_getChar_3b067 32 = .ok (.aload_n 0, 1) := by decide +kernel
theorem dJ2_getChar_3b067_33 : decode cJ2_getChar_3b067 33 = .ok (.iload_n 1, 1) := by decide +kernel
theorem dJ2_getChar_3b067_34 : decode cJ2_getChar_3b067 34 = .ok (.iinc 1 1, 3) := by decide +kernel
theorem dJ2_getChar_3b067_37 : decode cJ2_getChar_3b067 37 = .ok (.baload, 1) := by decide +kernel
theorem dJ2_getChar_3b067_38 : decode cJ2_getChar_3b067 38 = .ok (.sipush 255, 3) := by decide +kernel
theorem dJ2_getChar_3b067_41 : decode cJ2_getChar_3b067 41 = .ok (.iand, 1) := by decide +kernel
theorem dJ2_getChar_3b067_42 : decode cJ2_getChar_3b067 42 = .ok (.getstatic 59, 3) := by decide +kernel
theorem dJ2_getChar_3b067_45 : decode cJ2_getChar_3b067 45 = .ok (.ishl, 1) := by decide +kernel
theorem dJ2_getChar_3b067_46 : decode cJ2_getChar_3b067 46 = .ok (.aload_n 0, 1) := by decide +kernel
theorem dJ2_getChar_3b067_47 : decode cJ2_getChar_3b067 47 = .ok (.iload_n 1, 1) := by decide +kernel
theorem dJ2_getChar_3b067_48 : decode cJ2_getChar_3b067 48 = .ok (.baload, 1) := by decide +kernel
theorem dJ2_getChar_3b067_49 : decode cJ2_getChar_3b067 49 = .ok (.sipush 255, 3) := by decide +kernel
theorem dJ2_getChar_3b067_52 : decode cJ2_getChar_3b067 52 = .ok (.iand, 1) := by decide +kernel
theorem dJ2_getChar_3b067_53 : decode cJ2_getChar_3b067 53 = .ok (.getstatic 63, 3) := by decide +kernel
theorem dJ2_getChar_3b067_56 : decode cJ2_getChar_3b067 56 = .ok (.ishl, 1) := by decide +kernel
theorem dJ2_getChar_3b067_57 : decode cJ2_getChar_3b067 57 = .ok (.ior, 1) := by decide +kernel
theorem dJ2_getChar_3b067_58 : decode cJ2_getChar_3b067 58 = .ok (.i2c, 1) := by decide +kernel
theorem dJ2_getChar_3b067_59 : decode cJ2_getChar_3b067 59 = .ok (.ireturn, 1) := by decide +kernel
theorem dJ2_length_9d52b_0 : decode cJ2_length_9d52b 0 = .ok (.aload_n 0, 1) := by decide +kernel
theorem dJ2_length_9d52b_1 : decode cJ2_length_9d52b 1 = .ok (.arraylength, 1) := by decide +kernel
theorem dJ2_length_9d52b_2 : decode cJ2_length_9d52b 2 = .ok (.iconst 1, 1) := by decide +kernel
theorem dJ2_length_9d52b_3 : decode cJ2_length_9d52b 3 = .ok (.ishr, 1) := by decide +kernel
theorem dJ2_length_9d52b_4 : decode cJ2_length_9d52b 4 = .ok (.ireturn, 1) := by decide +kernel
theorem dJ2_charAt_3b067_0 : decode cJ2_charAt_3b067 0 = .ok (.iload_n 1, 1) := by decide +kernel
theorem dJ2_charAt_3b067_1 : decode cJ2_charAt_3b067 1 = .ok (.aload_n 0, 1) := by decide +kernel
theorem dJ2_charAt_3b067_2 : decode cJ2_charAt_3b067 2 = .ok (.invokestatic 67, 3) := by decide +kernel
theorem dJ2_charAt_3b067_5 : decode cJ2_charAt_3b067 5 = .ok (.aload_n 0, 1) := by decide +kernel
theorem dJ2_charAt_3b067_6 : decode cJ2_charAt_3b067 6 = .ok (.iload_n 1, 1) := by decide +kernel
theorem dJ2_charAt_3b067_7 : decode cJ2_charAt_3b067 7 = .ok (.invokestatic 71, 3) := by decide +kernel
theorem dJ2_charAt_3b067_10 : decode cJ2_charAt_3b067 10 = .ok (.ireturn, 1) := by decide +kernel
theorem dJ2_checkIndex_2214a_0 : decode cJ2_checkIndex_2214a 0 = .ok (.iload_n 0, 1) := by decide +kernel
theorem dJ2_checkIndex_2214a_1 : decode cJ2_checkIndex_2214a 1 = .ok (.aload_n 1, 1) := by decide +kernel
theorem dJ2_checkIndex_2214a_2 : decode cJ2_checkIndex_2214a 2 = .ok (.invokestatic 48, 3) := by decide +kernel
theorem dJ2_checkIndex_2214a_5 : decode cJ2_checkIndex_2214a 5 = .ok (.invokestatic 414, 3) := by decide +kernel
theorem dJ2_checkIndex_2214a_8 : decode cJ2_checkIndex_2214a 8 = .ok (.return_, 1) := by decide +kernel
theorem dJ7_fill_53178_0 : decode cJ7_fill_53178 0 = .ok (.iconst 0, 1) := by decide +kernel
theorem dJ7_fill_53178_1 : decode cJ7_fill_53178 1 = .ok (.istore_n 2, 1) := by decide +kernel
theorem dJ7_fill_53178_2 : decode cJ7_fill_53178 2 = .ok (.aload_n 0, 1) := by decide +kernel
theorem dJ7_fill_53178_3 : decode cJ7_fill_53178 3 = .ok (.arraylength, 1) := by decide +kernel
theorem dJ7_fill_53178_4 : decode cJ7_fill_53178 4 = .ok (.istore_n 3, 1) := by decide +kernel
theorem dJ7_fill_53178_5 : decode cJ7_fill_53178 5 = .ok (.iload_n 2, 1) := by decide +kernel
theorem dJ7_fill_53178_6 : decode cJ7_fill_53178 6 = .ok (.iload_n 3, 1) := by decide +kernel
theorem dJ7_fill_53178_7 : decode cJ7_fill_53178 7 = .ok (.if_icmp .ge 13, 3) := by decide +kernel
theorem dJ7_fill_53178_10 : decode cJ7_fill_53178 10 = .ok (.aload_n 0, 1) := by decide +kernel
theorem dJ7_fill_53178_11 : decode cJ7_fill_53178 11 = .ok (.iload_n 2, 1) := by decide +kernel
theorem dJ7_fill_53178_12 : decode cJ7_fill_53178 12 = .ok (.iload_n 1, 1) := by decide +kernel
theorem dJ7_fill_53178_13 : decode cJ7_fill_53178 13 = .ok (.iastore, 1) := by decide +kernel
theorem dJ7_fill_53178_14 : decode cJ7_fill_53178 14 = .ok (.iinc 2 1, 3) := by decide +kernel
theorem dJ7_fill_53178_17 : decode cJ7_fill_53178 17 = .ok (.goto (-12), 3) := by decide +kernel
theorem dJ7_fill_53178_20 : decode cJ7_fill_53178 20 = .ok (.return_, 1) := by decide +kernel
theorem dJ3_checkIndex_8e157_0 : decode cJ3_checkIndex_8e157 0 = .ok (.iload_n 0, 1) := by decide +kernel
theorem dJ3_checkIndex_8e157_1 : decode cJ3_checkIndex_8e157 1 = .ok (.ifCond .lt 8, 3) := by decide +kernel
theorem dJ3_checkIndex_8e157_4 : decode cJ3_checkIndex_8e157 4 = .ok (.iload_n 0, 1) := by decide +kernel
theorem dJ3_checkIndex_8e157_5 : decode cJ3_checkIndex_8e157 5 = .ok (.iload_n 1, 1) := by decide +kernel
theorem dJ3_checkIndex_8e157_6 : decode cJ3_checkIndex_8e157 6 = .ok (.if_icmp .lt 10, 3) := by decide +kernel
theorem dJ3_checkIndex_8e157_9 : decode cJ3_checkIndex_8e157 9 = .ok (.aload_n 2, 1) := by decide +kernel
theorem dJ3_checkIndex_8e157_10 : decode cJ3_checkIndex_8e157 10 = .ok (.iload_n 0, 1) := by decide +kernel
theorem dJ3_checkIndex_8e157_11 : decode cJ3_checkIndex_8e157 11 = .ok (.iload_n 1, 1) := by decide +kernel
theorem dJ3_checkIndex_8e157_12 : decode cJ3_checkIndex_8e157 12 = .ok (.invokestatic 95, 3) := by decide +kernel
theorem dJ3_checkIndex_8e157_15 : decode cJ3_checkIndex_8e157 15 = .ok (.athrow, 1) := by decide +kernel
theorem dJ3_checkIndex_8e157_16 : decode cJ3_checkIndex_8e157 16 = .ok (.iload_n 0, 1) := by decide +kernel
theorem dJ3_checkIndex_8e157_17 : decode cJ3_checkIndex_8e157 17 = .ok (.ireturn, 1) := by decide +kernel
theorem dL_law_0 : decode cL_law 0 = .ok (.new 7, 3) := by decide +kernel
theorem dL_law_3 : decode cL_law 3 = .ok (.dup, 1) := by decide +kernel
theorem dL_law_4 : decode cL_law 4 = .ok (.invokespecial 9, 3) := by decide +kernel
theorem dL_law_7 : decode cL_law 7 = .ok (.astore_n 1, 1) := by decide +kernel
theorem dL_law_8 : decode cL_law 8 = .ok (.new 10, 3) := by decide +kernel
theorem dL_law_11 : decode cL_law 11 = .ok (.dup, 1) := by decide +kernel
theorem dL_law_12 : decode cL_law 12 = .ok (.invokespecial 12, 3) := by decide +kernel
theorem dL_law_15 : decode cL_law 15 = .ok (.astore_n 2, 1) := by decide +kernel
theorem dL_law_16 : decode cL_law 16 = .ok (.iconst 0, 1) := by decide +kernel
theorem dL_law_17 : decode cL_law 17 = .ok (.istore_n 3, 1) := by decide +kernel
theorem dL_law_18 : decode cL_law 18 = .ok (.iload_n 3, 1) := by decide +kernel
theorem dL_law_19 : decode cL_law 19 = .ok (.aload_n 0, 1) := by decide +kernel
theorem dL_law_20 : decode cL_law 20 = .ok (.arraylength, 1) := by decide +kernel
theorem dL_law_21 : decode cL_law 21 = .ok (.iconst 5, 1) := by decide +kernel
theorem dL_law_22 : decode cL_law 22 = .ok (.isub, 1) := by decide +kernel
theorem dL_law_23 : decode cL_law 23 = .ok (.if_icmp .gt 1088, 3) := by decide +kernel
theorem dL_law_26 : decode cL_law 26 = .ok (.aload_n 0, 1) := by decide +kernel
theorem dL_law_27 : decode cL_law 27 = .ok (.iload_n 3, 1) := by decide +kernel
theorem dL_law_28 : decode cL_law 28 = .ok (.iaload, 1) := by decide +kernel
theorem dL_law_29 : decode cL_law 29 = .ok (.bipush 63, 2) := by decide +kernel
theorem dL_law_31 : decode cL_law 31 = .ok (.iand, 1) := by decide +kernel
theorem dL_law_32 : decode cL_law 32 = .ok (.tableswitch 1073 0 34 #[156, 179, 202, 235, 278, 301, 314, 327, 350, 383, 396, 429, 452, 485, 508, 531, 554, 587, 620, 653, 706, 729, 752, 795, 818, 831, 844, 867, 910, 943, 967, 990, 1013, 1036, 1059], 156) := by decide +kernel
theorem dL_law_188 : decode cL_law 188 = .ok (.aload_n 1, 1) := by decide +kernel
theorem dL_law_189 : decode cL_law 189 = .ok (.aload_n 0, 1) := by decide +kernel
theorem dL_law_190 : decode cL_law 190 = .ok (.iload_n 3, 1) := by decide +kernel
theorem dL_law_191 : decode cL_law 191 = .ok (.iconst 1, 1) := by decide +kernel
theorem dL_law_192 : decode cL_law 192 = .ok (.iadd, 1) := by decide +kernel
theorem dL_law_193 : decode cL_law 193 = .ok (.iaload, 1) := by decide +kernel
theorem dL_law_194 : decode cL_law 194 = .ok (.invokevirtual 13, 3) := by decide +kernel
theorem dL_law_197 : decode cL_law 197 = .ok (.aload_n 2, 1) := by decide +kernel
theorem dL_law_198 : decode cL_law 198 = .ok (.aload_n 0, 1) := by decide +kernel
theorem dL_law_199 : decode cL_law 199 = .ok (.iload_n 3, 1) := by decide +kernel
theorem dL_law_200 : decode cL_law 200 = .ok (.iconst 1, 1) := by decide +kernel
theorem dL_law_201 : decode cL_law 201 = .ok (.iadd, 1) := by decide +kernel
theorem dL_law_202 : decode cL_law 202 = .ok (.iaload, 1) := by decide +kernel
theorem dL_law_203 : decode cL_law 203 = .ok (.invokevirtual 17, 3) := by decide +kernel
theorem dL_law_206 : decode cL_law 206 = .ok (.if_icmp .eq 899, 3) := by decide +kernel
theorem dL_law_209 : decode cL_law 209 = .ok (.iconst 0, 1) := by decide +kernel
theorem dL_law_210 : decode cL_law 210 = .ok (.ireturn, 1) := by decide +kernel
theorem dL_law_211 : decode cL_law 211 = .ok (.aload_n 1, 1) := by decide +kernel
theorem dL_law_212 : decode cL_law 212 = .ok (.aload_n 0, 1) := by decide +kernel
theorem dL_law_213 : decode cL_law 213 = .ok (.iload_n 3, 1) := by decide +kernel
theorem dL_law_214 : decode cL_law 214 = .ok (.iconst 1, 1) := by decide +kernel
theorem dL_law_215 : decode cL_law 215 = .ok (.iadd, 1) := by decide +kernel
theorem dL_law_216 : decode cL_law 216 = .ok (.iaload, 1) := by decide +kernel
theorem dL_law_217 : decode cL_law 217 = .ok (.invokevirtual 18, 3) := by decide +kernel
theorem dL_law_220 : decode cL_law 220 = .ok (.aload_n 2, 1) := by decide +kernel
theorem dL_law_221 : decode cL_law 221 = .ok (.aload_n 0, 1) := by decide +kernel
theorem dL_law_222 : decode cL_law 222 = .ok (.iload_n 3, 1) := by decide +kernel
theorem dL_law_223 : decode cL_law 223 = .ok (.iconst 1, 1) := by decide +kernel
theorem dL_law_224 : decode cL_law 224 = .ok (.iadd, 1) := by decide +kernel
theorem dL_law_225 : decode cL_law 225 = .ok (.iaload, 1) := by decide +kernel
theorem dL_law_226 : decode cL_law 226 = .ok (.invokevirtual 21, 3) := by decide +kernel
theorem dL_law_229 : decode cL_law 229 = .ok (.if_icmp .eq 876, 3) := by decide +kernel
theorem dL_law_232 : decode cL_law 232 = .ok (.iconst 0, 1) := by decide +kernel
theorem dL_law_233 : decode cL_law 233 = .ok (.ireturn, 1) := by decide +kernel
theorem dL_law_234 : decode cL_law 234 = .ok (.aload_n 1, 1) := by decide +kernel
theorem dL_law_235 : decode cL_law 235 = .ok (.aload_n 0, 1) := by decide +kernel
theorem dL_law_236 : decode cL_law 236 = .ok (.iload_n 3, 1) := by decide +kernel
theorem dL_law_237 : decode cL_law 237 = .ok (.iconst 1, 1) := by decide +kernel
theorem dL_law_238 : decode cL_law 238 = .ok (.iadd, 1) := by decide +kernel
theorem dL_law_239 : decode cL_law 239 = .ok (.iaload, 1) := by decide +kernel
theorem dL_law_240 : decode cL_law 240 = .ok (.aload_n 0, 1) := by decide +kernel
theorem dL_law_241 : decode cL_law 241 = .ok (.iload_n 3, 1) := by decide +kernel
theorem dL_law_242 : decode cL_law 242 = .ok (.iconst 2, 1) := by decide +kernel
theorem dL_law_243 : decode cL_law 243 = .ok (.iadd, 1) := by decide +kernel
theorem dL_law_244 : decode cL_law 244 = .ok (.iaload, 1) := by decide +kernel
theorem dL_law_245 : decode cL_law 245 = .ok (.invokevirtual 22, 3) := by decide +kernel
theorem dL_law_248 : decode cL_law 248 = .ok (.aload_n 2, 1) := by decide +kernel
theorem dL_law_249 : decode cL_law 249 = .ok (.aload_n 0, 1) := by decide +kernel
theorem dL_law_250 : decode cL_law 250 = .ok (.iload_n 3, 1) := by decide +kernel
theorem dL_law_251 : decode cL_law 251 = .ok (.iconst 1, 1) := by decide +kernel
theorem dL_law_252 : decode cL_law 252 = .ok (.iadd, 1) := by decide +kernel
theorem dL_law_253 : decode cL_law 253 = .ok (.iaload, 1) := by decide +kernel
theorem dL_law_254 : decode cL_law 254 = .ok (.aload_n 0, 1) := by decide +kernel
theorem dL_law_255 : decode cL_law 255 = .ok (.iload_n 3, 1) := by decide +kernel
theorem dL_law_256 : decode cL_law 256 = .ok (.iconst 2, 1) := by decide +kernel
theorem dL_law_257 : decode cL_law 257 = .ok (.iadd, 1) := by decide +kernel
theorem dL_law_258 : decode cL_law 258 = .ok (.iaload, 1) := by decide +kernel
theorem dL_law_259 : decode cL_law 259 = .ok (.invokevirtual 26, 3) := by decide +kernel
theorem dL_law_262 : decode cL_law 262 = .ok (.if_icmp .eq 843, 3) := by decide +kernel
theorem dL_law_265 : decode cL_law 265 = .ok (.iconst 0, 1) := by decide +kernel
theorem dL_law_266 : decode cL_law 266 = .ok (.ireturn, 1) := by decide +kernel
theorem dL_law_267 : decode cL_law 267 = .ok (.aload_n 1, 1) := by decide +kernel
theorem dL_law_268 : decode cL_law 268 = .ok (.aload_n 0, 1) := by decide +kernel
theorem dL_law_269 : decode cL_law 269 = .ok (.iload_n 3, 1) := by decide +kernel
theorem dL_law_270 : decode cL_law 270 = .ok (.iconst 1, 1) := by decide +kernel
theorem dL_law_271 : decode cL_law 271 = .ok (.iadd, 1) := by decide +kernel
theorem dL_law_272 : decode cL_law 272 = .ok (.iaload, 1) := by decide +kernel
theorem dL_law_273 : decode cL_law 273 = .ok (.aload_n 0, 1) := by decide +kernel
theorem dL_law_274 : decode cL_law 274 = .ok (.iload_n 3, 1) := by decide +kernel
theorem dL_law_275 : decode cL_law 275 = .ok (.iconst 2, 1) := by decide +kernel
theorem dL_law_276 : decode cL_law 276 = .ok (.iadd, 1) := by decide +kernel
theorem dL_law_277 : decode cL_law 277 = .ok (.iaload, 1) := by decide +kernel
theorem dL_law_278 : decode cL_law 278 = .ok (.aload_n 0, 1) := by decide +kernel
theorem dL_law_279 : decode cL_law 279 = .ok (.iload_n 3, 1) := by decide +kernel
theorem dL_law_280 : decode cL_law 280 = .ok (.iconst 3, 1) := by decide +kernel
theorem dL_law_281 : decode cL_law 281 = .ok (.iadd, 1) := by decide +kernel
theorem dL_law_282 : decode cL_law 282 = .ok (.iaload, 1) := by decide +kernel
theorem dL_law_283 : decode cL_law 283 = .ok (.invokevirtual 27, 3) := by decide +kernel
theorem dL_law_286 : decode cL_law 286 = .ok (.aload_n 2, 1) := by decide +kernel
theorem dL_law_287 : decode cL_law 287 = .ok (.aload_n 0, 1) := by decide +kernel
theorem dL_law_288 : decode cL_law 288 = .ok (.iload_n 3, 1) := by decide +kernel
theorem dL_law_289 : decode cL_law 289 = .ok (.iconst 1, 1) := by decide +kernel
theorem dL_law_290 : decode cL_law 290 = .ok (.iadd, 1) := by decide +kernel
theorem dL_law_291 : decode cL_law 291 = .ok (.iaload, 1) := by decide +kernel
theorem dL_law_292 : decode cL_law 292 = .ok (.aload_n 0, 1) := by decide +kernel
theorem dL_law_293 : decode cL_law 293 = .ok (.iload_n 3, 1) := by decide +kernel
theorem dL_law_294 : decode cL_law 294 = .ok (.iconst 2, 1) := by decide +kernel
theorem dL_law_295 : decode cL_law 295 = .ok (.iadd, 1) := by decide +kernel
theorem dL_law_296 : decode cL_law 296 = .ok (.iaload, 1) := by decide +kernel
theorem dL_law_297 : decode cL_law 297 = .ok (.aload_n 0, 1) := by decide +kernel
theorem dL_law_298 : decode cL_law 298 = .ok (.iload_n 3, 1) := by decide +kernel
theorem dL_law_299 : decode cL_law 299 = .ok (.iconst 3, 1) := by decide +kernel
theorem dL_law_300 : decode cL_law 300 = .ok (.iadd, 1) := by decide +kernel
theorem dL_law_301 : decode cL_law 301 = .ok (.iaload, 1) := by decide +kernel
theorem dL_law_302 : decode cL_law 302 = .ok (.invokevirtual 31, 3) := by decide +kernel
theorem dL_law_305 : decode cL_law 305 = .ok (.if_icmp .eq 800, 3) := by decide +kernel
theorem dL_law_308 : decode cL_law 308 = .ok (.iconst 0, 1) := by decide +kernel
theorem dL_law_309 : decode cL_law 309 = .ok (.ireturn, 1) := by decide +kernel
theorem dL_law_310 : decode cL_law 310 = .ok (.aload_n 1, 1) := by decide +kernel
theorem dL_law_311 : decode cL_law 311 = .ok (.aload_n 0, 1) := by decide +kernel
theorem dL_law_312 : decode cL_law 312 = .ok (.iload_n 3, 1) := by decide +kernel
theorem dL_law_313 : decode cL_law 313 = .ok (.iconst 1, 1) := by decide +kernel
theorem dL_law_314 : decode cL_law 314 = .ok (.iadd, 1) := by decide +kernel
theorem dL_law_315 : decode cL_law 315 = .ok (.iaload, 1) := by decide +kernel
theorem dL_law_316 : decode cL_law 316 = .ok (.invokevirtual 32, 3) := by decide +kernel
theorem dL_law_319 : decode cL_law 319 = .ok (.aload_n 2, 1) := by decide +kernel
theorem dL_law_320 : decode cL_law 320 = .ok (.aload_n 0, 1) := by decide +kernel
theorem dL_law_321 : decode cL_law 321 = .ok (.iload_n 3, 1) := by decide +kernel
theorem dL_law_322 : decode cL_law 322 = .ok (.iconst 1, 1) := by decide +kernel
theorem dL_law_323 : decode cL_law 323 = .ok (.iadd, 1) := by decide +kernel
theorem dL_law_324 : decode cL_law 324 = .ok (.iaload, 1) := by decide +kernel
theorem dL_law_325 : decode cL_law 325 = .ok (.invokevirtual 35, 3) := by decide +kernel
theorem dL_law_328 : decode cL_law 328 = .ok (.if_icmp .eq 777, 3) := by decide +kernel
theorem dL_law_331 : decode cL_law 331 = .ok (.iconst 0, 1) := by decide +kernel
theorem dL_law_332 : decode cL_law 332 = .ok (.ireturn, 1) := by decide +kernel
theorem dL_law_333 : decode cL_law 333 = .ok (.aload_n 1, 1) := by decide +kernel
theorem dL_law_334 : decode cL_law 334 = .ok (.invokevirtual 36, 3) := by decide +kernel
theorem dL_law_337 : decode cL_law 337 = .ok (.aload_n 2, 1) := by decide +kernel
theorem dL_law_338 : decode cL_law 338 = .ok (.invokevirtual 40, 3) := by decide +kernel
theorem dL_law_341 : decode cL_law 341 = .ok (.if_icmp .eq 764, 3) := by decide +kernel
theorem dL_law_344 : decode cL_law 344 = .ok (.iconst 0, 1) := by decide +kernel
theorem dL_law_345 : decode cL_law 345 = .ok (.ireturn, 1) := by decide +kernel
theorem dL_law_346 : decode cL_law 346 = .ok (.aload_n 1, 1) := by decide +kernel
theorem dL_law_347 : decode cL_law 347 = .ok (.invokevirtual 41, 3) := by decide +kernel
theorem dL_law_350 : decode cL_law 350 = .ok (.aload_n 2, 1) := by decide +kernel
theorem dL_law_351 : decode cL_law 351 = .ok (.invokevirtual 44, 3) := by decide +kernel
theorem dL_law_354 : decode cL_law 354 = .ok (.if_icmp .eq 751, 3) := by decide +kernel
theorem dL_law_357 : decode cL_law 357 = .ok (.iconst 0, 1) := by decide +kernel
theorem dL_law_358 : decode cL_law 358 = .ok (.ireturn, 1) := by decide +kernel
theorem dL_law_359 : decode cL_law 359 = .ok (.aload_n 1, 1) := by decide +kernel
theorem dL_law_360 : decode cL_law 360 = .ok (.aload_n 0, 1) := by decide +kernel
theorem dL_law_361 : decode cL_law 361 = .ok (.iload_n 3, 1) := by decide +kernel
theorem dL_law_362 : decode cL_law 362 = .ok (.iconst 1, 1) := by decide +kernel
theorem dL_law_363 : decode cL_law 363 = .ok (.iadd, 1) := by decide +kernel
theorem dL_law_364 : decode cL_law 364 = .ok (.iaload, 1) := by decide +kernel
theorem dL_law_365 : decode cL_law 365 = .ok (.invokevirtual 45, 3) := by decide +kernel
theorem dL_law_368 : decode cL_law 368 = .ok (.aload_n 2, 1) := by decide +kernel
theorem dL_law_369 : decode cL_law 369 = .ok (.aload_n 0, 1) := by decide +kernel
theorem dL_law_370 : decode cL_law 370 = .ok (.iload_n 3, 1) := by decide +kernel
theorem dL_law_371 : decode cL_law 371 = .ok (.iconst 1, 1) := by decide +kernel
theorem dL_law_372 : decode cL_law 372 = .ok (.iadd, 1) := by decide +kernel
theorem dL_law_373 : decode cL_law 373 = .ok (.iaload, 1) := by decide +kernel
theorem dL_law_374 : decode cL_law 374 = .ok (.invokevirtual 48, 3) := by decide +kernel
theorem dL_law_377 : decode cL_law 377 = .ok (.if_icmp .eq 728, 3) := by decide +kernel
theorem dL_law_380 : decode cL_law 380 = .ok (.iconst 0, 1) := by decide +kernel
theorem dL_law_381 : decode cL_law 381 = .ok (.ireturn, 1) := by decide +kernel
theorem dL_law_382 : decode cL_law 382 = .ok (.aload_n 1, 1) := by decide +kernel
theorem dL_law_383 : decode cL_law 383 = .ok (.aload_n 0, 1) := by decide +kernel
theorem dL_law_384 : decode cL_law 384 = .ok (.iload_n 3, 1) := by decide +kernel
theorem dL_law_385 : decode cL_law 385 = .ok (.iconst 1, 1) := by decide +kernel
theorem dL_law_386 : decode cL_law 386 = .ok (.iadd, 1) := by decide +kernel
theorem dL_law_387 : decode cL_law 387 = .ok (.iaload, 1) := by decide +kernel
theorem dL_law_388 : decode cL_law 388 = .ok (.aload_n 0, 1) := by decide +kernel
theorem dL_law_389 : decode cL_law 389 = .ok (.iload_n 3, 1) := by decide +kernel
theorem dL_law_390 : decode cL_law 390 = .ok (.iconst 2, 1) := by decide +kernel
theorem dL_law_391 : decode cL_law 391 = .ok (.iadd, 1) := by decide +kernel
theorem dL_law_392 : decode cL_law 392 = .ok (.iaload, 1) := by decide +kernel
theorem dL_law_393 : decode cL_law 393 = .ok (.invokevirtual 49, 3) := by decide +kernel
theorem dL_law_396 : decode cL_law 396 = .ok (.aload_n 2, 1) := by decide +kernel
theorem dL_law_397 : decode cL_law 397 = .ok (.aload_n 0, 1) := by decide +kernel
theorem dL_law_398 : decode cL_law 398 = .ok (.iload_n 3, 1) := by decide +kernel
theorem dL_law_399 : decode cL_law 399 = .ok (.iconst 1, 1) := by decide +kernel
theorem dL_law_400 : decode cL_law 400 = .ok (.iadd, 1) := by decide +kernel
theorem dL_law_401 : decode cL_law 401 = .ok (.iaload, 1) := by decide +kernel
theorem dL_law_402 : decode cL_law 402 = .ok (.aload_n 0, 1) := by decide +kernel
theorem dL_law_403 : decode cL_law 403 = .ok (.iload_n 3, 1) := by decide +kernel
theorem dL_law_404 : decode cL_law 404 = .ok (.iconst 2, 1) := by decide +kernel
theorem dL_law_405 : decode cL_law 405 = .ok (.iadd, 1) := by decide +kernel
theorem dL_law_406 : decode cL_law 406 = .ok (.iaload, 1) := by decide +kernel
theorem dL_law_407 : decode cL_law 407 = .ok (.invokevirtual 52, 3) := by decide +kernel
theorem dL_law_410 : decode cL_law 410 = .ok (.if_icmp .eq 695, 3) := by decide +kernel
theorem dL_law_413 : decode cL_law 413 = .ok (.iconst 0, 1) := by decide +kernel
theorem dL_law_414 : decode cL_law 414 = .ok (.ireturn, 1) := by decide +kernel
theorem dL_law_415 : decode cL_law 415 = .ok (.aload_n 1, 1) := by decide +kernel
theorem dL_law_416 : decode cL_law 416 = .ok (.invokevirtual 53, 3) := by decide +kernel
theorem dL_law_419 : decode cL_law 419 = .ok (.aload_n 2, 1) := by decide +kernel
theorem dL_law_420 : decode cL_law 420 = .ok (.invokevirtual 56, 3) := by decide +kernel
theorem dL_law_423 : decode cL_law 423 = .ok (.if_icmp .eq 682, 3) := by decide +kernel
theorem dL_law_426 : decode cL_law 426 = .ok (.iconst 0, 1) := by decide +kernel
theorem dL_law_427 : decode cL_law 427 = .ok (.ireturn, 1) := by decide +kernel
theorem dL_law_428 : decode cL_law 428 = .ok (.aload_n 1, 1) := by decide +kernel
theorem dL_law_429 : decode cL_law 429 = .ok (.aload_n 0, 1) := by decide +kernel
theorem dL_law_430 : decode cL_law 430 = .ok (.iload_n 3, 1) := by decide +kernel
theorem dL_law_431 : decode cL_law 431 = .ok (.iconst 1, 1) := by decide +kernel
theorem dL_law_432 : decode cL_law 432 = .ok (.iadd, 1) := by decide +kernel
theorem dL_law_433 : decode cL_law 433 = .ok (.iaload, 1) := by decide +kernel
theorem dL_law_434 : decode cL_law 434 = .ok (.aload_n 0, 1) := by decide +kernel
theorem dL_law_435 : decode cL_law 435 = .ok (.iload_n 3, 1) := by decide +kernel
theorem dL_law_436 : decode cL_law 436 = .ok (.iconst 2, 1) := by decide +kernel
theorem dL_law_437 : decode cL_law 437 = .ok (.iadd, 1) := by decide +kernel
theorem dL_law_438 : decode cL_law 438 = .ok (.iaload, 1) := by decide +kernel
theorem dL_law_439 : decode cL_law 439 = .ok (.invokevirtual 57, 3) := by decide +kernel
theorem dL_law_442 : decode cL_law 442 = .ok (.aload_n 2, 1) := by decide +kernel
theorem dL_law_443 : decode cL_law 443 = .ok (.aload_n 0, 1) := by decide +kernel
theorem dL_law_444 : decode cL_law 444 = .ok (.iload_n 3, 1) := by decide +kernel
theorem dL_law_445 : decode cL_law 445 = .ok (.iconst 1, 1) := by decide +kernel
theorem dL_law_446 : decode cL_law 446 = .ok (.iadd, 1) := by decide +kernel
theorem dL_law_447 : decode cL_law 447 = .ok (.iaload, 1) := by decide +kernel
theorem dL_law_448 : decode cL_law 448 = .ok (.aload_n 0, 1) := by decide +kernel
theorem dL_law_449 : decode cL_law 449 = .ok (.iload_n 3, 1) := by decide +kernel
theorem dL_law_450 : decode cL_law 450 = .ok (.iconst 2, 1) := by decide +kernel
theorem dL_law_451 : decode cL_law 451 = .ok (.iadd, 1) := by decide +kernel
theorem dL_law_452 : decode cL_law 452 = .ok (.iaload, 1) := by decide +kernel
theorem dL_law_453 : decode cL_law 453 = .ok (.invokevirtual 60, 3) := by decide +kernel
theorem dL_law_456 : decode cL_law 456 = .ok (.if_icmp .eq 649, 3) := by decide +kernel
theorem dL_law_459 : decode cL_law 459 = .ok (.iconst 0, 1) := by decide +kernel
theorem dL_law_460 : decode cL_law 460 = .ok (.ireturn, 1) := by decide +kernel
theorem dL_law_461 : decode cL_law 461 = .ok (.aload_n 1, 1) := by decide +kernel
theorem dL_law_462 : decode cL_law 462 = .ok (.aload_n 0, 1) := by decide +kernel
theorem dL_law_463 : decode cL_law 463 = .ok (.iload_n 3, 1) := by decide +kernel
theorem dL_law_464 : decode cL_law 464 = .ok (.iconst 1, 1) := by decide +kernel
theorem dL_law_465 : decode cL_law 465 = .ok (.iadd, 1) := by decide +kernel
theorem dL_law_466 : decode cL_law 466 = .ok (.iaload, 1) := by decide +kernel
theorem dL_law_467 : decode cL_law 467 = .ok (.invokevirtual 61, 3) := by decide +kernel
theorem dL_law_470 : decode cL_law 470 = .ok (.aload_n 2, 1) := by decide +kernel
theorem dL_law_471 : decode cL_law 471 = .ok (.aload_n 0, 1) := by decide +kernel
theorem dL_law_472 : decode cL_law 472 = .ok (.iload_n 3, 1) := by decide +kernel
theorem dL_law_473 : decode cL_law 473 = .ok (.iconst 1, 1) := by decide +kernel
theorem dL_law_474 : decode cL_law 474 = .ok (.iadd, 1) := by decide +kernel
theorem dL_law_475 : decode cL_law 475 = .ok (.iaload, 1) := by decide +kernel
theorem dL_law_476 : decode cL_law 476 = .ok (.invokevirtual 64, 3) := by decide +kernel
theorem dL_law_479 : decode cL_law 479 = .ok (.if_icmp .eq 626, 3) := by decide +kernel
theorem dL_law_482 : decode cL_law 482 = .ok (.iconst 0, 1) := by decide +kernel
theorem dL_law_483 : decode cL_law 483 = .ok (.ireturn, 1) := by decide +kernel
theorem dL_law_484 : decode cL_law 484 = .ok (.aload_n 1, 1) := by decide +kernel
theorem dL_law_485 : decode cL_law 485 = .ok (.aload_n 0, 1) := by decide +kernel
theorem dL_law_486 : decode cL_law 486 = .ok (.iload_n 3, 1) := by decide +kernel
theorem dL_law_487 : decode cL_law 487 = .ok (.iconst 1, 1) := by decide +kernel
theorem dL_law_488 : decode cL_law 488 = .ok (.iadd, 1) := by decide +kernel
theorem dL_law_489 : decode cL_law 489 = .ok (.iaload, 1) := by decide +kernel
theorem dL_law_490 : decode cL_law 490 = .ok (.aload_n 0, 1) := by decide +kernel
theorem dL_law_491 : decode cL_law 491 = .ok (.iload_n 3, 1) := by decide +kernel
theorem dL_law_492 : decode cL_law 492 = .ok (.iconst 2, 1) := by decide +kernel
theorem dL_law_493 : decode cL_law 493 = .ok (.iadd, 1) := by decide +kernel
theorem dL_law_494 : decode cL_law 494 = .ok (.iaload, 1) := by decide +kernel
theorem dL_law_495 : decode cL_law 495 = .ok (.invokevirtual 65, 3) := by decide +kernel
theorem dL_law_498 : decode cL_law 498 = .ok (.aload_n 2, 1) := by decide +kernel
theorem dL_law_499 : decode cL_law 499 = .ok (.aload_n 0, 1) := by decide +kernel
theorem dL_law_500 : decode cL_law 500 = .ok (.iload_n 3, 1) := by decide +kernel
theorem dL_law_501 : decode cL_law 501 = .ok (.iconst 1, 1) := by decide +kernel
theorem dL_law_502 : decode cL_law 502 = .ok (.iadd, 1) := by decide +kernel
theorem dL_law_503 : decode cL_law 503 = .ok (.iaload, 1) := by decide +kernel
theorem dL_law_504 : decode cL_law 504 = .ok (.aload_n 0, 1) := by decide +kernel
theorem dL_law_505 : decode cL_law 505 = .ok (.iload_n 3, 1) := by decide +kernel
theorem dL_law_506 : decode cL_law 506 = .ok (.iconst 2, 1) := by decide +kernel
theorem dL_law_507 : decode cL_law 507 = .ok (.iadd, 1) := by decide +kernel
theorem dL_law_508 : decode cL_law 508 = .ok (.iaload, 1) := by decide +kernel
theorem dL_law_509 : decode cL_law 509 = .ok (.invokevirtual 68, 3) := by decide +kernel
theorem dL_law_512 : decode cL_law 512 = .ok (.if_icmp .eq 593, 3) := by decide +kernel
theorem dL_law_515 : decode cL_law 515 = .ok (.iconst 0, 1) := by decide +kernel
theorem dL_law_516 : decode cL_law 516 = .ok (.ireturn, 1) := by decide +kernel
theorem dL_law_517 : decode cL_law 517 = .ok (.aload_n 1, 1) := by decide +kernel
theorem dL_law_518 : decode cL_law 518 = .ok (.aload_n 0, 1) := by decide +kernel
theorem dL_law_519 : decode cL_law 519 = .ok (.iload_n 3, 1) := by decide +kernel
theorem dL_law_520 : decode cL_law 520 = .ok (.iconst 1, 1) := by decide +kernel
theorem dL_law_521 : decode cL_law 521 = .ok (.iadd, 1) := by decide +kernel
theorem dL_law_522 : decode cL_law 522 = .ok (.iaload, 1) := by decide +kernel
theorem dL_law_523 : decode cL_law 523 = .ok (.invokevirtual 69, 3) := by decide +kernel
theorem dL_law_526 : decode cL_law 526 = .ok (.aload_n 2, 1) := by decide +kernel
theorem dL_law_527 : decode cL_law 527 = .ok (.aload_n 0, 1) := by decide +kernel
theorem dL_law_528 : decode cL_law 528 = .ok (.iload_n 3, 1) := by decide +kernel
theorem dL_law_529 : decode cL_law 529 = .ok (.iconst 1, 1) := by decide +kernel
theorem dL_law_530 : decode cL_law 530 = .ok (.iadd, 1) := by decide +kernel
theorem dL_law_531 : decode cL_law 531 = .ok (.iaload, 1) := by decide +kernel
theorem dL_law_532 : decode cL_law 532 = .ok (.invokevirtual 72, 3) := by decide +kernel
theorem dL_law_535 : decode cL_law 535 = .ok (.if_icmp .eq 570, 3) := by decide +kernel
theorem dL_law_538 : decode cL_law 538 = .ok (.iconst 0, 1) := by decide +kernel
theorem dL_law_539 : decode cL_law 539 = .ok (.ireturn, 1) := by decide +kernel
theorem dL_law_540 : decode cL_law 540 = .ok (.aload_n 1, 1) := by decide +kernel
theorem dL_law_541 : decode cL_law 541 = .ok (.aload_n 0, 1) := by decide +kernel
theorem dL_law_542 : decode cL_law 542 = .ok (.iload_n 3, 1) := by decide +kernel
theorem dL_law_543 : decode cL_law 543 = .ok (.iconst 1, 1) := by decide +kernel
theorem dL_law_544 : decode cL_law 544 = .ok (.iadd, 1) := by decide +kernel
theorem dL_law_545 : decode cL_law 545 = .ok (.iaload, 1) := by decide +kernel
theorem dL_law_546 : decode cL_law 546 = .ok (.invokevirtual 73, 3) := by decide +kernel
theorem dL_law_549 : decode cL_law 549 = .ok (.aload_n 2, 1) := by decide +kernel
theorem dL_law_550 : decode cL_law 550 = .ok (.aload_n 0, 1) := by decide +kernel
theorem dL_law_551 : decode cL_law 551 = .ok (.iload_n 3, 1) := by decide +kernel
theorem dL_law_552 : decode cL_law 552 = .ok (.iconst 1, 1) := by decide +kernel
theorem dL_law_553 : decode cL_law 553 = .ok (.iadd, 1) := by decide +kernel
theorem dL_law_554 : decode cL_law 554 = .ok (.iaload, 1) := by decide +kernel
theorem dL_law_555 : decode cL_law 555 = .ok (.invokevirtual 76, 3) := by decide +kernel
theorem dL_law_558 : decode cL_law 558 = .ok (.if_icmp .eq 547, 3) := by decide +kernel
theorem dL_law_561 : decode cL_law 561 = .ok (.iconst 0, 1) := by decide +kernel
theorem dL_law_562 : decode cL_law 562 = .ok (.ireturn, 1) := by decide +kernel
theorem dL_law_563 : decode cL_law 563 = .ok (.aload_n 1, 1) := by decide +kernel
theorem dL_law_564 : decode cL_law 564 = .ok (.aload_n 0, 1) := by decide +kernel
theorem dL_law_565 : decode cL_law 565 = .ok (.iload_n 3, 1) := by decide +kernel
theorem dL_law_566 : decode cL_law 566 = .ok (.iconst 1, 1) := by decide +kernel
theorem dL_law_567 : decode cL_law 567 = .ok (.iadd, 1) := by decide +kernel
theorem dL_law_568 : decode cL_law 568 = .ok (.iaload, 1) := by decide +kernel
theorem dL_law_569 : decode cL_law 569 = .ok (.invokevirtual 77, 3) := by decide +kernel
theorem dL_law_572 : decode cL_law 572 = .ok (.aload_n 2, 1) := by decide +kernel
theorem dL_law_573 : decode cL_law 573 = .ok (.aload_n 0, 1) := by decide +kernel
theorem dL_law_574 : decode cL_law 574 = .ok (.iload_n 3, 1) := by decide +kernel
theorem dL_law_575 : decode cL_law 575 = .ok (.iconst 1, 1) := by decide +kernel
theorem dL_law_576 : decode cL_law 576 = .ok (.iadd, 1) := by decide +kernel
theorem dL_law_577 : decode cL_law 577 = .ok (.iaload, 1) := by decide +kernel
theorem dL_law_578 : decode cL_law 578 = .ok (.invokevirtual 80, 3) := by decide +kernel
theorem dL_law_581 : decode cL_law 581 = .ok (.if_icmp .eq 524, 3) := by decide +kernel
theorem dL_law_584 : decode cL_law 584 = .ok (.iconst 0, 1) := by decide +kernel
theorem dL_law_585 : decode cL_law 585 = .ok (.ireturn, 1) := by decide +kernel
theorem dL_law_586 : decode cL_law 586 = .ok (.aload_n 1, 1) := by decide +kernel
theorem dL_law_587 : decode cL_law 587 = .ok (.aload_n 0, 1) := by decide +kernel
theorem dL_law_588 : decode cL_law 588 = .ok (.iload_n 3, 1) := by decide +kernel
theorem dL_law_589 : decode cL_law 589 = .ok (.iconst 1, 1) := by decide +kernel
theorem dL_law_590 : decode cL_law 590 = .ok (.iadd, 1) := by decide +kernel
theorem dL_law_591 : decode cL_law 591 = .ok (.iaload, 1) := by decide +kernel
theorem dL_law_592 : decode cL_law 592 = .ok (.aload_n 0, 1) := by decide +kernel
theorem dL_law_593 : decode cL_law 593 = .ok (.iload_n 3, 1) := by decide +kernel
theorem dL_law_594 : decode cL_law 594 = .ok (.iconst 2, 1) := by decide +kernel
theorem dL_law_595 : decode cL_law 595 = .ok (.iadd, 1) := by decide +kernel
theorem dL_law_596 : decode cL_law 596 = .ok (.iaload, 1) := by decide +kernel
theorem dL_law_597 : decode cL_law 597 = .ok (.invokevirtual 81, 3) := by decide +kernel
theorem dL_law_600 : decode cL_law 600 = .ok (.aload_n 2, 1) := by decide +kernel
theorem dL_law_601 : decode cL_law 601 = .ok (.aload_n 0, 1) := by decide +kernel
theorem dL_law_602 : decode cL_law 602 = .ok (.iload_n 3, 1) := by decide +kernel
theorem dL_law_603 : decode cL_law 603 = .ok (.iconst 1, 1) := by decide +kernel
theorem dL_law_604 : decode cL_law 604 = .ok (.iadd, 1) := by decide +kernel
theorem dL_law_605 : decode cL_law 605 = .ok (.iaload, 1) := by decide +kernel
theorem dL_law_606 : decode cL_law 606 = .ok (.aload_n 0, 1) := by decide +kernel
theorem dL_law_607 : decode cL_law 607 = .ok (.iload_n 3, 1) := by decide +kernel
theorem dL_law_608 : decode cL_law 608 = .ok (.iconst 2, 1) := by decide +kernel
theorem dL_law_609 : decode cL_law 609 = .ok (.iadd, 1) := by decide +kernel
theorem dL_law_610 : decode cL_law 610 = .ok (.iaload, 1) := by decide +kernel
theorem dL_law_611 : decode cL_law 611 = .ok (.invokevirtual 84, 3) := by decide +kernel
theorem dL_law_614 : decode cL_law 614 = .ok (.if_icmp .eq 491, 3) := by decide +kernel
theorem dL_law_617 : decode cL_law 617 = .ok (.iconst 0, 1) := by decide +kernel
theorem dL_law_618 : decode cL_law 618 = .ok (.ireturn, 1) := by decide +kernel
theorem dL_law_619 : decode cL_law 619 = .ok (.aload_n 1, 1) := by decide +kernel
theorem dL_law_620 : decode cL_law 620 = .ok (.aload_n 0, 1) := by decide +kernel
theorem dL_law_621 : decode cL_law 621 = .ok (.iload_n 3, 1) := by decide +kernel
theorem dL_law_622 : decode cL_law 622 = .ok (.iconst 1, 1) := by decide +kernel
theorem dL_law_623 : decode cL_law 623 = .ok (.iadd, 1) := by decide +kernel
theorem dL_law_624 : decode cL_law 624 = .ok (.iaload, 1) := by decide +kernel
theorem dL_law_625 : decode cL_law 625 = .ok (.aload_n 0, 1) := by decide +kernel
theorem dL_law_626 : decode cL_law 626 = .ok (.iload_n 3, 1) := by decide +kernel
theorem dL_law_627 : decode cL_law 627 = .ok (.iconst 2, 1) := by decide +kernel
theorem dL_law_628 : decode cL_law 628 = .ok (.iadd, 1) := by decide +kernel
theorem dL_law_629 : decode cL_law 629 = .ok (.iaload, 1) := by decide +kernel
theorem dL_law_630 : decode cL_law 630 = .ok (.invokevirtual 85, 3) := by decide +kernel
theorem dL_law_633 : decode cL_law 633 = .ok (.aload_n 2, 1) := by decide +kernel
theorem dL_law_634 : decode cL_law 634 = .ok (.aload_n 0, 1) := by decide +kernel
theorem dL_law_635 : decode cL_law 635 = .ok (.iload_n 3, 1) := by decide +kernel
theorem dL_law_636 : decode cL_law 636 = .ok (.iconst 1, 1) := by decide +kernel
theorem dL_law_637 : decode cL_law 637 = .ok (.iadd, 1) := by decide +kernel
theorem dL_law_638 : decode cL_law 638 = .ok (.iaload, 1) := by decide +kernel
theorem dL_law_639 : decode cL_law 639 = .ok (.aload_n 0, 1) := by decide +kernel
theorem dL_law_640 : decode cL_law 640 = .ok (.iload_n 3, 1) := by decide +kernel
theorem dL_law_641 : decode cL_law 641 = .ok (.iconst 2, 1) := by decide +kernel
theorem dL_law_642 : decode cL_law 642 = .ok (.iadd, 1) := by decide +kernel
theorem dL_law_643 : decode cL_law 643 = .ok (.iaload, 1) := by decide +kernel
theorem dL_law_644 : decode cL_law 644 = .ok (.invokevirtual 88, 3) := by decide +kernel
theorem dL_law_647 : decode cL_law 647 = .ok (.if_icmp .eq 458, 3) := by decide +kernel
theorem dL_law_650 : decode cL_law 650 = .ok (.iconst 0, 1) := by decide +kernel
theorem dL_law_651 : decode cL_law 651 = .ok (.ireturn, 1) := by decide +kernel
theorem dL_law_652 : decode cL_law 652 = .ok (.aload_n 1, 1) := by decide +kernel
theorem dL_law_653 : decode cL_law 653 = .ok (.aload_n 0, 1) := by decide +kernel
theorem dL_law_654 : decode cL_law 654 = .ok (.iload_n 3, 1) := by decide +kernel
theorem dL_law_655 : decode cL_law 655 = .ok (.iconst 1, 1) := by decide +kernel
theorem dL_law_656 : decode cL_law 656 = .ok (.iadd, 1) := by decide +kernel
theorem dL_law_657 : decode cL_law 657 = .ok (.iaload, 1) := by decide +kernel
theorem dL_law_658 : decode cL_law 658 = .ok (.aload_n 0, 1) := by decide +kernel
theorem dL_law_659 : decode cL_law 659 = .ok (.iload_n 3, 1) := by decide +kernel
theorem dL_law_660 : decode cL_law 660 = .ok (.iconst 2, 1) := by decide +kernel
theorem dL_law_661 : decode cL_law 661 = .ok (.iadd, 1) := by decide +kernel
theorem dL_law_662 : decode cL_law 662 = .ok (.iaload, 1) := by decide +kernel
theorem dL_law_663 : decode cL_law 663 = .ok (.invokevirtual 89, 3) := by decide +kernel
theorem dL_law_666 : decode cL_law 666 = .ok (.aload_n 2, 1) := by decide +kernel
theorem dL_law_667 : decode cL_law 667 = .ok (.aload_n 0, 1) := by decide +kernel
theorem dL_law_668 : decode cL_law 668 = .ok (.iload_n 3, 1) := by decide +kernel
theorem dL_law_669 : decode cL_law 669 = .ok (.iconst 1, 1) := by decide +kernel
theorem dL_law_670 : decode cL_law 670 = .ok (.iadd, 1) := by decide +kernel
theorem dL_law_671 : decode cL_law 671 = .ok (.iaload, 1) := by decide +kernel
theorem dL_law_672 : decode cL_law 672 = .ok (.aload_n 0, 1) := by decide +kernel
theorem dL_law_673 : decode cL_law 673 = .ok (.iload_n 3, 1) := by decide +kernel
theorem dL_law_674 : decode cL_law 674 = .ok (.iconst 2, 1) := by decide +kernel
theorem dL_law_675 : decode cL_law 675 = .ok (.iadd, 1) := by decide +kernel
theorem dL_law_676 : decode cL_law 676 = .ok (.iaload, 1) := by decide +kernel
theorem dL_law_677 : decode cL_law 677 = .ok (.invokevirtual 92, 3) := by decide +kernel
theorem dL_law_680 : decode cL_law 680 = .ok (.if_icmp .eq 425, 3) := by decide +kernel
theorem dL_law_683 : decode cL_law 683 = .ok (.iconst 0, 1) := by decide +kernel
theorem dL_law_684 : decode cL_law 684 = .ok (.ireturn, 1) := by decide +kernel
theorem dL_law_685 : decode cL_law 685 = .ok (.aload_n 1, 1) := by decide +kernel
theorem dL_law_686 : decode cL_law 686 = .ok (.aload_n 0, 1) := by decide +kernel
theorem dL_law_687 : decode cL_law 687 = .ok (.iload_n 3, 1) := by decide +kernel
theorem dL_law_688 : decode cL_law 688 = .ok (.iconst 1, 1) := by decide +kernel
theorem dL_law_689 : decode cL_law 689 = .ok (.iadd, 1) := by decide +kernel
theorem dL_law_690 : decode cL_law 690 = .ok (.iaload, 1) := by decide +kernel
theorem dL_law_691 : decode cL_law 691 = .ok (.aload_n 0, 1) := by decide +kernel
theorem dL_law_692 : decode cL_law 692 = .ok (.iload_n 3, 1) := by decide +kernel
theorem dL_law_693 : decode cL_law 693 = .ok (.iconst 2, 1) := by decide +kernel
theorem dL_law_694 : decode cL_law 694 = .ok (.iadd, 1) := by decide +kernel
theorem dL_law_695 : decode cL_law 695 = .ok (.iaload, 1) := by decide +kernel
theorem dL_law_696 : decode cL_law 696 = .ok (.aload_n 0, 1) := by decide +kernel
theorem dL_law_697 : decode cL_law 697 = .ok (.iload_n 3, 1) := by decide +kernel
theorem dL_law_698 : decode cL_law 698 = .ok (.iconst 3, 1) := by decide +kernel
theorem dL_law_699 : decode cL_law 699 = .ok (.iadd, 1) := by decide +kernel
theorem dL_law_700 : decode cL_law 700 = .ok (.iaload, 1) := by decide +kernel
theorem dL_law_701 : decode cL_law 701 = .ok (.aload_n 0, 1) := by decide +kernel
theorem dL_law_702 : decode cL_law 702 = .ok (.iload_n 3, 1) := by decide +kernel
theorem dL_law_703 : decode cL_law 703 = .ok (.iconst 4, 1) := by decide +kernel
theorem dL_law_704 : decode cL_law 704 = .ok (.iadd, 1) := by decide +kernel
theorem dL_law_705 : decode cL_law 705 = .ok (.iaload, 1) := by decide +kernel
theorem dL_law_706 : decode cL_law 706 = .ok (.invokevirtual 93, 3) := by decide +kernel
theorem dL_law_709 : decode cL_law 709 = .ok (.aload_n 2, 1) := by decide +kernel
theorem dL_law_710 : decode cL_law 710 = .ok (.aload_n 0, 1) := by decide +kernel
theorem dL_law_711 : decode cL_law 711 = .ok (.iload_n 3, 1) := by decide +kernel
theorem dL_law_712 : decode cL_law 712 = .ok (.iconst 1, 1) := by decide +kernel
theorem dL_law_713 : decode cL_law 713 = .ok (.iadd, 1) := by decide +kernel
theorem dL_law_714 : decode cL_law 714 = .ok (.iaload, 1) := by decide +kernel
theorem dL_law_715 : decode cL_law 715 = .ok (.aload_n 0, 1) := by decide +kernel
theorem dL_law_716 : decode cL_law 716 = .ok (.iload_n 3, 1) := by decide +kernel
theorem dL_law_717 : decode cL_law 717 = .ok (.iconst 2, 1) := by decide +kernel
theorem dL_law_718 : decode cL_law 718 = .ok (.iadd, 1) := by decide +kernel
theorem dL_law_719 : decode cL_law 719 = .ok (.iaload, 1) := by decide +kernel
theorem dL_law_720 : decode cL_law 720 = .ok (.aload_n 0, 1) := by decide +kernel
theorem dL_law_721 : decode cL_law 721 = .ok (.iload_n 3, 1) := by decide +kernel
theorem dL_law_722 : decode cL_law 722 = .ok (.iconst 3, 1) := by decide +kernel
theorem dL_law_723 : decode cL_law 723 = .ok (.iadd, 1) := by decide +kernel
theorem dL_law_724 : decode cL_law 724 = .ok (.iaload, 1) := by decide +kernel
theorem dL_law_725 : decode cL_law 725 = .ok (.aload_n 0, 1) := by decide +kernel
theorem dL_law_726 : decode cL_law 726 = .ok (.iload_n 3, 1) := by decide +kernel
theorem dL_law_727 : decode cL_law 727 = .ok (.iconst 4, 1) := by decide +kernel
theorem dL_law_728 : decode cL_law 728 = .ok (.iadd, 1) := by decide +kernel
theorem dL_law_729 : decode cL_law 729 = .ok (.iaload, 1) := by decide +kernel
theorem dL_law_730 : decode cL_law 730 = .ok (.invokevirtual 97, 3) := by decide +kernel
theorem dL_law_733 : decode cL_law 733 = .ok (.if_icmp .eq 372, 3) := by decide +kernel
theorem dL_law_736 : decode cL_law 736 = .ok (.iconst 0, 1) := by decide +kernel
theorem dL_law_737 : decode cL_law 737 = .ok (.ireturn, 1) := by decide +kernel
theorem dL_law_738 : decode cL_law 738 = .ok (.aload_n 1, 1) := by decide +kernel
theorem dL_law_739 : decode cL_law 739 = .ok (.aload_n 0, 1) := by decide +kernel
theorem dL_law_740 : decode cL_law 740 = .ok (.iload_n 3, 1) := by decide +kernel
theorem dL_law_741 : decode cL_law 741 = .ok (.iconst 1, 1) := by decide +kernel
theorem dL_law_742 : decode cL_law 742 = .ok (.iadd, 1) := by decide +kernel
theorem dL_law_743 : decode cL_law 743 = .ok (.iaload, 1) := by decide +kernel
theorem dL_law_744 : decode cL_law 744 = .ok (.invokevirtual 98, 3) := by decide +kernel
theorem dL_law_747 : decode cL_law 747 = .ok (.aload_n 2, 1) := by decide +kernel
theorem dL_law_748 : decode cL_law 748 = .ok (.aload_n 0, 1) := by decide +kernel
theorem dL_law_749 : decode cL_law 749 = .ok (.iload_n 3, 1) := by decide +kernel
theorem dL_law_750 : decode cL_law 750 = .ok (.iconst 1, 1) := by decide +kernel
theorem dL_law_751 : decode cL_law 751 = .ok (.iadd, 1) := by decide +kernel
theorem dL_law_752 : decode cL_law 752 = .ok (.iaload, 1) := by decide +kernel
theorem dL_law_753 : decode cL_law 753 = .ok (.invokevirtual 101, 3) := by decide +kernel
theorem dL_law_756 : decode cL_law 756 = .ok (.if_icmp .eq 349, 3) := by decide +kernel
theorem dL_law_759 : decode cL_law 759 = .ok (.iconst 0, 1) := by decide +kernel
theorem dL_law_760 : decode cL_law 760 = .ok (.ireturn, 1) := by decide +kernel
theorem dL_law_761 : decode cL_law 761 = .ok (.aload_n 1, 1) := by decide +kernel
theorem dL_law_762 : decode cL_law 762 = .ok (.aload_n 0, 1) := by decide +kernel
theorem dL_law_763 : decode cL_law 763 = .ok (.iload_n 3, 1) := by decide +kernel
theorem dL_law_764 : decode cL_law 764 = .ok (.iconst 1, 1) := by decide +kernel
theorem dL_law_765 : decode cL_law 765 = .ok (.iadd, 1) := by decide +kernel
theorem dL_law_766 : decode cL_law 766 = .ok (.iaload, 1) := by decide +kernel
theorem dL_law_767 : decode cL_law 767 = .ok (.invokevirtual 102, 3) := by decide +kernel
theorem dL_law_770 : decode cL_law 770 = .ok (.aload_n 2, 1) := by decide +kernel
theorem dL_law_771 : decode cL_law 771 = .ok (.aload_n 0, 1) := by decide +kernel
theorem dL_law_772 : decode cL_law 772 = .ok (.iload_n 3, 1) := by decide +kernel
theorem dL_law_773 : decode cL_law 773 = .ok (.iconst 1, 1) := by decide +kernel
theorem dL_law_774 : decode cL_law 774 = .ok (.iadd, 1) := by decide +kernel
theorem dL_law_775 : decode cL_law 775 = .ok (.iaload, 1) := by decide +kernel
theorem dL_law_776 : decode cL_law 776 = .ok (.invokevirtual 105, 3) := by decide +kernel
theorem dL_law_779 : decode cL_law 779 = .ok (.if_icmp .eq 326, 3) := by decide +kernel
theorem dL_law_782 : decode cL_law 782 = .ok (.iconst 0, 1) := by decide +kernel
theorem dL_law_783 : decode cL_law 783 = .ok (.ireturn, 1) := by decide +kernel
theorem dL_law_784 : decode cL_law 784 = .ok (.aload_n 1, 1) := by decide +kernel
theorem dL_law_785 : decode cL_law 785 = .ok (.aload_n 0, 1) := by decide +kernel
theorem dL_law_786 : decode cL_law 786 = .ok (.iload_n 3, 1) := by decide +kernel
theorem dL_law_787 : decode cL_law 787 = .ok (.iconst 1, 1) := by decide +kernel
theorem dL_law_788 : decode cL_law 788 = .ok (.iadd, 1) := by decide +kernel
theorem dL_law_789 : decode cL_law 789 = .ok (.iaload, 1) := by decide +kernel
theorem dL_law_790 : decode cL_law 790 = .ok (.aload_n 0, 1) := by decide +kernel
theorem dL_law_791 : decode cL_law 791 = .ok (.iload_n 3, 1) := by decide +kernel
theorem dL_law_792 : decode cL_law 792 = .ok (.iconst 2, 1) := by decide +kernel
theorem dL_law_793 : decode cL_law 793 = .ok (.iadd, 1) := by decide +kernel
theorem dL_law_794 : decode cL_law 794 = .ok (.iaload, 1) := by decide +kernel
theorem dL_law_795 : decode cL_law 795 = .ok (.aload_n 0, 1) := by decide +kernel
theorem dL_law_796 : decode cL_law 796 = .ok (.iload_n 3, 1) := by decide +kernel
theorem dL_law_797 : decode cL_law 797 = .ok (.iconst 3, 1) := by decide +kernel
theorem dL_law_798 : decode cL_law 798 = .ok (.iadd, 1) := by decide +kernel
theorem dL_law_799 : decode cL_law 799 = .ok (.iaload, 1) := by decide +kernel
theorem dL_law_800 : decode cL_law 800 = .ok (.invokevirtual 106, 3) := by decide +kernel
theorem dL_law_803 : decode cL_law 803 = .ok (.aload_n 2, 1) := by decide +kernel
theorem dL_law_804 : decode cL_law 804 = .ok (.aload_n 0, 1) := by decide +kernel
theorem dL_law_805 : decode cL_law 805 = .ok (.iload_n 3, 1) := by decide +kernel
theorem dL_law_806 : decode cL_law 806 = .ok (.iconst 1, 1) := by decide +kernel
theorem dL_law_807 : decode cL_law 807 = .ok (.iadd, 1) := by decide +kernel
theorem dL_law_808 : decode cL_law 808 = .ok (.iaload, 1) := by decide +kernel
theorem dL_law_809 : decode cL_law 809 = .ok (.aload_n 0, 1) := by decide +kernel
theorem dL_law_810 : decode cL_law 810 = .ok (.iload_n 3, 1) := by decide +kernel
theorem dL_law_811 : decode cL_law 811 = .ok (.iconst 2, 1) := by decide +kernel
theorem dL_law_812 : decode cL_law 812 = .ok (.iadd, 1) := by decide +kernel
theorem dL_law_813 : decode cL_law 813 = .ok (.iaload, 1) := by decide +kernel
theorem dL_law_814 : decode cL_law 814 = .ok (.aload_n 0, 1) := by decide +kernel
theorem dL_law_815 : decode cL_law 815 = .ok (.iload_n 3, 1) := by decide +kernel
theorem dL_law_816 : decode cL_law 816 = .ok (.iconst 3, 1) := by decide +kernel
theorem dL_law_817 : decode cL_law 817 = .ok (.iadd, 1) := by decide +kernel
theorem dL_law_818 : decode cL_law 818 = .ok (.iaload, 1) := by decide +kernel
theorem dL_law_819 : decode cL_law 819 = .ok (.invokevirtual 109, 3) := by decide +kernel
theorem dL_law_822 : decode cL_law 822 = .ok (.if_icmp .eq 283, 3) := by decide +kernel
theorem dL_law_825 : decode cL_law 825 = .ok (.iconst 0, 1) := by decide +kernel
theorem dL_law_826 : decode cL_law 826 = .ok (.ireturn, 1) := by decide +kernel
theorem dL_law_827 : decode cL_law 827 = .ok (.aload_n 1, 1) := by decide +kernel
theorem dL_law_828 : decode cL_law 828 = .ok (.aload_n 0, 1) := by decide +kernel
theorem dL_law_829 : decode cL_law 829 = .ok (.iload_n 3, 1) := by decide +kernel
theorem dL_law_830 : decode cL_law 830 = .ok (.iconst 1, 1) := by decide +kernel
theorem dL_law_831 : decode cL_law 831 = .ok (.iadd, 1) := by decide +kernel
theorem dL_law_832 : decode cL_law 832 = .ok (.iaload, 1) := by decide +kernel
theorem dL_law_833 : decode cL_law 833 = .ok (.invokevirtual 110, 3) := by decide +kernel
theorem dL_law_836 : decode cL_law 836 = .ok (.aload_n 2, 1) := by decide +kernel
theorem dL_law_837 : decode cL_law 837 = .ok (.aload_n 0, 1) := by decide +kernel
theorem dL_law_838 : decode cL_law 838 = .ok (.iload_n 3, 1) := by decide +kernel
theorem dL_law_839 : decode cL_law 839 = .ok (.iconst 1, 1) := by decide +kernel
theorem dL_law_840 : decode cL_law 840 = .ok (.iadd, 1) := by decide +kernel
theorem dL_law_841 : decode cL_law 841 = .ok (.iaload, 1) := by decide +kernel
theorem dL_law_842 : decode cL_law 842 = .ok (.invokevirtual 113, 3) := by decide +kernel
theorem dL_law_845 : decode cL_law 845 = .ok (.if_icmp .eq 260, 3) := by decide +kernel
theorem dL_law_848 : decode cL_law 848 = .ok (.iconst 0, 1) := by decide +kernel
theorem dL_law_849 : decode cL_law 849 = .ok (.ireturn, 1) := by decide +kernel
theorem dL_law_850 : decode cL_law 850 = .ok (.aload_n 1, 1) := by decide +kernel
theorem dL_law_851 : decode cL_law 851 = .ok (.invokevirtual 114, 3) := by decide +kernel
theorem dL_law_854 : decode cL_law 854 = .ok (.aload_n 2, 1) := by decide +kernel
theorem dL_law_855 : decode cL_law 855 = .ok (.invokevirtual 117, 3) := by decide +kernel
theorem dL_law_858 : decode cL_law 858 = .ok (.if_icmp .eq 247, 3) := by decide +kernel
theorem dL_law_861 : decode cL_law 861 = .ok (.iconst 0, 1) := by decide +kernel
theorem dL_law_862 : decode cL_law 862 = .ok (.ireturn, 1) := by decide +kernel
theorem dL_law_863 : decode cL_law 863 = .ok (.aload_n 1, 1) := by decide +kernel
theorem dL_law_864 : decode cL_law 864 = .ok (.invokevirtual 118, 3) := by decide +kernel
theorem dL_law_867 : decode cL_law 867 = .ok (.aload_n 2, 1) := by decide +kernel
theorem dL_law_868 : decode cL_law 868 = .ok (.invokevirtual 121, 3) := by decide +kernel
theorem dL_law_871 : decode cL_law 871 = .ok (.if_icmp .eq 234, 3) := by decide +kernel
theorem dL_law_874 : decode cL_law 874 = .ok (.iconst 0, 1) := by decide +kernel
theorem dL_law_875 : decode cL_law 875 = .ok (.ireturn, 1) := by decide +kernel
theorem dL_law_876 : decode cL_law 876 = .ok (.aload_n 1, 1) := by decide +kernel
theorem dL_law_877 : decode cL_law 877 = .ok (.aload_n 0, 1) := by decide +kernel
theorem dL_law_878 : decode cL_law 878 = .ok (.iload_n 3, 1) := by decide +kernel
theorem dL_law_879 : decode cL_law 879 = .ok (.iconst 1, 1) := by decide +kernel
theorem dL_law_880 : decode cL_law 880 = .ok (.iadd, 1) := by decide +kernel
theorem dL_law_881 : decode cL_law 881 = .ok (.iaload, 1) := by decide +kernel
theorem dL_law_882 : decode cL_law 882 = .ok (.invokevirtual 122, 3) := by decide +kernel
theorem dL_law_885 : decode cL_law 885 = .ok (.aload_n 2, 1) := by decide +kernel
theorem dL_law_886 : decode cL_law 886 = .ok (.aload_n 0, 1) := by decide +kernel
theorem dL_law_887 : decode cL_law 887 = .ok (.iload_n 3, 1) := by decide +kernel
theorem dL_law_888 : decode cL_law 888 = .ok (.iconst 1, 1) := by decide +kernel
theorem dL_law_889 : decode cL_law 889 = .ok (.iadd, 1) := by decide +kernel
theorem dL_law_890 : decode cL_law 890 = .ok (.iaload, 1) := by decide +kernel
theorem dL_law_891 : decode cL_law 891 = .ok (.invokevirtual 125, 3) := by decide +kernel
theorem dL_law_894 : decode cL_law 894 = .ok (.if_icmp .eq 211, 3) := by decide +kernel
theorem dL_law_897 : decode cL_law 897 = .ok (.iconst 0, 1) := by decide +kernel
theorem dL_law_898 : decode cL_law 898 = .ok (.ireturn, 1) := by decide +kernel
theorem dL_law_899 : decode cL_law 899 = .ok (.aload_n 1, 1) := by decide +kernel
theorem dL_law_900 : decode cL_law 900 = .ok (.aload_n 0, 1) := by decide +kernel
theorem dL_law_901 : decode cL_law 901 = .ok (.iload_n 3, 1) := by decide +kernel
theorem dL_law_902 : decode cL_law 902 = .ok (.iconst 1, 1) := by decide +kernel
theorem dL_law_903 : decode cL_law 903 = .ok (.iadd, 1) := by decide +kernel
theorem dL_law_904 : decode cL_law 904 = .ok (.iaload, 1) := by decide +kernel
theorem dL_law_905 : decode cL_law 905 = .ok (.aload_n 0, 1) := by decide +kernel
theorem dL_law_906 : decode cL_law 906 = .ok (.iload_n 3, 1) := by decide +kernel
theorem dL_law_907 : decode cL_law 907 = .ok (.iconst 2, 1) := by decide +kernel
theorem dL_law_908 : decode cL_law 908 = .ok (.iadd, 1) := by decide +kernel
theorem dL_law_909 : decode cL_law 909 = .ok (.iaload, 1) := by decide +kernel
theorem dL_law_910 : decode cL_law 910 = .ok (.aload_n 0, 1) := by decide +kernel
theorem dL_law_911 : decode cL_law 911 = .ok (.iload_n 3, 1) := by decide +kernel
theorem dL_law_912 : decode cL_law 912 = .ok (.iconst 3, 1) := by decide +kernel
theorem dL_law_913 : decode cL_law 913 = .ok (.iadd, 1) := by decide +kernel
theorem dL_law_914 : decode cL_law 914 = .ok (.iaload, 1) := by decide +kernel
theorem dL_law_915 : decode cL_law 915 = .ok (.invokevirtual 126, 3) := by decide +kernel
theorem dL_law_918 : decode cL_law 918 = .ok (.aload_n 2, 1) := by decide +kernel
theorem dL_law_919 : decode cL_law 919 = .ok (.aload_n 0, 1) := by decide +kernel
theorem dL_law_920 : decode cL_law 920 = .ok (.iload_n 3, 1) := by decide +kernel
theorem dL_law_921 : decode cL_law 921 = .ok (.iconst 1, 1) := by decide +kernel
theorem dL_law_922 : decode cL_law 922 = .ok (.iadd, 1) := by decide +kernel
theorem dL_law_923 : decode cL_law 923 = .ok (.iaload, 1) := by decide +kernel
theorem dL_law_924 : decode cL_law 924 = .ok (.aload_n 0, 1) := by decide +kernel
theorem dL_law_925 : decode cL_law 925 = .ok (.iload_n 3, 1) := by decide +kernel
theorem dL_law_926 : decode cL_law 926 = .ok (.iconst 2, 1) := by decide +kernel
theorem dL_law_927 : decode cL_law 927 = .ok (.iadd, 1) := by decide +kernel
theorem dL_law_928 : decode cL_law 928 = .ok (.iaload, 1) := by decide +kernel
theorem dL_law_929 : decode cL_law 929 = .ok (.aload_n 0, 1) := by decide +kernel
theorem dL_law_930 : decode cL_law 930 = .ok (.iload_n 3, 1) := by decide +kernel
theorem dL_law_931 : decode cL_law 931 = .ok (.iconst 3, 1) := by decide +kernel
theorem dL_law_932 : decode cL_law 932 = .ok (.iadd, 1) := by decide +kernel
theorem dL_law_933 : decode cL_law 933 = .ok (.iaload, 1) := by decide +kernel
theorem dL_law_934 : decode cL_law 934 = .ok (.invokevirtual 129, 3) := by decide +kernel
theorem dL_law_937 : decode cL_law 937 = .ok (.if_icmp .eq 168, 3) := by decide +kernel
theorem dL_law_940 : decode cL_law 940 = .ok (.iconst 0, 1) := by decide +kernel
theorem dL_law_941 : decode cL_law 941 = .ok (.ireturn, 1) := by decide +kernel
theorem dL_law_942 : decode cL_law 942 = .ok (.aload_n 1, 1) := by decide +kernel
theorem dL_law_943 : decode cL_law 943 = .ok (.aload_n 0, 1) := by decide +kernel
theorem dL_law_944 : decode cL_law 944 = .ok (.iload_n 3, 1) := by decide +kernel
theorem dL_law_945 : decode cL_law 945 = .ok (.iconst 1, 1) := by decide +kernel
theorem dL_law_946 : decode cL_law 946 = .ok (.iadd, 1) := by decide +kernel
theorem dL_law_947 : decode cL_law 947 = .ok (.iaload, 1) := by decide +kernel
theorem dL_law_948 : decode cL_law 948 = .ok (.aload_n 0, 1) := by decide +kernel
theorem dL_law_949 : decode cL_law 949 = .ok (.iload_n 3, 1) := by decide +kernel
theorem dL_law_950 : decode cL_law 950 = .ok (.iconst 2, 1) := by decide +kernel
theorem dL_law_951 : decode cL_law 951 = .ok (.iadd, 1) := by decide +kernel
theorem dL_law_952 : decode cL_law 952 = .ok (.iaload, 1) := by decide +kernel
theorem dL_law_953 : decode cL_law 953 = .ok (.invokevirtual 130, 3) := by decide +kernel
theorem dL_law_956 : decode cL_law 956 = .ok (.aload_n 2, 1) := by decide +kernel
theorem dL_law_957 : decode cL_law 957 = .ok (.aload_n 0, 1) := by decide +kernel
theorem dL_law_958 : decode cL_law 958 = .ok (.iload_n 3, 1) := by decide +kernel
theorem dL_law_959 : decode cL_law 959 = .ok (.iconst 1, 1) := by decide +kernel
theorem dL_law_960 : decode cL_law 960 = .ok (.iadd, 1) := by decide +kernel
theorem dL_law_961 : decode cL_law 961 = .ok (.iaload, 1) := by decide +kernel
theorem dL_law_962 : decode cL_law 962 = .ok (.aload_n 0, 1) := by decide +kernel
theorem dL_law_963 : decode cL_law 963 = .ok (.iload_n 3, 1) := by decide +kernel
theorem dL_law_964 : decode cL_law 964 = .ok (.iconst 2, 1) := by decide +kernel
theorem dL_law_965 : decode cL_law 965 = .ok (.iadd, 1) := by decide +kernel
theorem dL_law_966 : decode cL_law 966 = .ok (.iaload, 1) := by decide +kernel
theorem dL_law_967 : decode cL_law 967 = .ok (.invokevirtual 133, 3) := by decide +kernel
theorem dL_law_970 : decode cL_law 970 = .ok (.if_icmp .eq 135, 3) := by decide +kernel
theorem dL_law_973 : decode cL_law 973 = .ok (.iconst 0, 1) := by decide +kernel
theorem dL_law_974 : decode cL_law 974 = .ok (.ireturn, 1) := by decide +kernel
theorem dL_law_975 : decode cL_law 975 = .ok (.aload_n 1, 1) := by decide +kernel
theorem dL_law_976 : decode cL_law 976 = .ok (.aload_n 0, 1) := by decide +kernel
theorem dL_law_977 : decode cL_law 977 = .ok (.iload_n 3, 1) := by decide +kernel
theorem dL_law_978 : decode cL_law 978 = .ok (.iconst 1, 1) := by decide +kernel
theorem dL_law_979 : decode cL_law 979 = .ok (.iadd, 1) := by decide +kernel
theorem dL_law_980 : decode cL_law 980 = .ok (.iaload, 1) := by decide +kernel
theorem dL_law_981 : decode cL_law 981 = .ok (.invokevirtual 134, 3) := by decide +kernel
theorem dL_law_984 : decode cL_law 984 = .ok (.aload_n 2, 1) := by decide +kernel
theorem dL_law_985 : decode cL_law 985 = .ok (.aload_n 0, 1) := by decide +kernel
theorem dL_law_986 : decode cL_law 986 = .ok (.iload_n 3, 1) := by decide +kernel
theorem dL_law_987 : decode cL_law 987 = .ok (.iconst 1, 1) := by decide +kernel
theorem dL_law_988 : decode cL_law 988 = .ok (.iadd, 1) := by decide +kernel
theorem dL_law_989 : decode cL_law 989 = .ok (.iaload, 1) := by decide +kernel
theorem dL_law_990 : decode cL_law 990 = .ok (.invokevirtual 138, 3) := by decide +kernel
theorem dL_law_993 : decode cL_law 993 = .ok (.lcmp, 1) := by decide +kernel
theorem dL_law_994 : decode cL_law 994 = .ok (.ifCond .eq 111, 3) := by decide +kernel
theorem dL_law_997 : decode cL_law 997 = .ok (.iconst 0, 1) := by decide +kernel
theorem dL_law_998 : decode cL_law 998 = .ok (.ireturn, 1) := by decide +kernel
theorem dL_law_999 : decode cL_law 999 = .ok (.aload_n 1, 1) := by decide +kernel
theorem dL_law_1000 : decode cL_law 1000 = .ok (.aload_n 0, 1) := by decide +kernel
theorem dL_law_1001 : decode cL_law 1001 = .ok (.iload_n 3, 1) := by decide +kernel
theorem dL_law_1002 : decode cL_law 1002 = .ok (.iconst 1, 1) := by decide +kernel
theorem dL_law_1003 : decode cL_law 1003 = .ok (.iadd, 1) := by decide +kernel
theorem dL_law_1004 : decode cL_law 1004 = .ok (.iaload, 1) := by decide +kernel
theorem dL_law_1005 : decode cL_law 1005 = .ok (.invokevirtual 139, 3) := by decide +kernel
theorem dL_law_1008 : decode cL_law 1008 = .ok (.aload_n 2, 1) := by decide +kernel
theorem dL_law_1009 : decode cL_law 1009 = .ok (.aload_n 0, 1) := by decide +kernel
theorem dL_law_1010 : decode cL_law 1010 = .ok (.iload_n 3, 1) := by decide +kernel
theorem dL_law_1011 : decode cL_law 1011 = .ok (.iconst 1, 1) := by decide +kernel
theorem dL_law_1012 : decode cL_law 1012 = .ok (.iadd, 1) := by decide +kernel
theorem dL_law_1013 : decode cL_law 1013 = .ok (.iaload, 1) := by decide +kernel
theorem dL_law_1014 : decode cL_law 1014 = .ok (.invokevirtual 142, 3) := by decide +kernel
theorem dL_law_1017 : decode cL_law 1017 = .ok (.if_icmp .eq 88, 3) := by decide +kernel
theorem dL_law_1020 : decode cL_law 1020 = .ok (.iconst 0, 1) := by decide +kernel
theorem dL_law_1021 : decode cL_law 1021 = .ok (.ireturn, 1) := by decide +kernel
theorem dL_law_1022 : decode cL_law 1022 = .ok (.aload_n 1, 1) := by decide +kernel
theorem dL_law_1023 : decode cL_law 1023 = .ok (.aload_n 0, 1) := by decide +kernel
theorem dL_law_1024 : decode cL_law 1024 = .ok (.iload_n 3, 1) := by decide +kernel
theorem dL_law_1025 : decode cL_law 1025 = .ok (.iconst 1, 1) := by decide +kernel
theorem dL_law_1026 : decode cL_law 1026 = .ok (.iadd, 1) := by decide +kernel
theorem dL_law_1027 : decode cL_law 1027 = .ok (.iaload, 1) := by decide +kernel
theorem dL_law_1028 : decode cL_law 1028 = .ok (.invokevirtual 143, 3) := by decide +kernel
theorem dL_law_1031 : decode cL_law 1031 = .ok (.aload_n 2, 1) := by decide +kernel
theorem dL_law_1032 : decode cL_law 1032 = .ok (.aload_n 0, 1) := by decide +kernel
theorem dL_law_1033 : decode cL_law 1033 = .ok (.iload_n 3, 1) := by decide +kernel
theorem dL_law_1034 : decode cL_law 1034 = .ok (.iconst 1, 1) := by decide +kernel
theorem dL_law_1035 : decode cL_law 1035 = .ok (.iadd, 1) := by decide +kernel
theorem dL_law_1036 : decode cL_law 1036 = .ok (.iaload, 1) := by decide +kernel
theorem dL_law_1037 : decode cL_law 1037 = .ok (.invokevirtual 146, 3) := by decide +kernel
theorem dL_law_1040 : decode cL_law 1040 = .ok (.if_icmp .eq 65, 3) := by decide +kernel
theorem dL_law_1043 : decode cL_law 1043 = .ok (.iconst 0, 1) := by decide +kernel
theorem dL_law_1044 : decode cL_law 1044 = .ok (.ireturn, 1) := by decide +kernel
theorem dL_law_1045 : decode cL_law 1045 = .ok (.aload_n 1, 1) := by decide +kernel
theorem dL_law_1046 : decode cL_law 1046 = .ok (.aload_n 0, 1) := by decide +kernel
theorem dL_law_1047 : decode cL_law 1047 = .ok (.iload_n 3, 1) := by decide +kernel
theorem dL_law_1048 : decode cL_law 1048 = .ok (.iconst 1, 1) := by decide +kernel
theorem dL_law_1049 : decode cL_law 1049 = .ok (.iadd, 1) := by decide +kernel
theorem dL_law_1050 : decode cL_law 1050 = .ok (.iaload, 1) := by decide +kernel
theorem dL_law_1051 : decode cL_law 1051 = .ok (.invokevirtual 147, 3) := by decide +kernel
theorem dL_law_1054 : decode cL_law 1054 = .ok (.aload_n 2, 1) := by decide +kernel
theorem dL_law_1055 : decode cL_law 1055 = .ok (.aload_n 0, 1) := by decide +kernel
theorem dL_law_1056 : decode cL_law 1056 = .ok (.iload_n 3, 1) := by decide +kernel
theorem dL_law_1057 : decode cL_law 1057 = .ok (.iconst 1, 1) := by decide +kernel
theorem dL_law_1058 : decode cL_law 1058 = .ok (.iadd, 1) := by decide +kernel
theorem dL_law_1059 : decode cL_law 1059 = .ok (.iaload, 1) := by decide +kernel
theorem dL_law_1060 : decode cL_law 1060 = .ok (.invokevirtual 150, 3) := by decide +kernel
theorem dL_law_1063 : decode cL_law 1063 = .ok (.if_icmp .eq 42, 3) := by decide +kernel
theorem dL_law_1066 : decode cL_law 1066 = .ok (.iconst 0, 1) := by decide +kernel
theorem dL_law_1067 : decode cL_law 1067 = .ok (.ireturn, 1) := by decide +kernel
theorem dL_law_1068 : decode cL_law 1068 = .ok (.aload_n 1, 1) := by decide +kernel
theorem dL_law_1069 : decode cL_law 1069 = .ok (.aload_n 0, 1) := by decide +kernel
theorem dL_law_1070 : decode cL_law 1070 = .ok (.iload_n 3, 1) := by decide +kernel
theorem dL_law_1071 : decode cL_law 1071 = .ok (.iconst 1, 1) := by decide +kernel
theorem dL_law_1072 : decode cL_law 1072 = .ok (.iadd, 1) := by decide +kernel
theorem dL_law_1073 : decode cL_law 1073 = .ok (.iaload, 1) := by decide +kernel
theorem dL_law_1074 : decode cL_law 1074 = .ok (.invokevirtual 151, 3) := by decide +kernel
theorem dL_law_1077 : decode cL_law 1077 = .ok (.aload_n 2, 1) := by decide +kernel
theorem dL_law_1078 : decode cL_law 1078 = .ok (.aload_n 0, 1) := by decide +kernel
theorem dL_law_1079 : decode cL_law 1079 = .ok (.iload_n 3, 1) := by decide +kernel
theorem dL_law_1080 : decode cL_law 1080 = .ok (.iconst 1, 1) := by decide +kernel
theorem dL_law_1081 : decode cL_law 1081 = .ok (.iadd, 1) := by decide +kernel
theorem dL_law_1082 : decode cL_law 1082 = .ok (.iaload, 1) := by decide +kernel
theorem dL_law_1083 : decode cL_law 1083 = .ok (.invokevirtual 154, 3) := by decide +kernel
theorem dL_law_1086 : decode cL_law 1086 = .ok (.if_icmp .eq 19, 3) := by decide +kernel
theorem dL_law_1089 : decode cL_law 1089 = .ok (.iconst 0, 1) := by decide +kernel
theorem dL_law_1090 : decode cL_law 1090 = .ok (.ireturn, 1) := by decide +kernel
theorem dL_law_1091 : decode cL_law 1091 = .ok (.aload_n 1, 1) := by decide +kernel
theorem dL_law_1092 : decode cL_law 1092 = .ok (.invokevirtual 155, 3) := by decide +kernel
theorem dL_law_1095 : decode cL_law 1095 = .ok (.aload_n 2, 1) := by decide +kernel
theorem dL_law_1096 : decode cL_law 1096 = .ok (.invokevirtual 159, 3) := by decide +kernel
theorem dL_law_1099 : decode cL_law 1099 = .ok (.lcmp, 1) := by decide +kernel
theorem dL_law_1100 : decode cL_law 1100 = .ok (.ifCond .eq 5, 3) := by decide +kernel
theorem dL_law_1103 : decode cL_law 1103 = .ok (.iconst 0, 1) := by decide +kernel
theorem dL_law_1104 : decode cL_law 1104 = .ok (.ireturn, 1) := by decide +kernel
theorem dL_law_1105 : decode cL_law 1105 = .ok (.iinc 3 5, 3) := by decide +kernel
theorem dL_law_1108 : decode cL_law 1108 = .ok (.goto (-1090), 3) := by decide +kernel
theorem dL_law_1111 : decode cL_law 1111 = .ok (.iconst 1, 1) := by decide +kernel
theorem dL_law_1112 : decode cL_law 1112 = .ok (.ireturn, 1) := by decide +kernel
