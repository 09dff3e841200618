theorem dX0_init_0 : decode cX0_init 0 = .ok (.aload_n 0, 1) := by decide +kernel
theorem dX0_init_1 : decode cX0_init 1 = .ok (.invokespecial 3, 3) := by decide +kernel
theorem dX0_init_4 : decode cX0_init 4 = .ok (.aload_n 0, 1) := by decide +kernel
theorem dX0_init_5 : decode cX0_init 5 = .ok (.iload_n 1, 1) := by decide +kernel
theorem dX0_init_6 : decode cX0_init 6 = .ok (.iconst 0, 1) := by decide +kernel
theorem dX0_init_7 : decode cX0_init 7 = .ok (.invokestatic 9, 3) := by decide +kernel
theorem dX0_init_10 : decode cX0_init 10 = .ok (.putfield 15, 3) := by decide +kernel
theorem dX0_init_13 : decode cX0_init 13 = .ok (.aload_n 0, 1) := by decide +kernel
theorem dX0_init_14 : decode cX0_init 14 = .ok (.aload_n 0, 1) := by decide +kernel
theorem dX0_init_15 : decode cX0_init 15 = .ok (.getfield 15, 3) := by decide +kernel
theorem dX0_init_18 : decode cX0_init 18 = .ok (.newarray .int, 2) := by decide +kernel
theorem dX0_init_20 : decode cX0_init 20 = .ok (.putfield 21, 3) := by decide +kernel
theorem dX0_init_23 : decode cX0_init 23 = .ok (.aload_n 0, 1) := by decide +kernel
theorem dX0_init_24 : decode cX0_init 24 = .ok (.aload_n 0, 1) := by decide +kernel
theorem dX0_init_25 : decode cX0_init 25 = .ok (.getfield 15, 3) := by decide +kernel
theorem dX0_init_28 : decode cX0_init 28 = .ok (.newarray .int, 2) := by decide +kernel
theorem dX0_init_30 : decode cX0_init 30 = .ok (.putfield 25, 3) := by decide +kernel
theorem dX0_init_33 : decode cX0_init 33 = .ok (.return_, 1) := by decide +kernel
theorem dX0_add_0 : decode cX0_add 0 = .ok (.aload_n 0, 1) := by decide +kernel
theorem dX0_add_1 : decode cX0_add 1 = .ok (.getfield 28, 3) := by decide +kernel
theorem dX0_add_4 : decode cX0_add 4 = .ok (.aload_n 0, 1) := by decide +kernel
theorem dX0_add_5 : decode cX0_add 5 = .ok (.getfield 15, 3) := by decide +kernel
theorem dX0_add_8 : decode cX0_add 8 = .ok (.if_icmp .lt 6, 3) := by decide +kernel
theorem dX0_add_11 : decode cX0_add 11 = .ok (.ldc 31, 2) := by decide +kernel
theorem dX0_add_13 : decode cX0_add 13 = .ok (.ireturn, 1) := by decide +kernel
theorem dX0_add_14 : decode cX0_add 14 = .ok (.aload_n 0, 1) := by decide +kernel
theorem dX0_add_15 : decode cX0_add 15 = .ok (.getfield 21, 3) := by decide +kernel
theorem dX0_add_18 : decode cX0_add 18 = .ok (.aload_n 0, 1) := by decide +kernel
theorem dX0_add_19 : decode cX0_add 19 = .ok (.getfield 28, 3) := by decide +kernel
theorem dX0_add_22 : decode cX0_add 22 = .ok (.iload_n 1, 1) := by decide +kernel
theorem dX0_add_23 : decode cX0_add 23 = .ok (.iastore, 1) := by decide +kernel
theorem dX0_add_24 : decode cX0_add 24 = .ok (.aload_n 0, 1) := by decide +kernel
theorem dX0_add_25 : decode cX0_add 25 = .ok (.getfield 25, 3) := by decide +kernel
theorem dX0_add_28 : decode cX0_add 28 = .ok (.aload_n 0, 1) := by decide +kernel
theorem dX0_add_29 : decode cX0_add 29 = .ok (.getfield 28, 3) := by decide +kernel
theorem dX0_add_32 : decode cX0_add 32 = .ok (.iload_n 2, 1) := by decide +kernel
theorem dX0_add_33 : decode cX0_add 33 = .ok (.iastore, 1) := by decide +kernel
theorem dX0_add_34 : decode cX0_add 34 = .ok (.aload_n 0, 1) := by decide +kernel
theorem dX0_add_35 : decode cX0_add 35 = .ok (.dup, 1) := by decide +kernel
theorem dX0_add_36 : decode cX0_add 36 = .ok (.getfield 28, 3) := by decide +kernel
theorem dX0_add_39 : decode cX0_add 39 = .ok (.iconst 1, 1) := by decide +kernel
theorem dX0_add_40 : decode cX0_add 40 = .ok (.iadd, 1) := by decide +kernel
theorem dX0_add_41 : decode cX0_add 41 = .ok (.putfield 28, 3) := by decide +kernel
theorem dX0_add_44 : decode cX0_add 44 = .ok (.aload_n 0, 1) := by decide +kernel
theorem dX0_add_45 : decode cX0_add 45 = .ok (.getfield 28, 3) := by decide +kernel
theorem dX0_add_48 : decode cX0_add 48 = .ok (.ireturn, 1) := by decide +kernel
theorem dX1_init_0 : decode cX1_init 0 = .ok (.aload_n 0, 1) := by decide +kernel
theorem dX1_init_1 : decode cX1_init 1 = .ok (.invokespecial 3, 3) := by decide +kernel
theorem dX1_init_4 : decode cX1_init 4 = .ok (.aload_n 0, 1) := by decide +kernel
theorem dX1_init_5 : decode cX1_init 5 = .ok (.bipush 8, 2) := by decide +kernel
theorem dX1_init_7 : decode cX1_init 7 = .ok (.newarray .int, 2) := by decide +kernel
theorem dX1_init_9 : decode cX1_init 9 = .ok (.putfield 9, 3) := by decide +kernel
theorem dX1_init_12 : decode cX1_init 12 = .ok (.aload_n 0, 1) := by decide +kernel
theorem dX1_init_13 : decode cX1_init 13 = .ok (.bipush 8, 2) := by decide +kernel
theorem dX1_init_15 : decode cX1_init 15 = .ok (.newarray .int, 2) := by decide +kernel
theorem dX1_init_17 : decode cX1_init 17 = .ok (.putfield 15, 3) := by decide +kernel
theorem dX1_init_20 : decode cX1_init 20 = .ok (.aload_n 0, 1) := by decide +kernel
theorem dX1_init_21 : decode cX1_init 21 = .ok (.bipush 8, 2) := by decide +kernel
theorem dX1_init_23 : decode cX1_init 23 = .ok (.newarray .int, 2) := by decide +kernel
theorem dX1_init_25 : decode cX1_init 25 = .ok (.putfield 18, 3) := by decide +kernel
theorem dX1_init_28 : decode cX1_init 28 = .ok (.aload_n 0, 1) := by decide +kernel
theorem dX1_init_29 : decode cX1_init 29 = .ok (.iconst 4, 1) := by decide +kernel
theorem dX1_init_30 : decode cX1_init 30 = .ok (.newarray .int, 2) := by decide +kernel
theorem dX1_init_32 : decode cX1_init 32 = .ok (.putfield 21, 3) := by decide +kernel
theorem dX1_init_35 : decode cX1_init 35 = .ok (.return_, 1) := by decide +kernel
theorem dX1_settle_0 : decode cX1_settle 0 = .ok (.aload_n 1, 1) := by decide +kernel
theorem dX1_settle_1 : decode cX1_settle 1 = .ok (.getfield 24, 3) := by decide +kernel
theorem dX1_settle_4 : decode cX1_settle 4 = .ok (.iconst 0, 1) := by decide +kernel
theorem dX1_settle_5 : decode cX1_settle 5 = .ok (.aload_n 0, 1) := by decide +kernel
theorem dX1_settle_6 : decode cX1_settle 6 = .ok (.getfield 9, 3) := by decide +kernel
theorem dX1_settle_9 : decode cX1_settle 9 = .ok (.iconst 0, 1) := by decide +kernel
theorem dX1_settle_10 : decode cX1_settle 10 = .ok (.bipush 8, 2) := by decide +kernel
theorem dX1_settle_12 : decode cX1_settle 12 = .ok (.invokestatic 29, 3) := by decide +kernel
theorem dX1_settle_15 : decode cX1_settle 15 = .ok (.aload_n 1, 1) := by decide +kernel
theorem dX1_settle_16 : decode cX1_settle 16 = .ok (.getfield 35, 3) := by decide +kernel
theorem dX1_settle_19 : decode cX1_settle 19 = .ok (.iconst 0, 1) := by decide +kernel
theorem dX1_settle_20 : decode cX1_settle 20 = .ok (.aload_n 0, 1) := by decide +kernel
theorem dX1_settle_21 : decode cX1_settle 21 = .ok (.getfield 18, 3) := by decide +kernel
theorem dX1_settle_24 : decode cX1_settle 24 = .ok (.iconst 0, 1) := by decide +kernel
theorem dX1_settle_25 : decode cX1_settle 25 = .ok (.bipush 8, 2) := by decide +kernel
theorem dX1_settle_27 : decode cX1_settle 27 = .ok (.invokestatic 29, 3) := by decide +kernel
theorem dX1_settle_30 : decode cX1_settle 30 = .ok (.aload_n 0, 1) := by decide +kernel
theorem dX1_settle_31 : decode cX1_settle 31 = .ok (.getfield 15, 3) := by decide +kernel
theorem dX1_settle_34 : decode cX1_settle 34 = .ok (.iconst 0, 1) := by decide +kernel
theorem dX1_settle_35 : decode cX1_settle 35 = .ok (.invokestatic 38, 3) := by decide +kernel
theorem dX1_settle_38 : decode cX1_settle 38 = .ok (.aload_n 0, 1) := by decide +kernel
theorem dX1_settle_39 : decode cX1_settle 39 = .ok (.iconst 0, 1) := by decide +kernel
theorem dX1_settle_40 : decode cX1_settle 40 = .ok (.putfield 44, 3) := by decide +kernel
theorem dX1_settle_43 : decode cX1_settle 43 = .ok (.aload_n 0, 1) := by decide +kernel
theorem dX1_settle_44 : decode cX1_settle 44 = .ok (.iconst 0, 1) := by decide +kernel
theorem dX1_settle_45 : decode cX1_settle 45 = .ok (.putfield 48, 3) := by decide +kernel
theorem dX1_settle_48 : decode cX1_settle 48 = .ok (.aload_n 0, 1) := by decide +kernel
theorem dX1_settle_49 : decode cX1_settle 49 = .ok (.iconst 0, 1) := by decide +kernel
theorem dX1_settle_50 : decode cX1_settle 50 = .ok (.putfield 51, 3) := by decide +kernel
theorem dX1_settle_53 : decode cX1_settle 53 = .ok (.return_, 1) := by decide +kernel
theorem dX1_copyFrom_0 : decode cX1_copyFrom 0 = .ok (.aload_n 1, 1) := by decide +kernel
theorem dX1_copyFrom_1 : decode cX1_copyFrom 1 = .ok (.getfield 9, 3) := by decide +kernel
theorem dX1_copyFrom_4 : decode cX1_copyFrom 4 = .ok (.iconst 0, 1) := by decide +kernel
theorem dX1_copyFrom_5 : decode cX1_copyFrom 5 = .ok (.aload_n 0, 1) := by decide +kernel
theorem dX1_copyFrom_6 : decode cX1_copyFrom 6 = .ok (.getfield 9, 3) := by decide +kernel
theorem dX1_copyFrom_9 : decode cX1_copyFrom 9 = .ok (.iconst 0, 1) := by decide +kernel
theorem dX1_copyFrom_10 : decode cX1_copyFrom 10 = .ok (.bipush 8, 2) := by decide +kernel
theorem dX1_copyFrom_12 : decode cX1_copyFrom 12 = .ok (.invokestatic 29, 3) := by decide +kernel
theorem dX1_copyFrom_15 : decode cX1_copyFrom 15 = .ok (.aload_n 1, 1) := by decide +kernel
theorem dX1_copyFrom_16 : decode cX1_copyFrom 16 = .ok (.getfield 15, 3) := by decide +kernel
theorem dX1_copyFrom_19 : decode cX1_copyFrom 19 = .ok (.iconst 0, 1) := by decide +kernel
theorem dX1_copyFrom_20 : decode cX1_copyFrom 20 = .ok (.aload_n 0, 1) := by decide +kernel
theorem dX1_copyFrom_21 : decode cX1_copyFrom 21 = .ok (.getfield 15, 3) := by decide +kernel
theorem dX1_copyFrom_24 : decode cX1_copyFrom 24 = .ok (.iconst 0, 1) := by decide +kernel
theorem dX1_copyFrom_25 : decode cX1_copyFrom 25 = .ok (.bipush 8, 2) := by decide +kernel
theorem dX1_copyFrom_27 : decode cX1_copyFrom 27 = .ok (.invokestatic 29, 3) := by decide +kernel
theorem dX1_copyFrom_30 : decode cX1_copyFrom 30 = .ok (.aload_n 1, 1) := by decide +kernel
theorem dX1_copyFrom_31 : decode cX1_copyFrom 31 = .ok (.getfield 18, 3) := by decide +kernel
theorem dX1_copyFrom_34 : decode cX1_copyFrom 34 = .ok (.iconst 0, 1) := by decide +kernel
theorem dX1_copyFrom_35 : decode cX1_copyFrom 35 = .ok (.aload_n 0, 1) := by decide +kernel
theorem dX1_copyFrom_36 : decode cX1_copyFrom 36 = .ok (.getfield 18, 3) := by decide +kernel
theorem dX1_copyFrom_39 : decode cX1_copyFrom 39 = .ok (.iconst 0, 1) := by decide +kernel
theorem dX1_copyFrom_40 : decode cX1_copyFrom 40 = .ok (.bipush 8, 2) := by decide +kernel
theorem dX1_copyFrom_42 : decode cX1_copyFrom 42 = .ok (.invokestatic 29, 3) := by decide +kernel
theorem dX1_copyFrom_45 : decode cX1_copyFrom 45 = .ok (.aload_n 0, 1) := by decide +kernel
theorem dX1_copyFrom_46 : decode cX1_copyFrom 46 = .ok (.aload_n 1, 1) := by decide +kernel
theorem dX1_copyFrom_47 : decode cX1_copyFrom 47 = .ok (.getfield 44, 3) := by decide +kernel
theorem dX1_copyFrom_50 : decode cX1_copyFrom 50 = .ok (.putfield 44, 3) := by decide +kernel
theorem dX1_copyFrom_53 : decode cX1_copyFrom 53 = .ok (.aload_n 0, 1) := by decide +kernel
theorem dX1_copyFrom_54 : decode cX1_copyFrom 54 = .ok (.aload_n 1, 1) := by decide +kernel
theorem dX1_copyFrom_55 : decode cX1_copyFrom 55 = .ok (.getfield 48, 3) := by decide +kernel
theorem dX1_copyFrom_58 : decode cX1_copyFrom 58 = .ok (.putfield 48, 3) := by decide +kernel
theorem dX1_copyFrom_61 : decode cX1_copyFrom 61 = .ok (.aload_n 0, 1) := by decide +kernel
theorem dX1_copyFrom_62 : decode cX1_copyFrom 62 = .ok (.aload_n 1, 1) := by decide +kernel
theorem dX1_copyFrom_63 : decode cX1_copyFrom 63 = .ok (.getfield 51, 3) := by decide +kernel
theorem dX1_copyFrom_66 : decode cX1_copyFrom 66 = .ok (.putfield 51, 3) := by decide +kernel
theorem dX1_copyFrom_69 : decode cX1_copyFrom 69 = .ok (.return_, 1) := by decide +kernel
theorem dX1_isShut_0 : decode cX1_isShut 0 = .ok (.aload_n 0, 1) := by decide +kernel
theorem dX1_isShut_1 : decode cX1_isShut 1 = .ok (.getfield 44, 3) := by decide +kernel
theorem dX1_isShut_4 : decode cX1_isShut 4 = .ok (.iload_n 1, 1) := by decide +kernel
theorem dX1_isShut_5 : decode cX1_isShut 5 = .ok (.ishr, 1) := by decide +kernel
theorem dX1_isShut_6 : decode cX1_isShut 6 = .ok (.iconst 1, 1) := by decide +kernel
theorem dX1_isShut_7 : decode cX1_isShut 7 = .ok (.iand, 1) := by decide +kernel
theorem dX1_isShut_8 : decode cX1_isShut 8 = .ok (.ifCond .eq 7, 3) := by decide +kernel
theorem dX1_isShut_11 : decode cX1_isShut 11 = .ok (.iconst 1, 1) := by decide +kernel
theorem dX1_isShut_12 : decode cX1_isShut 12 = .ok (.goto 4, 3) := by decide +kernel
theorem dX1_isShut_15 : decode cX1_isShut 15 = .ok (.iconst 0, 1) := by decide +kernel
theorem dX1_isShut_16 : decode cX1_isShut 16 = .ok (.ireturn, 1) := by decide +kernel
theorem dX1_carry_0 : decode cX1_carry 0 = .ok (.aload_n 0, 1) := by decide +kernel
theorem dX1_carry_1 : decode cX1_carry 1 = .ok (.getfield 9, 3) := by decide +kernel
theorem dX1_carry_4 : decode cX1_carry 4 = .ok (.iload_n 1, 1) := by decide +kernel
theorem dX1_carry_5 : decode cX1_carry 5 = .ok (.dup2, 1) := by decide +kernel
theorem dX1_carry_6 : decode cX1_carry 6 = .ok (.iaload, 1) := by decide +kernel
theorem dX1_carry_7 : decode cX1_carry 7 = .ok (.iload_n 3, 1) := by decide +kernel
theorem dX1_carry_8 : decode cX1_carry 8 = .ok (.isub, 1) := by decide +kernel
theorem dX1_carry_9 : decode cX1_carry 9 = .ok (.iastore, 1) := by decide +kernel
theorem dX1_carry_10 : decode cX1_carry 10 = .ok (.aload_n 0, 1) := by decide +kernel
theorem dX1_carry_11 : decode cX1_carry 11 = .ok (.getfield 9, 3) := by decide +kernel
theorem dX1_carry_14 : decode cX1_carry 14 = .ok (.iload_n 2, 1) := by decide +kernel
theorem dX1_carry_15 : decode cX1_carry 15 = .ok (.dup2, 1) := by decide +kernel
theorem dX1_carry_16 : decode cX1_carry 16 = .ok (.iaload, 1) := by decide +kernel
theorem dX1_carry_17 : decode cX1_carry 17 = .ok (.iload_n 3, 1) := by decide +kernel
theorem dX1_carry_18 : decode cX1_carry 18 = .ok (.iadd, 1) := by decide +kernel
theorem dX1_carry_19 : decode cX1_carry 19 = .ok (.iastore, 1) := by decide +kernel
theorem dX1_carry_20 : decode cX1_carry 20 = .ok (.aload_n 0, 1) := by decide +kernel
theorem dX1_carry_21 : decode cX1_carry 21 = .ok (.getfield 15, 3) := by decide +kernel
theorem dX1_carry_24 : decode cX1_carry 24 = .ok (.iload_n 1, 1) := by decide +kernel
theorem dX1_carry_25 : decode cX1_carry 25 = .ok (.aload_n 0, 1) := by decide +kernel
theorem dX1_carry_26 : decode cX1_carry 26 = .ok (.getfield 15, 3) := by decide +kernel
theorem dX1_carry_29 : decode cX1_carry 29 = .ok (.iload_n 1, 1) := by decide +kernel
theorem dX1_carry_30 : decode cX1_carry 30 = .ok (.iaload, 1) := by decide +kernel
theorem dX1_carry_31 : decode cX1_carry 31 = .ok (.aload_n 0, 1) := by decide +kernel
theorem dX1_carry_32 : decode cX1_carry 32 = .ok (.getfield 9, 3) := by decide +kernel
theorem dX1_carry_35 : decode cX1_carry 35 = .ok (.iload_n 1, 1) := by decide +kernel
theorem dX1_carry_36 : decode cX1_carry 36 = .ok (.iaload, 1) := by decide +kernel
theorem dX1_carry_37 : decode cX1_carry 37 = .ok (.invokestatic 54, 3) := by decide +kernel
theorem dX1_carry_40 : decode cX1_carry 40 = .ok (.iastore, 1) := by decide +kernel
theorem dX1_carry_41 : decode cX1_carry 41 = .ok (.return_, 1) := by decide +kernel
theorem dX1_bringNearer_0 : decode cX1_bringNearer 0 = .ok (.aload_n 0, 1) := by decide +kernel
theorem dX1_bringNearer_1 : decode cX1_bringNearer 1 = .ok (.getfield 18, 3) := by decide +kernel
theorem dX1_bringNearer_4 : decode cX1_bringNearer 4 = .ok (.iload_n 1, 1) := by decide +kernel
theorem dX1_bringNearer_5 : decode cX1_bringNearer 5 = .ok (.aload_n 0, 1) := by decide +kernel
theorem dX1_bringNearer_6 : decode cX1_bringNearer 6 = .ok (.getfield 18, 3) := by decide +kernel
theorem dX1_bringNearer_9 : decode cX1_bringNearer 9 = .ok (.iload_n 1, 1) := by decide +kernel
theorem dX1_bringNearer_10 : decode cX1_bringNearer 10 = .ok (.iaload, 1) := by decide +kernel
theorem dX1_bringNearer_11 : decode cX1_bringNearer 11 = .ok (.iload_n 2, 1) := by decide +kernel
theorem dX1_bringNearer_12 : decode cX1_bringNearer 12 = .ok (.isub, 1) := by decide +kernel
theorem dX1_bringNearer_13 : decode cX1_bringNearer 13 = .ok (.iconst 0, 1) := by decide +kernel
theorem dX1_bringNearer_14 : decode cX1_bringNearer 14 = .ok (.invokestatic 60, 3) := by decide +kernel
theorem dX1_bringNearer_17 : decode cX1_bringNearer 17 = .ok (.iastore, 1) := by decide +kernel
theorem dX1_bringNearer_18 : decode cX1_bringNearer 18 = .ok (.return_, 1) := by decide +kernel
theorem dX1_passYear_0 : decode cX1_passYear 0 = .ok (.aload_n 0, 1) := by decide +kernel
theorem dX1_passYear_1 : decode cX1_passYear 1 = .ok (.getfield 21, 3) := by decide +kernel
theorem dX1_passYear_4 : decode cX1_passYear 4 = .ok (.iconst 0, 1) := by decide +kernel
theorem dX1_passYear_5 : decode cX1_passYear 5 = .ok (.invokestatic 38, 3) := by decide +kernel
theorem dX1_passYear_8 : decode cX1_passYear 8 = .ok (.iconst 0, 1) := by decide +kernel
theorem dX1_passYear_9 : decode cX1_passYear 9 = .ok (.istore_n 3, 1) := by decide +kernel
theorem dX1_passYear_10 : decode cX1_passYear 10 = .ok (.iload_n 3, 1) := by decide +kernel
theorem dX1_passYear_11 : decode cX1_passYear 11 = .ok (.aload_n 1, 1) := by decide +kernel
theorem dX1_passYear_12 : decode cX1_passYear 12 = .ok (.getfield 63, 3) := by decide +kernel
theorem dX1_passYear_15 : decode cX1_passYear 15 = .ok (.if_icmp .ge 85, 3) := by decide +kernel
theorem dX1_passYear_18 : decode cX1_passYear 18 = .ok (.aload_n 1, 1) := by decide +kernel
theorem dX1_passYear_19 : decode cX1_passYear 19 = .ok (.getfield 66, 3) := by decide +kernel
theorem dX1_passYear_22 : decode cX1_passYear 22 = .ok (.iload_n 3, 1) := by decide +kernel
theorem dX1_passYear_23 : decode cX1_passYear 23 = .ok (.iaload, 1) := by decide +kernel
theorem dX1_passYear_24 : decode cX1_passYear 24 = .ok (.iconst 1, 1) := by decide +kernel
theorem dX1_passYear_25 : decode cX1_passYear 25 = .ok (.if_icmp .ne 8, 3) := by decide +kernel
theorem dX1_passYear_28 : decode cX1_passYear 28 = .ok (.aload_n 0, 1) := by decide +kernel
theorem dX1_passYear_29 : decode cX1_passYear 29 = .ok (.iload_n 3, 1) := by decide +kernel
theorem dX1_passYear_30 : decode cX1_passYear 30 = .ok (.invokevirtual 69, 3) := by decide +kernel
theorem dX1_passYear_33 : decode cX1_passYear 33 = .ok (.aload_n 0, 1) := by decide +kernel
theorem dX1_passYear_34 : decode cX1_passYear 34 = .ok (.iload_n 3, 1) := by decide +kernel
theorem dX1_passYear_35 : decode cX1_passYear 35 = .ok (.invokevirtual 73, 3) := by decide +kernel
theorem dX1_passYear_38 : decode cX1_passYear 38 = .ok (.ifCond .eq 18, 3) := by decide +kernel
theorem dX1_passYear_41 : decode cX1_passYear 41 = .ok (.aload_n 0, 1) := by decide +kernel
theorem dX1_passYear_42 : decode cX1_passYear 42 = .ok (.iload_n 3, 1) := by decide +kernel
theorem dX1_passYear_43 : decode cX1_passYear 43 = .ok (.aload_n 1, 1) := by decide +kernel
theorem dX1_passYear_44 : decode cX1_passYear 44 = .ok (.getfield 77, 3) := by decide +kernel
theorem dX1_passYear_47 : decode cX1_passYear 47 = .ok (.iload_n 3, 1) := by decide +kernel
theorem dX1_passYear_48 : decode cX1_passYear 48 = .ok (.iaload, 1) := by decide +kernel
theorem dX1_passYear_49 : decode cX1_passYear 49 = .ok (.iconst 0, 1) := by decide +kernel
theorem dX1_passYear_50 : decode cX1_passYear 50 = .ok (.invokevirtual 80, 3) := by decide +kernel
theorem dX1_passYear_53 : decode cX1_passYear 53 = .ok (.goto 41, 3) := by decide +kernel
theorem dX1_passYear_56 : decode cX1_passYear 56 = .ok (.aload_n 0, 1) := by decide +kernel
theorem dX1_passYear_57 : decode cX1_passYear 57 = .ok (.getfield 9, 3) := by decide +kernel
theorem dX1_passYear_60 : decode cX1_passYear 60 = .ok (.iload_n 3, 1) := by decide +kernel
theorem dX1_passYear_61 : decode cX1_passYear 61 = .ok (.dup2, 1) := by decide +kernel
theorem dX1_passYear_62 : decode cX1_passYear 62 = .ok (.iaload, 1) := by decide +kernel
theorem dX1_passYear_63 : decode cX1_passYear 63 = .ok (.aload_n 0, 1) := by decide +kernel
theorem dX1_passYear_64 : decode cX1_passYear 64 = .ok (.aload_n 1, 1) := by decide +kernel
theorem dX1_passYear_65 : decode cX1_passYear 65 = .ok (.getfield 66, 3) := by decide +kernel
theorem dX1_passYear_68 : decode cX1_passYear 68 = .ok (.iload_n 3, 1) := by decide +kernel
theorem dX1_passYear_69 : decode cX1_passYear 69 = .ok (.iaload, 1) := by decide +kernel
theorem dX1_passYear_70 : decode cX1_passYear 70 = .ok (.iload_n 3, 1) := by decide +kernel
theorem dX1_passYear_71 : decode cX1_passYear 71 = .ok (.iload_n 2, 1) := by decide +kernel
theorem dX1_passYear_72 : decode cX1_passYear 72 = .ok (.invokevirtual 84, 3) := by decide +kernel
theorem dX1_passYear_75 : decode cX1_passYear 75 = .ok (.iadd, 1) := by decide +kernel
theorem dX1_passYear_76 : decode cX1_passYear 76 = .ok (.iastore, 1) := by decide +kernel
theorem dX1_passYear_77 : decode cX1_passYear 77 = .ok (.aload_n 0, 1) := by decide +kernel
theorem dX1_passYear_78 : decode cX1_passYear 78 = .ok (.iload_n 3, 1) := by decide +kernel
theorem dX1_passYear_79 : decode cX1_passYear 79 = .ok (.aload_n 1, 1) := by decide +kernel
theorem dX1_passYear_80 : decode cX1_passYear 80 = .ok (.getfield 77, 3) := by decide +kernel
theorem dX1_passYear_83 : decode cX1_passYear 83 = .ok (.iload_n 3, 1) := by decide +kernel
theorem dX1_passYear_84 : decode cX1_passYear 84 = .ok (.iaload, 1) := by decide +kernel
theorem dX1_passYear_85 : decode cX1_passYear 85 = .ok (.aload_n 1, 1) := by decide +kernel
theorem dX1_passYear_86 : decode cX1_passYear 86 = .ok (.getfield 88, 3) := by decide +kernel
theorem dX1_passYear_89 : decode cX1_passYear 89 = .ok (.iload_n 3, 1) := by decide +kernel
theorem dX1_passYear_90 : decode cX1_passYear 90 = .ok (.iaload, 1) := by decide +kernel
theorem dX1_passYear_91 : decode cX1_passYear 91 = .ok (.invokevirtual 80, 3) := by decide +kernel
theorem dX1_passYear_94 : decode cX1_passYear 94 = .ok (.iinc 3 1, 3) := by decide +kernel
theorem dX1_passYear_97 : decode cX1_passYear 97 = .ok (.goto (-87), 3) := by decide +kernel
theorem dX1_passYear_100 : decode cX1_passYear 100 = .ok (.iconst 0, 1) := by decide +kernel
theorem dX1_passYear_101 : decode cX1_passYear 101 = .ok (.istore_n 3, 1) := by decide +kernel
theorem dX1_passYear_102 : decode cX1_passYear 102 = .ok (.iload_n 3, 1) := by decide +kernel
theorem dX1_passYear_103 : decode cX1_passYear 103 = .ok (.aload_n 1, 1) := by decide +kernel
theorem dX1_passYear_104 : decode cX1_passYear 104 = .ok (.getfield 63, 3) := by decide +kernel
theorem dX1_passYear_107 : decode cX1_passYear 107 = .ok (.if_icmp .ge 34, 3) := by decide +kernel
theorem dX1_passYear_110 : decode cX1_passYear 110 = .ok (.aload_n 0, 1) := by decide +kernel
theorem dX1_passYear_111 : decode cX1_passYear 111 = .ok (.iload_n 3, 1) := by decide +kernel
theorem dX1_passYear_112 : decode cX1_passYear 112 = .ok (.invokevirtual 73, 3) := by decide +kernel
theorem dX1_passYear_115 : decode cX1_passYear 115 = .ok (.ifCond .ne 20, 3) := by decide +kernel
theorem dX1_passYear_118 : decode cX1_passYear 118 = .ok (.aload_n 0, 1) := by decide +kernel
theorem dX1_passYear_119 : decode cX1_passYear 119 = .ok (.iload_n 3, 1) := by decide +kernel
theorem dX1_passYear_120 : decode cX1_passYear 120 = .ok (.aload_n 1, 1) := by decide +kernel
theorem dX1_passYear_121 : decode cX1_passYear 121 = .ok (.getfield 77, 3) := by decide +kernel
theorem dX1_passYear_124 : decode cX1_passYear 124 = .ok (.iload_n 3, 1) := by decide +kernel
theorem dX1_passYear_125 : decode cX1_passYear 125 = .ok (.iaload, 1) := by decide +kernel
theorem dX1_passYear_126 : decode cX1_passYear 126 = .ok (.aload_n 1, 1) := by decide +kernel
theorem dX1_passYear_127 : decode cX1_passYear 127 = .ok (.getfield 88, 3) := by decide +kernel
theorem dX1_passYear_130 : decode cX1_passYear 130 = .ok (.iload_n 3, 1) := by decide +kernel
theorem dX1_passYear_131 : decode cX1_passYear 131 = .ok (.iaload, 1) := by decide +kernel
theorem dX1_passYear_132 : decode cX1_passYear 132 = .ok (.invokevirtual 91, 3) := by decide +kernel
theorem dX1_passYear_135 : decode cX1_passYear 135 = .ok (.iinc 3 1, 3) := by decide +kernel
theorem dX1_passYear_138 : decode cX1_passYear 138 = .ok (.goto (-36), 3) := by decide +kernel
theorem dX1_passYear_141 : decode cX1_passYear 141 = .ok (.iconst 0, 1) := by decide +kernel
theorem dX1_passYear_142 : decode cX1_passYear 142 = .ok (.istore_n 3, 1) := by decide +kernel
theorem dX1_passYear_143 : decode cX1_passYear 143 = .ok (.iload_n 3, 1) := by decide +kernel
theorem dX1_passYear_144 : decode cX1_passYear 144 = .ok (.aload_n 1, 1) := by decide +kernel
theorem dX1_passYear_145 : decode cX1_passYear 145 = .ok (.getfield 94, 3) := by decide +kernel
theorem dX1_passYear_148 : decode cX1_passYear 148 = .ok (.if_icmp .ge 24, 3) := by decide +kernel
theorem dX1_passYear_151 : decode cX1_passYear 151 = .ok (.aload_n 0, 1) := by decide +kernel
theorem dX1_passYear_152 : decode cX1_passYear 152 = .ok (.dup, 1) := by decide +kernel
theorem dX1_passYear_153 : decode cX1_passYear 153 = .ok (.getfield 48, 3) := by decide +kernel
theorem dX1_passYear_156 : decode cX1_passYear 156 = .ok (.aload_n 0, 1) := by decide +kernel
theorem dX1_passYear_157 : decode cX1_passYear 157 = .ok (.getfield 21, 3) := by decide +kernel
theorem dX1_passYear_160 : decode cX1_passYear 160 = .ok (.iload_n 3, 1) := by decide +kernel
theorem dX1_passYear_161 : decode cX1_passYear 161 = .ok (.iaload, 1) := by decide +kernel
theorem dX1_passYear_162 : decode cX1_passYear 162 = .ok (.iadd, 1) := by decide +kernel
theorem dX1_passYear_163 : decode cX1_passYear 163 = .ok (.putfield 48, 3) := by decide +kernel
theorem dX1_passYear_166 : decode cX1_passYear 166 = .ok (.iinc 3 1, 3) := by decide +kernel
theorem dX1_passYear_169 : decode cX1_passYear 169 = .ok (.goto (-26), 3) := by decide +kernel
theorem dX1_passYear_172 : decode cX1_passYear 172 = .ok (.iconst 0, 1) := by decide +kernel
theorem dX1_passYear_173 : decode cX1_passYear 173 = .ok (.istore_n 3, 1) := by decide +kernel
theorem dX1_passYear_174 : decode cX1_passYear 174 = .ok (.iload_n 3, 1) := by decide +kernel
theorem dX1_passYear_175 : decode cX1_passYear 175 = .ok (.aload_n 1, 1) := by decide +kernel
theorem dX1_passYear_176 : decode cX1_passYear 176 = .ok (.getfield 63, 3) := by decide +kernel
theorem dX1_passYear_179 : decode cX1_passYear 179 = .ok (.if_icmp .ge 90, 3) := by decide +kernel
theorem dX1_passYear_182 : decode cX1_passYear 182 = .ok (.iload_n 2, 1) := by decide +kernel
theorem dX1_passYear_183 : decode cX1_passYear 183 = .ok (.bipush 8, 2) := by decide +kernel
theorem dX1_passYear_185 : decode cX1_passYear 185 = .ok (.if_icmp .lt 24, 3) := by decide +kernel
theorem dX1_passYear_188 : decode cX1_passYear 188 = .ok (.aload_n 0, 1) := by decide +kernel
theorem dX1_passYear_189 : decode cX1_passYear 189 = .ok (.iload_n 3, 1) := by decide +kernel
theorem dX1_passYear_190 : decode cX1_passYear 190 = .ok (.invokevirtual 73, 3) := by decide +kernel
theorem dX1_passYear_193 : decode cX1_passYear 193 = .ok (.ifCond .ne 16, 3) := by decide +kernel
theorem dX1_passYear_196 : decode cX1_passYear 196 = .ok (.aload_n 0, 1) := by decide +kernel
theorem dX1_passYear_197 : decode cX1_passYear 197 = .ok (.getfield 9, 3) := by decide +kernel
theorem dX1_passYear_200 : decode cX1_passYear 200 = .ok (.iload_n 3, 1) := by decide +kernel
theorem dX1_passYear_201 : decode cX1_passYear 201 = .ok (.iaload, 1) := by decide +kernel
theorem dX1_passYear_202 : decode cX1_passYear 202 = .ok (.ifCond .le 7, 3) := by decide +kernel
theorem dX1_passYear_205 : decode cX1_passYear 205 = .ok (.iconst 1, 1) := by decide +kernel
theorem dX1_passYear_206 : decode cX1_passYear 206 = .ok (.goto 4, 3) := by decide +kernel
theorem dX1_passYear_209 : decode cX1_passYear 209 = .ok (.iconst 0, 1) := by decide +kernel
theorem dX1_passYear_210 : decode cX1_passYear 210 = .ok (.istore 4, 2) := by decide +kernel
theorem dX1_passYear_212 : decode cX1_passYear 212 = .ok (.iload 4, 2) := by decide +kernel
theorem dX1_passYear_214 : decode cX1_passYear 214 = .ok (.ifCond .eq 28, 3) := by decide +kernel
theorem dX1_passYear_217 : decode cX1_passYear 217 = .ok (.aload_n 0, 1) := by decide +kernel
theorem dX1_passYear_218 : decode cX1_passYear 218 = .ok (.getfield 9, 3) := by decide +kernel
theorem dX1_passYear_221 : decode cX1_passYear 221 = .ok (.iload_n 3, 1) := by decide +kernel
theorem dX1_passYear_222 : decode cX1_passYear 222 = .ok (.iaload, 1) := by decide +kernel
theorem dX1_passYear_223 : decode cX1_passYear 223 = .ok (.aload_n 1, 1) := by decide +kernel
theorem dX1_passYear_224 : decode cX1_passYear 224 = .ok (.getfield 88, 3) := by decide +kernel
theorem dX1_passYear_227 : decode cX1_passYear 227 = .ok (.iload_n 3, 1) := by decide +kernel
theorem dX1_passYear_228 : decode cX1_passYear 228 = .ok (.iaload, 1) := by decide +kernel
theorem dX1_passYear_229 : decode cX1_passYear 229 = .ok (.if_icmp .ge 13, 3) := by decide +kernel
theorem dX1_passYear_232 : decode cX1_passYear 232 = .ok (.aload_n 0, 1) := by decide +kernel
theorem dX1_passYear_233 : decode cX1_passYear 233 = .ok (.getfield 9, 3) := by decide +kernel
theorem dX1_passYear_236 : decode cX1_passYear 236 = .ok (.iload_n 3, 1) := by decide +kernel
theorem dX1_passYear_237 : decode cX1_passYear 237 = .ok (.dup2, 1) := by decide +kernel
theorem dX1_passYear_238 : decode cX1_passYear 238 = .ok (.iaload, 1) := by decide +kernel
theorem dX1_passYear_239 : decode cX1_passYear 239 = .ok (.iconst 1, 1) := by decide +kernel
theorem dX1_passYear_240 : decode cX1_passYear 240 = .ok (.iadd, 1) := by decide +kernel
theorem dX1_passYear_241 : decode cX1_passYear 241 = .ok (.iastore, 1) := by decide +kernel
theorem dX1_passYear_242 : decode cX1_passYear 242 = .ok (.aload_n 0, 1) := by decide +kernel
theorem dX1_passYear_243 : decode cX1_passYear 243 = .ok (.getfield 15, 3) := by decide +kernel
theorem dX1_passYear_246 : decode cX1_passYear 246 = .ok (.iload_n 3, 1) := by decide +kernel
theorem dX1_passYear_247 : decode cX1_passYear 247 = .ok (.aload_n 0, 1) := by decide +kernel
theorem dX1_passYear_248 : decode cX1_passYear 248 = .ok (.getfield 15, 3) := by decide +kernel
theorem dX1_passYear_251 : decode cX1_passYear 251 = .ok (.iload_n 3, 1) := by decide +kernel
theorem dX1_passYear_252 : decode cX1_passYear 252 = .ok (.iaload, 1) := by decide +kernel
theorem dX1_passYear_253 : decode cX1_passYear 253 = .ok (.aload_n 0, 1) := by decide +kernel
theorem dX1_passYear_254 : decode cX1_passYear 254 = .ok (.getfield 9, 3) := by decide +kernel
theorem dX1_passYear_257 : decode cX1_passYear 257 = .ok (.iload_n 3, 1) := by decide +kernel
theorem dX1_passYear_258 : decode cX1_passYear 258 = .ok (.iaload, 1) := by decide +kernel
theorem dX1_passYear_259 : decode cX1_passYear 259 = .ok (.invokestatic 54, 3) := by decide +kernel
theorem dX1_passYear_262 : decode cX1_passYear 262 = .ok (.iastore, 1) := by decide +kernel
theorem dX1_passYear_263 : decode cX1_passYear 263 = .ok (.iinc 3 1, 3) := by decide +kernel
theorem dX1_passYear_266 : decode cX1_passYear 266 = .ok (.goto (-92), 3) := by decide +kernel
theorem dX1_passYear_269 : decode cX1_passYear 269 = .ok (.aload_n 0, 1) := by decide +kernel
theorem dX1_passYear_270 : decode cX1_passYear 270 = .ok (.dup, 1) := by decide +kernel
theorem dX1_passYear_271 : decode cX1_passYear 271 = .ok (.getfield 51, 3) := by decide +kernel
theorem dX1_passYear_274 : decode cX1_passYear 274 = .ok (.iconst 1, 1) := by decide +kernel
theorem dX1_passYear_275 : decode cX1_passYear 275 = .ok (.iadd, 1) := by decide +kernel
theorem dX1_passYear_276 : decode cX1_passYear 276 = .ok (.putfield 51, 3) := by decide +kernel
theorem dX1_passYear_279 : decode cX1_passYear 279 = .ok (.return_, 1) := by decide +kernel
theorem dX1_takeByCat_0 : decode cX1_takeByCat 0 = .ok (.aload_n 0, 1) := by decide +kernel
theorem dX1_takeByCat_1 : decode cX1_takeByCat 1 = .ok (.getfield 9, 3) := by decide +kernel
theorem dX1_takeByCat_4 : decode cX1_takeByCat 4 = .ok (.iload_n 1, 1) := by decide +kernel
theorem dX1_takeByCat_5 : decode cX1_takeByCat 5 = .ok (.iaload, 1) := by decide +kernel
theorem dX1_takeByCat_6 : decode cX1_takeByCat 6 = .ok (.iconst 3, 1) := by decide +kernel
theorem dX1_takeByCat_7 : decode cX1_takeByCat 7 = .ok (.idiv, 1) := by decide +kernel
theorem dX1_takeByCat_8 : decode cX1_takeByCat 8 = .ok (.istore_n 2, 1) := by decide +kernel
theorem dX1_takeByCat_9 : decode cX1_takeByCat 9 = .ok (.aload_n 0, 1) := by decide +kernel
theorem dX1_takeByCat_10 : decode cX1_takeByCat 10 = .ok (.getfield 9, 3) := by decide +kernel
theorem dX1_takeByCat_13 : decode cX1_takeByCat 13 = .ok (.iload_n 1, 1) := by decide +kernel
theorem dX1_takeByCat_14 : decode cX1_takeByCat 14 = .ok (.dup2, 1) := by decide +kernel
theorem dX1_takeByCat_15 : decode cX1_takeByCat 15 = .ok (.iaload, 1) := by decide +kernel
theorem dX1_takeByCat_16 : decode cX1_takeByCat 16 = .ok (.iload_n 2, 1) := by decide +kernel
theorem dX1_takeByCat_17 : decode cX1_takeByCat 17 = .ok (.isub, 1) := by decide +kernel
theorem dX1_takeByCat_18 : decode cX1_takeByCat 18 = .ok (.iastore, 1) := by decide +kernel
theorem dX1_takeByCat_19 : decode cX1_takeByCat 19 = .ok (.aload_n 0, 1) := by decide +kernel
theorem dX1_takeByCat_20 : decode cX1_takeByCat 20 = .ok (.dup, 1) := by decide +kernel
theorem dX1_takeByCat_21 : decode cX1_takeByCat 21 = .ok (.getfield 48, 3) := by decide +kernel
theorem dX1_takeByCat_24 : decode cX1_takeByCat 24 = .ok (.iload_n 2, 1) := by decide +kernel
theorem dX1_takeByCat_25 : decode cX1_takeByCat 25 = .ok (.iadd, 1) := by decide +kernel
theorem dX1_takeByCat_26 : decode cX1_takeByCat 26 = .ok (.putfield 48, 3) := by decide +kernel
theorem dX1_takeByCat_29 : decode cX1_takeByCat 29 = .ok (.return_, 1) := by decide +kernel
theorem dX1_youngOf_0 : decode cX1_youngOf 0 = .ok (.aload_n 0, 1) := by decide +kernel
theorem dX1_youngOf_1 : decode cX1_youngOf 1 = .ok (.getfield 9, 3) := by decide +kernel
theorem dX1_youngOf_4 : decode cX1_youngOf 4 = .ok (.iload_n 2, 1) := by decide +kernel
theorem dX1_youngOf_5 : decode cX1_youngOf 5 = .ok (.iaload, 1) := by decide +kernel
theorem dX1_youngOf_6 : decode cX1_youngOf 6 = .ok (.iload_n 3, 1) := by decide +kernel
theorem dX1_youngOf_7 : decode cX1_youngOf 7 = .ok (.aload_n 0, 1) := by decide +kernel
theorem dX1_youngOf_8 : decode cX1_youngOf 8 = .ok (.getfield 18, 3) := by decide +kernel
theorem dX1_youngOf_11 : decode cX1_youngOf 11 = .ok (.iload_n 2, 1) := by decide +kernel
theorem dX1_youngOf_12 : decode cX1_youngOf 12 = .ok (.iaload, 1) := by decide +kernel
theorem dX1_youngOf_13 : decode cX1_youngOf 13 = .ok (.isub, 1) := by decide +kernel
theorem dX1_youngOf_14 : decode cX1_youngOf 14 = .ok (.iconst 0, 1) := by decide +kernel
theorem dX1_youngOf_15 : decode cX1_youngOf 15 = .ok (.invokestatic 60, 3) := by decide +kernel
theorem dX1_youngOf_18 : decode cX1_youngOf 18 = .ok (.imul, 1) := by decide +kernel
theorem dX1_youngOf_19 : decode cX1_youngOf 19 = .ok (.bipush 10, 2) := by decide +kernel
theorem dX1_youngOf_21 : decode cX1_youngOf 21 = .ok (.idiv, 1) := by decide +kernel
theorem dX1_youngOf_22 : decode cX1_youngOf 22 = .ok (.istore 4, 2) := by decide +kernel
theorem dX1_youngOf_24 : decode cX1_youngOf 24 = .ok (.iload_n 1, 1) := by decide +kernel
theorem dX1_youngOf_25 : decode cX1_youngOf 25 = .ok (.lookupswitch 37 #[(2, 27), (3, 29)], 27) := by decide +kernel
theorem dX1_youngOf_52 : decode cX1_youngOf 52 = .ok (.iconst 0, 1) := by decide +kernel
theorem dX1_youngOf_53 : decode cX1_youngOf 53 = .ok (.ireturn, 1) := by decide +kernel
theorem dX1_youngOf_54 : decode cX1_youngOf 54 = .ok (.iload 4, 2) := by decide +kernel
theorem dX1_youngOf_56 : decode cX1_youngOf 56 = .ok (.iload 4, 2) := by decide +kernel
theorem dX1_youngOf_58 : decode cX1_youngOf 58 = .ok (.iconst 2, 1) := by decide +kernel
theorem dX1_youngOf_59 : decode cX1_youngOf 59 = .ok (.idiv, 1) := by decide +kernel
theorem dX1_youngOf_60 : decode cX1_youngOf 60 = .ok (.iadd, 1) := by decide +kernel
theorem dX1_youngOf_61 : decode cX1_youngOf 61 = .ok (.ireturn, 1) := by decide +kernel
theorem dX1_youngOf_62 : decode cX1_youngOf 62 = .ok (.iload 4, 2) := by decide +kernel
theorem dX1_youngOf_64 : decode cX1_youngOf 64 = .ok (.ireturn, 1) := by decide +kernel
theorem dX1_turnOut_0 : decode cX1_turnOut 0 = .ok (.aload_n 0, 1) := by decide +kernel
theorem dX1_turnOut_1 : decode cX1_turnOut 1 = .ok (.getfield 9, 3) := by decide +kernel
theorem dX1_turnOut_4 : decode cX1_turnOut 4 = .ok (.iload_n 1, 1) := by decide +kernel
theorem dX1_turnOut_5 : decode cX1_turnOut 5 = .ok (.iaload, 1) := by decide +kernel
theorem dX1_turnOut_6 : decode cX1_turnOut 6 = .ok (.iload_n 3, 1) := by decide +kernel
theorem dX1_turnOut_7 : decode cX1_turnOut 7 = .ok (.isub, 1) := by decide +kernel
theorem dX1_turnOut_8 : decode cX1_turnOut 8 = .ok (.iconst 0, 1) := by decide +kernel
theorem dX1_turnOut_9 : decode cX1_turnOut 9 = .ok (.invokestatic 60, 3) := by decide +kernel
theorem dX1_turnOut_12 : decode cX1_turnOut 12 = .ok (.istore 4, 2) := by decide +kernel
theorem dX1_turnOut_14 : decode cX1_turnOut 14 = .ok (.aload_n 0, 1) := by decide +kernel
theorem dX1_turnOut_15 : decode cX1_turnOut 15 = .ok (.getfield 9, 3) := by decide +kernel
theorem dX1_turnOut_18 : decode cX1_turnOut 18 = .ok (.iload_n 1, 1) := by decide +kernel
theorem dX1_turnOut_19 : decode cX1_turnOut 19 = .ok (.dup2, 1) := by decide +kernel
theorem dX1_turnOut_20 : decode cX1_turnOut 20 = .ok (.iaload, 1) := by decide +kernel
theorem dX1_turnOut_21 : decode cX1_turnOut 21 = .ok (.iload 4, 2) := by decide +kernel
theorem dX1_turnOut_23 : decode cX1_turnOut 23 = .ok (.isub, 1) := by decide +kernel
theorem dX1_turnOut_24 : decode cX1_turnOut 24 = .ok (.iastore, 1) := by decide +kernel
theorem dX1_turnOut_25 : decode cX1_turnOut 25 = .ok (.aload_n 0, 1) := by decide +kernel
theorem dX1_turnOut_26 : decode cX1_turnOut 26 = .ok (.getfield 21, 3) := by decide +kernel
theorem dX1_turnOut_29 : decode cX1_turnOut 29 = .ok (.iload_n 2, 1) := by decide +kernel
theorem dX1_turnOut_30 : decode cX1_turnOut 30 = .ok (.dup2, 1) := by decide +kernel
theorem dX1_turnOut_31 : decode cX1_turnOut 31 = .ok (.iaload, 1) := by decide +kernel
theorem dX1_turnOut_32 : decode cX1_turnOut 32 = .ok (.iload 4, 2) := by decide +kernel
theorem dX1_turnOut_34 : decode cX1_turnOut 34 = .ok (.iadd, 1) := by decide +kernel
theorem dX1_turnOut_35 : decode cX1_turnOut 35 = .ok (.iastore, 1) := by decide +kernel
theorem dX1_turnOut_36 : decode cX1_turnOut 36 = .ok (.return_, 1) := by decide +kernel
theorem dX1_takeIn_0 : decode cX1_takeIn 0 = .ok (.aload_n 0, 1) := by decide +kernel
theorem dX1_takeIn_1 : decode cX1_takeIn 1 = .ok (.getfield 21, 3) := by decide +kernel
theorem dX1_takeIn_4 : decode cX1_takeIn 4 = .ok (.iload_n 2, 1) := by decide +kernel
theorem dX1_takeIn_5 : decode cX1_takeIn 5 = .ok (.iaload, 1) := by decide +kernel
theorem dX1_takeIn_6 : decode cX1_takeIn 6 = .ok (.iload_n 3, 1) := by decide +kernel
theorem dX1_takeIn_7 : decode cX1_takeIn 7 = .ok (.aload_n 0, 1) := by decide +kernel
theorem dX1_takeIn_8 : decode cX1_takeIn 8 = .ok (.getfield 9, 3) := by decide +kernel
theorem dX1_takeIn_11 : decode cX1_takeIn 11 = .ok (.iload_n 1, 1) := by decide +kernel
theorem dX1_takeIn_12 : decode cX1_takeIn 12 = .ok (.iaload, 1) := by decide +kernel
theorem dX1_takeIn_13 : decode cX1_takeIn 13 = .ok (.isub, 1) := by decide +kernel
theorem dX1_takeIn_14 : decode cX1_takeIn 14 = .ok (.invokestatic 54, 3) := by decide +kernel
theorem dX1_takeIn_17 : decode cX1_takeIn 17 = .ok (.istore 4, 2) := by decide +kernel
theorem dX1_takeIn_19 : decode cX1_takeIn 19 = .ok (.aload_n 0, 1) := by decide +kernel
theorem dX1_takeIn_20 : decode cX1_takeIn 20 = .ok (.getfield 9, 3) := by decide +kernel
theorem dX1_takeIn_23 : decode cX1_takeIn 23 = .ok (.iload_n 1, 1) := by decide +kernel
theorem dX1_takeIn_24 : decode cX1_takeIn 24 = .ok (.dup2, 1) := by decide +kernel
theorem dX1_takeIn_25 : decode cX1_takeIn 25 = .ok (.iaload, 1) := by decide +kernel
theorem dX1_takeIn_26 : decode cX1_takeIn 26 = .ok (.iload 4, 2) := by decide +kernel
theorem dX1_takeIn_28 : decode cX1_takeIn 28 = .ok (.iadd, 1) := by decide +kernel
theorem dX1_takeIn_29 : decode cX1_takeIn 29 = .ok (.iastore, 1) := by decide +kernel
theorem dX1_takeIn_30 : decode cX1_takeIn 30 = .ok (.aload_n 0, 1) := by decide +kernel
theorem dX1_takeIn_31 : decode cX1_takeIn 31 = .ok (.getfield 21, 3) := by decide +kernel
theorem dX1_takeIn_34 : decode cX1_takeIn 34 = .ok (.iload_n 2, 1) := by decide +kernel
theorem dX1_takeIn_35 : decode cX1_takeIn 35 = .ok (.dup2, 1) := by decide +kernel
theorem dX1_takeIn_36 : decode cX1_takeIn 36 = .ok (.iaload, 1) := by decide +kernel
theorem dX1_takeIn_37 : decode cX1_takeIn 37 = .ok (.iload 4, 2) := by decide +kernel
theorem dX1_takeIn_39 : decode cX1_takeIn 39 = .ok (.isub, 1) := by decide +kernel
theorem dX1_takeIn_40 : decode cX1_takeIn 40 = .ok (.iastore, 1) := by decide +kernel
theorem dX1_takeIn_41 : decode cX1_takeIn 41 = .ok (.return_, 1) := by decide +kernel
theorem dX2_init_0 : decode cX2_init 0 = .ok (.aload_n 0, 1) := by decide +kernel
theorem dX2_init_1 : decode cX2_init 1 = .ok (.invokespecial 3, 3) := by decide +kernel
theorem dX2_init_4 : decode cX2_init 4 = .ok (.aload_n 0, 1) := by decide +kernel
theorem dX2_init_5 : decode cX2_init 5 = .ok (.new 9, 3) := by decide +kernel
theorem dX2_init_8 : decode cX2_init 8 = .ok (.dup, 1) := by decide +kernel
theorem dX2_init_9 : decode cX2_init 9 = .ok (.bipush 20, 2) := by decide +kernel
theorem dX2_init_11 : decode cX2_init 11 = .ok (.invokespecial 11, 3) := by decide +kernel
theorem dX2_init_14 : decode cX2_init 14 = .ok (.putfield 14, 3) := by decide +kernel
theorem dX2_init_17 : decode cX2_init 17 = .ok (.return_, 1) := by decide +kernel
theorem dX2_clear_0 : decode cX2_clear 0 = .ok (.aload_n 0, 1) := by decide +kernel
theorem dX2_clear_1 : decode cX2_clear 1 = .ok (.iconst 0, 1) := by decide +kernel
theorem dX2_clear_2 : decode cX2_clear 2 = .ok (.putfield 20, 3) := by decide +kernel
theorem dX2_clear_5 : decode cX2_clear 5 = .ok (.return_, 1) := by decide +kernel
theorem dX2_remember_0 : decode cX2_remember 0 = .ok (.aload_n 0, 1) := by decide +kernel
theorem dX2_remember_1 : decode cX2_remember 1 = .ok (.getfield 14, 3) := by decide +kernel
theorem dX2_remember_4 : decode cX2_remember 4 = .ok (.aload_n 0, 1) := by decide +kernel
theorem dX2_remember_5 : decode cX2_remember 5 = .ok (.getfield 24, 3) := by decide +kernel
theorem dX2_remember_8 : decode cX2_remember 8 = .ok (.aload_n 1, 1) := by decide +kernel
theorem dX2_remember_9 : decode cX2_remember 9 = .ok (.invokevirtual 27, 3) := by decide +kernel
theorem dX2_remember_12 : decode cX2_remember 12 = .ok (.aload_n 0, 1) := by decide +kernel
theorem dX2_remember_13 : decode cX2_remember 13 = .ok (.aload_n 0, 1) := by decide +kernel
theorem dX2_remember_14 : decode cX2_remember 14 = .ok (.getfield 24, 3) := by decide +kernel
theorem dX2_remember_17 : decode cX2_remember 17 = .ok (.iconst 1, 1) := by decide +kernel
theorem dX2_remember_18 : decode cX2_remember 18 = .ok (.iadd, 1) := by decide +kernel
theorem dX2_remember_19 : decode cX2_remember 19 = .ok (.bipush 20, 2) := by decide +kernel
theorem dX2_remember_21 : decode cX2_remember 21 = .ok (.irem, 1) := by decide +kernel
theorem dX2_remember_22 : decode cX2_remember 22 = .ok (.putfield 24, 3) := by decide +kernel
theorem dX2_remember_25 : decode cX2_remember 25 = .ok (.aload_n 0, 1) := by decide +kernel
theorem dX2_remember_26 : decode cX2_remember 26 = .ok (.aload_n 0, 1) := by decide +kernel
theorem dX2_remember_27 : decode cX2_remember 27 = .ok (.getfield 20, 3) := by decide +kernel
theorem dX2_remember_30 : decode cX2_remember 30 = .ok (.iconst 1, 1) := by decide +kernel
theorem dX2_remember_31 : decode cX2_remember 31 = .ok (.iadd, 1) := by decide +kernel
theorem dX2_remember_32 : decode cX2_remember 32 = .ok (.bipush 20, 2) := by decide +kernel
theorem dX2_remember_34 : decode cX2_remember 34 = .ok (.invokestatic 31, 3) := by decide +kernel
theorem dX2_remember_37 : decode cX2_remember 37 = .ok (.putfield 20, 3) := by decide +kernel
theorem dX2_remember_40 : decode cX2_remember 40 = .ok (.return_, 1) := by decide +kernel
theorem dX2_bringBack_0 : decode cX2_bringBack 0 = .ok (.aload_n 0, 1) := by decide +kernel
theorem dX2_bringBack_1 : decode cX2_bringBack 1 = .ok (.getfield 20, 3) := by decide +kernel
theorem dX2_bringBack_4 : decode cX2_bringBack 4 = .ok (.ifCond .ne 5, 3) := by decide +kernel
theorem dX2_bringBack_7 : decode cX2_bringBack 7 = .ok (.iconst 0, 1) := by decide +kernel
theorem dX2_bringBack_8 : decode cX2_bringBack 8 = .ok (.ireturn, 1) := by decide +kernel
theorem dX2_bringBack_9 : decode cX2_bringBack 9 = .ok (.aload_n 0, 1) := by decide +kernel
theorem dX2_bringBack_10 : decode cX2_bringBack 10 = .ok (.aload_n 0, 1) := by decide +kernel
theorem dX2_bringBack_11 : decode cX2_bringBack 11 = .ok (.getfield 24, 3) := by decide +kernel
theorem dX2_bringBack_14 : decode cX2_bringBack 14 = .ok (.bipush 20, 2) := by decide +kernel
theorem dX2_bringBack_16 : decode cX2_bringBack 16 = .ok (.iadd, 1) := by decide +kernel
theorem dX2_bringBack_17 : decode cX2_bringBack 17 = .ok (.iconst 1, 1) := by decide +kernel
theorem dX2_bringBack_18 : decode cX2_bringBack 18 = .ok (.isub, 1) := by decide +kernel
theorem dX2_bringBack_19 : decode cX2_bringBack 19 = .ok (.bipush 20, 2) := by decide +kernel
theorem dX2_bringBack_21 : decode cX2_bringBack 21 = .ok (.irem, 1) := by decide +kernel
theorem dX2_bringBack_22 : decode cX2_bringBack 22 = .ok (.putfield 24, 3) := by decide +kernel
theorem dX2_bringBack_25 : decode cX2_bringBack 25 = .ok (.aload_n 0, 1) := by decide +kernel
theorem dX2_bringBack_26 : decode cX2_bringBack 26 = .ok (.dup, 1) := by decide +kernel
theorem dX2_bringBack_27 : decode cX2_bringBack 27 = .ok (.getfield 20, 3) := by decide +kernel
theorem dX2_bringBack_30 : decode cX2_bringBack 30 = .ok (.iconst 1, 1) := by decide +kernel
theorem dX2_bringBack_31 : decode cX2_bringBack 31 = .ok (.isub, 1) := by decide +kernel
theorem dX2_bringBack_32 : decode cX2_bringBack 32 = .ok (.putfield 20, 3) := by decide +kernel
theorem dX2_bringBack_35 : decode cX2_bringBack 35 = .ok (.aload_n 0, 1) := by decide +kernel
theorem dX2_bringBack_36 : decode cX2_bringBack 36 = .ok (.getfield 14, 3) := by decide +kernel
theorem dX2_bringBack_39 : decode cX2_bringBack 39 = .ok (.aload_n 0, 1) := by decide +kernel
theorem dX2_bringBack_40 : decode cX2_bringBack 40 = .ok (.getfield 24, 3) := by decide +kernel
theorem dX2_bringBack_43 : decode cX2_bringBack 43 = .ok (.aload_n 1, 1) := by decide +kernel
theorem dX2_bringBack_44 : decode cX2_bringBack 44 = .ok (.invokevirtual 37, 3) := by decide +kernel
theorem dX2_bringBack_47 : decode cX2_bringBack 47 = .ok (.iconst 1, 1) := by decide +kernel
theorem dX2_bringBack_48 : decode cX2_bringBack 48 = .ok (.ireturn, 1) := by decide +kernel
theorem dX3_init_0 : decode cX3_init 0 = .ok (.aload_n 0, 1) := by decide +kernel
theorem dX3_init_1 : decode cX3_init 1 = .ok (.invokespecial 3, 3) := by decide +kernel
theorem dX3_init_4 : decode cX3_init 4 = .ok (.aload_n 0, 1) := by decide +kernel
theorem dX3_init_5 : decode cX3_init 5 = .ok (.bipush 8, 2) := by decide +kernel
theorem dX3_init_7 : decode cX3_init 7 = .ok (.newarray .int, 2) := by decide +kernel
theorem dX3_init_9 : decode cX3_init 9 = .ok (.putfield 9, 3) := by decide +kernel
theorem dX3_init_12 : decode cX3_init 12 = .ok (.aload_n 0, 1) := by decide +kernel
theorem dX3_init_13 : decode cX3_init 13 = .ok (.bipush 8, 2) := by decide +kernel
theorem dX3_init_15 : decode cX3_init 15 = .ok (.newarray .int, 2) := by decide +kernel
theorem dX3_init_17 : decode cX3_init 17 = .ok (.putfield 15, 3) := by decide +kernel
theorem dX3_init_20 : decode cX3_init 20 = .ok (.aload_n 0, 1) := by decide +kernel
theorem dX3_init_21 : decode cX3_init 21 = .ok (.bipush 8, 2) := by decide +kernel
theorem dX3_init_23 : decode cX3_init 23 = .ok (.newarray .int, 2) := by decide +kernel
theorem dX3_init_25 : decode cX3_init 25 = .ok (.putfield 18, 3) := by decide +kernel
theorem dX3_init_28 : decode cX3_init 28 = .ok (.aload_n 0, 1) := by decide +kernel
theorem dX3_init_29 : decode cX3_init 29 = .ok (.bipush 8, 2) := by decide +kernel
theorem dX3_init_31 : decode cX3_init 31 = .ok (.newarray .int, 2) := by decide +kernel
theorem dX3_init_33 : decode cX3_init 33 = .ok (.putfield 21, 3) := by decide +kernel
theorem dX3_init_36 : decode cX3_init 36 = .ok (.aload_n 0, 1) := by decide +kernel
theorem dX3_init_37 : decode cX3_init 37 = .ok (.bipush 8, 2) := by decide +kernel
theorem dX3_init_39 : decode cX3_init 39 = .ok (.newarray .int, 2) := by decide +kernel
theorem dX3_init_41 : decode cX3_init 41 = .ok (.putfield 24, 3) := by decide +kernel
theorem dX3_init_44 : decode cX3_init 44 = .ok (.aload_n 0, 1) := by decide +kernel
theorem dX3_init_45 : decode cX3_init 45 = .ok (.bipush 8, 2) := by decide +kernel
theorem dX3_init_47 : decode cX3_init 47 = .ok (.newarray .int, 2) := by decide +kernel
theorem dX3_init_49 : decode cX3_init 49 = .ok (.putfield 27, 3) := by decide +kernel
theorem dX3_init_52 : decode cX3_init 52 = .ok (.return_, 1) := by decide +kernel
theorem dX3_clear_0 : decode cX3_clear 0 = .ok (.aload_n 0, 1) := by decide +kernel
theorem dX3_clear_1 : decode cX3_clear 1 = .ok (.iconst 0, 1) := by decide +kernel
theorem dX3_clear_2 : decode cX3_clear 2 = .ok (.putfield 30, 3) := by decide +kernel
theorem dX3_clear_5 : decode cX3_clear 5 = .ok (.aload_n 0, 1) := by decide +kernel
theorem dX3_clear_6 : decode cX3_clear 6 = .ok (.iconst 0, 1) := by decide +kernel
theorem dX3_clear_7 : decode cX3_clear 7 = .ok (.putfield 34, 3) := by decide +kernel
theorem dX3_clear_10 : decode cX3_clear 10 = .ok (.aload_n 0, 1) := by decide +kernel
theorem dX3_clear_11 : decode cX3_clear 11 = .ok (.iconst 0, 1) := by decide +kernel
theorem dX3_clear_12 : decode cX3_clear 12 = .ok (.putfield 37, 3) := by decide +kernel
theorem dX3_clear_15 : decode cX3_clear 15 = .ok (.aload_n 0, 1) := by decide +kernel
theorem dX3_clear_16 : decode cX3_clear 16 = .ok (.iconst 0, 1) := by decide +kernel
theorem dX3_clear_17 : decode cX3_clear 17 = .ok (.putfield 40, 3) := by decide +kernel
theorem dX3_clear_20 : decode cX3_clear 20 = .ok (.aload_n 0, 1) := by decide +kernel
theorem dX3_clear_21 : decode cX3_clear 21 = .ok (.iconst 0, 1) := by decide +kernel
theorem dX3_clear_22 : decode cX3_clear 22 = .ok (.putfield 43, 3) := by decide +kernel
theorem dX3_clear_25 : decode cX3_clear 25 = .ok (.return_, 1) := by decide +kernel
theorem dX3_hasBarn_0 : decode cX3_hasBarn 0 = .ok (.iload_n 1, 1) := by decide +kernel
theorem dX3_hasBarn_1 : decode cX3_hasBarn 1 = .ok (.ifCond .lt 15, 3) := by decide +kernel
theorem dX3_hasBarn_4 : decode cX3_hasBarn 4 = .ok (.iload_n 1, 1) := by decide +kernel
theorem dX3_hasBarn_5 : decode cX3_hasBarn 5 = .ok (.aload_n 0, 1) := by decide +kernel
theorem dX3_hasBarn_6 : decode cX3_hasBarn 6 = .ok (.getfield 40, 3) := by decide +kernel
theorem dX3_hasBarn_9 : decode cX3_hasBarn 9 = .ok (.if_icmp .ge 7, 3) := by decide +kernel
theorem dX3_hasBarn_12 : decode cX3_hasBarn 12 = .ok (.iconst 1, 1) := by decide +kernel
theorem dX3_hasBarn_13 : decode cX3_hasBarn 13 = .ok (.goto 4, 3) := by decide +kernel
theorem dX3_hasBarn_16 : decode cX3_hasBarn 16 = .ok (.iconst 0, 1) := by decide +kernel
theorem dX3_hasBarn_17 : decode cX3_hasBarn 17 = .ok (.ireturn, 1) := by decide +kernel
theorem dX3_hasCounty_0 : decode cX3_hasCounty 0 = .ok (.iload_n 1, 1) := by decide +kernel
theorem dX3_hasCounty_1 : decode cX3_hasCounty 1 = .ok (.ifCond .lt 15, 3) := by decide +kernel
theorem dX3_hasCounty_4 : decode cX3_hasCounty 4 = .ok (.iload_n 1, 1) := by decide +kernel
theorem dX3_hasCounty_5 : decode cX3_hasCounty 5 = .ok (.aload_n 0, 1) := by decide +kernel
theorem dX3_hasCounty_6 : decode cX3_hasCounty 6 = .ok (.getfield 30, 3) := by decide +kernel
theorem dX3_hasCounty_9 : decode cX3_hasCounty 9 = .ok (.if_icmp .ge 7, 3) := by decide +kernel
theorem dX3_hasCounty_12 : decode cX3_hasCounty 12 = .ok (.iconst 1, 1) := by decide +kernel
theorem dX3_hasCounty_13 : decode cX3_hasCounty 13 = .ok (.goto 4, 3) := by decide +kernel
theorem dX3_hasCounty_16 : decode cX3_hasCounty 16 = .ok (.iconst 0, 1) := by decide +kernel
theorem dX3_hasCounty_17 : decode cX3_hasCounty 17 = .ok (.ireturn, 1) := by decide +kernel
theorem dX3_allBarns_0 : decode cX3_allBarns 0 = .ok (.iconst 1, 1) := by decide +kernel
theorem dX3_allBarns_1 : decode cX3_allBarns 1 = .ok (.aload_n 0, 1) := by decide +kernel
theorem dX3_allBarns_2 : decode cX3_allBarns 2 = .ok (.getfield 40, 3) := by decide +kernel
theorem dX3_allBarns_5 : decode cX3_allBarns 5 = .ok (.ishl, 1) := by decide +kernel
theorem dX3_allBarns_6 : decode cX3_allBarns 6 = .ok (.iconst 1, 1) := by decide +kernel
theorem dX3_allBarns_7 : decode cX3_allBarns 7 = .ok (.isub, 1) := by decide +kernel
theorem dX3_allBarns_8 : decode cX3_allBarns 8 = .ok (.ireturn, 1) := by decide +kernel
theorem dX3_barnsOf_0 : decode cX3_barnsOf 0 = .ok (.iconst 0, 1) := by decide +kernel
theorem dX3_barnsOf_1 : decode cX3_barnsOf 1 = .ok (.istore_n 2, 1) := by decide +kernel
theorem dX3_barnsOf_2 : decode cX3_barnsOf 2 = .ok (.iconst 0, 1) := by decide +kernel
theorem dX3_barnsOf_3 : decode cX3_barnsOf 3 = .ok (.istore_n 3, 1) := by decide +kernel
theorem dX3_barnsOf_4 : decode cX3_barnsOf 4 = .ok (.iload_n 3, 1) := by decide +kernel
theorem dX3_barnsOf_5 : decode cX3_barnsOf 5 = .ok (.aload_n 0, 1) := by decide +kernel
theorem dX3_barnsOf_6 : decode cX3_barnsOf 6 = .ok (.getfield 40, 3) := by decide +kernel
theorem dX3_barnsOf_9 : decode cX3_barnsOf 9 = .ok (.if_icmp .ge 25, 3) := by decide +kernel
theorem dX3_barnsOf_12 : decode cX3_barnsOf 12 = .ok (.aload_n 0, 1) := by decide +kernel
theorem dX3_barnsOf_13 : decode cX3_barnsOf 13 = .ok (.getfield 9, 3) := by decide +kernel
theorem dX3_barnsOf_16 : decode cX3_barnsOf 16 = .ok (.iload_n 3, 1) := by decide +kernel
theorem dX3_barnsOf_17 : decode cX3_barnsOf 17 = .ok (.iaload, 1) := by decide +kernel
theorem dX3_barnsOf_18 : decode cX3_barnsOf 18 = .ok (.iload_n 1, 1) := by decide +kernel
theorem dX3_barnsOf_19 : decode cX3_barnsOf 19 = .ok (.if_icmp .ne 9, 3) := by decide +kernel
theorem dX3_barnsOf_22 : decode cX3_barnsOf 22 = .ok (.iload_n 2, 1) := by decide +kernel
theorem dX3_barnsOf_23 : decode cX3_barnsOf 23 = .ok (.iconst 1, 1) := by decide +kernel
theorem dX3_barnsOf_24 : decode cX3_barnsOf 24 = .ok (.iload_n 3, 1) := by decide +kernel
theorem dX3_barnsOf_25 : decode cX3_barnsOf 25 = .ok (.ishl, 1) := by decide +kernel
theorem dX3_barnsOf_26 : decode cX3_barnsOf 26 = .ok (.ior, 1) := by decide +kernel
theorem dX3_barnsOf_27 : decode cX3_barnsOf 27 = .ok (.istore_n 2, 1) := by decide +kernel
theorem dX3_barnsOf_28 : decode cX3_barnsOf 28 = .ok (.iinc 3 1, 3) := by decide +kernel
theorem dX3_barnsOf_31 : decode cX3_barnsOf 31 = .ok (.goto (-27), 3) := by decide +kernel
theorem dX3_barnsOf_34 : decode cX3_barnsOf 34 = .ok (.iload_n 2, 1) := by decide +kernel
theorem dX3_barnsOf_35 : decode cX3_barnsOf 35 = .ok (.ireturn, 1) := by decide +kernel
theorem dX3_rainOf_0 : decode cX3_rainOf 0 = .ok (.aload_n 0, 1) := by decide +kernel
theorem dX3_rainOf_1 : decode cX3_rainOf 1 = .ok (.getfield 43, 3) := by decide +kernel
theorem dX3_rainOf_4 : decode cX3_rainOf 4 = .ok (.ifCond .le 21, 3) := by decide +kernel
theorem dX3_rainOf_7 : decode cX3_rainOf 7 = .ok (.iload_n 1, 1) := by decide +kernel
theorem dX3_rainOf_8 : decode cX3_rainOf 8 = .ok (.ifCond .lt 17, 3) := by decide +kernel
theorem dX3_rainOf_11 : decode cX3_rainOf 11 = .ok (.aload_n 0, 1) := by decide +kernel
theorem dX3_rainOf_12 : decode cX3_rainOf 12 = .ok (.getfield 27, 3) := by decide +kernel
theorem dX3_rainOf_15 : decode cX3_rainOf 15 = .ok (.iload_n 1, 1) := by decide +kernel
theorem dX3_rainOf_16 : decode cX3_rainOf 16 = .ok (.aload_n 0, 1) := by decide +kernel
theorem dX3_rainOf_17 : decode cX3_rainOf 17 = .ok (.getfield 43, 3) := by decide +kernel
theorem dX3_rainOf_20 : decode cX3_rainOf 20 = .ok (.irem, 1) := by decide +kernel
theorem dX3_rainOf_21 : decode cX3_rainOf 21 = .ok (.iaload, 1) := by decide +kernel
theorem dX3_rainOf_22 : decode cX3_rainOf 22 = .ok (.goto 4, 3) := by decide +kernel
theorem dX3_rainOf_25 : decode cX3_rainOf 25 = .ok (.iconst 5, 1) := by decide +kernel
theorem dX3_rainOf_26 : decode cX3_rainOf 26 = .ok (.ireturn, 1) := by decide +kernel
theorem dX3_seatsFor_0 : decode cX3_seatsFor 0 = .ok (.aload_n 0, 1) := by decide +kernel
theorem dX3_seatsFor_1 : decode cX3_seatsFor 1 = .ok (.getfield 34, 3) := by decide +kernel
theorem dX3_seatsFor_4 : decode cX3_seatsFor 4 = .ok (.ifCond .le 12, 3) := by decide +kernel
theorem dX3_seatsFor_7 : decode cX3_seatsFor 7 = .ok (.iload_n 1, 1) := by decide +kernel
theorem dX3_seatsFor_8 : decode cX3_seatsFor 8 = .ok (.aload_n 0, 1) := by decide +kernel
theorem dX3_seatsFor_9 : decode cX3_seatsFor 9 = .ok (.getfield 34, 3) := by decide +kernel
theorem dX3_seatsFor_12 : decode cX3_seatsFor 12 = .ok (.idiv, 1) := by decide +kernel
theorem dX3_seatsFor_13 : decode cX3_seatsFor 13 = .ok (.goto 4, 3) := by decide +kernel
theorem dX3_seatsFor_16 : decode cX3_seatsFor 16 = .ok (.iconst 0, 1) := by decide +kernel
theorem dX3_seatsFor_17 : decode cX3_seatsFor 17 = .ok (.ireturn, 1) := by decide +kernel
theorem dX3_menFor_0 : decode cX3_menFor 0 = .ok (.aload_n 0, 1) := by decide +kernel
theorem dX3_menFor_1 : decode cX3_menFor 1 = .ok (.getfield 37, 3) := by decide +kernel
theorem dX3_menFor_4 : decode cX3_menFor 4 = .ok (.ifCond .le 12, 3) := by decide +kernel
theorem dX3_menFor_7 : decode cX3_menFor 7 = .ok (.iload_n 1, 1) := by decide +kernel
theorem dX3_menFor_8 : decode cX3_menFor 8 = .ok (.aload_n 0, 1) := by decide +kernel
theorem dX3_menFor_9 : decode cX3_menFor 9 = .ok (.getfield 37, 3) := by decide +kernel
theorem dX3_menFor_12 : decode cX3_menFor 12 = .ok (.idiv, 1) := by decide +kernel
theorem dX3_menFor_13 : decode cX3_menFor 13 = .ok (.goto 4, 3) := by decide +kernel
theorem dX3_menFor_16 : decode cX3_menFor 16 = .ok (.iconst 0, 1) := by decide +kernel
theorem dX3_menFor_17 : decode cX3_menFor 17 = .ok (.ireturn, 1) := by decide +kernel
theorem dX4_init_0 : decode cX4_init 0 = .ok (.aload_n 0, 1) := by decide +kernel
theorem dX4_init_1 : decode cX4_init 1 = .ok (.invokespecial 5, 3) := by decide +kernel
theorem dX4_init_4 : decode cX4_init 4 = .ok (.aload_n 0, 1) := by decide +kernel
theorem dX4_init_5 : decode cX4_init 5 = .ok (.iload_n 1, 1) := by decide +kernel
theorem dX4_init_6 : decode cX4_init 6 = .ok (.iconst 0, 1) := by decide +kernel
theorem dX4_init_7 : decode cX4_init 7 = .ok (.invokestatic 11, 3) := by decide +kernel
theorem dX4_init_10 : decode cX4_init 10 = .ok (.putfield 17, 3) := by decide +kernel
theorem dX4_init_13 : decode cX4_init 13 = .ok (.aload_n 0, 1) := by decide +kernel
theorem dX4_init_14 : decode cX4_init 14 = .ok (.aload_n 0, 1) := by decide +kernel
theorem dX4_init_15 : decode cX4_init 15 = .ok (.getfield 17, 3) := by decide +kernel
theorem dX4_init_18 : decode cX4_init 18 = .ok (.bipush 27, 2) := by decide +kernel
theorem dX4_init_20 : decode cX4_init 20 = .ok (.imul, 1) := by decide +kernel
theorem dX4_init_21 : decode cX4_init 21 = .ok (.newarray .int, 2) := by decide +kernel
theorem dX4_init_23 : decode cX4_init 23 = .ok (.putfield 21, 3) := by decide +kernel
theorem dX4_init_26 : decode cX4_init 26 = .ok (.return_, 1) := by decide +kernel
theorem dX4_put_0 : decode cX4_put 0 = .ok (.iload_n 1, 1) := by decide +kernel
theorem dX4_put_1 : decode cX4_put 1 = .ok (.ifCond .lt 11, 3) := by decide +kernel
theorem dX4_put_4 : decode cX4_put 4 = .ok (.iload_n 1, 1) := by decide +kernel
theorem dX4_put_5 : decode cX4_put 5 = .ok (.aload_n 0, 1) := by decide +kernel
theorem dX4_put_6 : decode cX4_put 6 = .ok (.getfield 17, 3) := by decide +kernel
theorem dX4_put_9 : decode cX4_put 9 = .ok (.if_icmp .lt 4, 3) := by decide +kernel
theorem dX4_put_12 : decode cX4_put 12 = .ok (.return_, 1) := by decide +kernel
theorem dX4_put_13 : decode cX4_put 13 = .ok (.iload_n 1, 1) := by decide +kernel
theorem dX4_put_14 : decode cX4_put 14 = .ok (.bipush 27, 2) := by decide +kernel
theorem dX4_put_16 : decode cX4_put 16 = .ok (.imul, 1) := by decide +kernel
theorem dX4_put_17 : decode cX4_put 17 = .ok (.istore_n 3, 1) := by decide +kernel
theorem dX4_put_18 : decode cX4_put 18 = .ok (.aload_n 2, 1) := by decide +kernel
theorem dX4_put_19 : decode cX4_put 19 = .ok (.getfield 25, 3) := by decide +kernel
theorem dX4_put_22 : decode cX4_put 22 = .ok (.iconst 0, 1) := by decide +kernel
theorem dX4_put_23 : decode cX4_put 23 = .ok (.aload_n 0, 1) := by decide +kernel
theorem dX4_put_24 : decode cX4_put 24 = .ok (.getfield 21, 3) := by decide +kernel
theorem dX4_put_27 : decode cX4_put 27 = .ok (.iload_n 3, 1) := by decide +kernel
theorem dX4_put_28 : decode cX4_put 28 = .ok (.bipush 8, 2) := by decide +kernel
theorem dX4_put_30 : decode cX4_put 30 = .ok (.invokestatic 30, 3) := by decide +kernel
theorem dX4_put_33 : decode cX4_put 33 = .ok (.aload_n 2, 1) := by decide +kernel
theorem dX4_put_34 : decode cX4_put 34 = .ok (.getfield 36, 3) := by decide +kernel
theorem dX4_put_37 : decode cX4_put 37 = .ok (.iconst 0, 1) := by decide +kernel
theorem dX4_put_38 : decode cX4_put 38 = .ok (.aload_n 0, 1) := by decide +kernel
theorem dX4_put_39 : decode cX4_put 39 = .ok (.getfield 21, 3) := by decide +kernel
theorem dX4_put_42 : decode cX4_put 42 = .ok (.iload_n 3, 1) := by decide +kernel
theorem dX4_put_43 : decode cX4_put 43 = .ok (.bipush 8, 2) := by decide +kernel
theorem dX4_put_45 : decode cX4_put 45 = .ok (.iadd, 1) := by decide +kernel
theorem dX4_put_46 : decode cX4_put 46 = .ok (.bipush 8, 2) := by decide +kernel
theorem dX4_put_48 : decode cX4_put 48 = .ok (.invokestatic 30, 3) := by decide +kernel
theorem dX4_put_51 : decode cX4_put 51 = .ok (.aload_n 2, 1) := by decide +kernel
theorem dX4_put_52 : decode cX4_put 52 = .ok (.getfield 39, 3) := by decide +kernel
theorem dX4_put_55 : decode cX4_put 55 = .ok (.iconst 0, 1) := by decide +kernel
theorem dX4_put_56 : decode cX4_put 56 = .ok (.aload_n 0, 1) := by decide +kernel
theorem dX4_put_57 : decode cX4_put 57 = .ok (.getfield 21, 3) := by decide +kernel
theorem dX4_put_60 : decode cX4_put 60 = .ok (.iload_n 3, 1) := by decide +kernel
theorem dX4_put_61 : decode cX4_put 61 = .ok (.bipush 16, 2) := by decide +kernel
theorem dX4_put_63 : decode cX4_put 63 = .ok (.iadd, 1) := by decide +kernel
theorem dX4_put_64 : decode cX4_put 64 = .ok (.bipush 8, 2) := by decide +kernel
theorem dX4_put_66 : decode cX4_put 66 = .ok (.invokestatic 30, 3) := by decide +kernel
theorem dX4_put_69 : decode cX4_put 69 = .ok (.aload_n 0, 1) := by decide +kernel
theorem dX4_put_70 : decode cX4_put 70 = .ok (.getfield 21, 3) := by decide +kernel
theorem dX4_put_73 : decode cX4_put 73 = .ok (.iload_n 3, 1) := by decide +kernel
theorem dX4_put_74 : decode cX4_put 74 = .ok (.bipush 24, 2) := by decide +kernel
theorem dX4_put_76 : decode cX4_put 76 = .ok (.iadd, 1) := by decide +kernel
theorem dX4_put_77 : decode cX4_put 77 = .ok (.aload_n 2, 1) := by decide +kernel
theorem dX4_put_78 : decode cX4_put 78 = .ok (.getfield 42, 3) := by decide +kernel
theorem dX4_put_81 : decode cX4_put 81 = .ok (.iastore, 1) := by decide +kernel
theorem dX4_put_82 : decode cX4_put 82 = .ok (.aload_n 0, 1) := by decide +kernel
theorem dX4_put_83 : decode cX4_put 83 = .ok (.getfield 21, 3) := by decide +kernel
theorem dX4_put_86 : decode cX4_put 86 = .ok (.iload_n 3, 1) := by decide +kernel
theorem dX4_put_87 : decode cX4_put 87 = .ok (.bipush 24, 2) := by decide +kernel
theorem dX4_put_89 : decode cX4_put 89 = .ok (.iadd, 1) := by decide +kernel
theorem dX4_put_90 : decode cX4_put 90 = .ok (.iconst 1, 1) := by decide +kernel
theorem dX4_put_91 : decode cX4_put 91 = .ok (.iadd, 1) := by decide +kernel
theorem dX4_put_92 : decode cX4_put 92 = .ok (.aload_n 2, 1) := by decide +kernel
theorem dX4_put_93 : decode cX4_put 93 = .ok (.getfield 45, 3) := by decide +kernel
theorem dX4_put_96 : decode cX4_put 96 = .ok (.iastore, 1) := by decide +kernel
theorem dX4_put_97 : decode cX4_put 97 = .ok (.aload_n 0, 1) := by decide +kernel
theorem dX4_put_98 : decode cX4_put 98 = .ok (.getfield 21, 3) := by decide +kernel
theorem dX4_put_101 : decode cX4_put 101 = .ok (.iload_n 3, 1) := by decide +kernel
theorem dX4_put_102 : decode cX4_put 102 = .ok (.bipush 24, 2) := by decide +kernel
theorem dX4_put_104 : decode cX4_put 104 = .ok (.iadd, 1) := by decide +kernel
theorem dX4_put_105 : decode cX4_put 105 = .ok (.iconst 2, 1) := by decide +kernel
theorem dX4_put_106 : decode cX4_put 106 = .ok (.iadd, 1) := by decide +kernel
theorem dX4_put_107 : decode cX4_put 107 = .ok (.aload_n 2, 1) := by decide +kernel
theorem dX4_put_108 : decode cX4_put 108 = .ok (.getfield 48, 3) := by decide +kernel
theorem dX4_put_111 : decode cX4_put 111 = .ok (.iastore, 1) := by decide +kernel
theorem dX4_put_112 : decode cX4_put 112 = .ok (.return_, 1) := by decide +kernel
theorem dX4_take_0 : decode cX4_take 0 = .ok (.iload_n 1, 1) := by decide +kernel
theorem dX4_take_1 : decode cX4_take 1 = .ok (.ifCond .lt 11, 3) := by decide +kernel
theorem dX4_take_4 : decode cX4_take 4 = .ok (.iload_n 1, 1) := by decide +kernel
theorem dX4_take_5 : decode cX4_take 5 = .ok (.aload_n 0, 1) := by decide +kernel
theorem dX4_take_6 : decode cX4_take 6 = .ok (.getfield 17, 3) := by decide +kernel
theorem dX4_take_9 : decode cX4_take 9 = .ok (.if_icmp .lt 4, 3) := by decide +kernel
theorem dX4_take_12 : decode cX4_take 12 = .ok (.return_, 1) := by decide +kernel
theorem dX4_take_13 : decode cX4_take 13 = .ok (.iload_n 1, 1) := by decide +kernel
theorem dX4_take_14 : decode cX4_take 14 = .ok (.bipush 27, 2) := by decide +kernel
theorem dX4_take_16 : decode cX4_take 16 = .ok (.imul, 1) := by decide +kernel
theorem dX4_take_17 : decode cX4_take 17 = .ok (.istore_n 3, 1) := by decide +kernel
theorem dX4_take_18 : decode cX4_take 18 = .ok (.aload_n 0, 1) := by decide +kernel
theorem dX4_take_19 : decode cX4_take 19 = .ok (.getfield 21, 3) := by decide +kernel
theorem dX4_take_22 : decode cX4_take 22 = .ok (.iload_n 3, 1) := by decide +kernel
theorem dX4_take_23 : decode cX4_take 23 = .ok (.aload_n 2, 1) := by decide +kernel
theorem dX4_take_24 : decode cX4_take 24 = .ok (.getfield 25, 3) := by decide +kernel
theorem dX4_take_27 : decode cX4_take 27 = .ok (.iconst 0, 1) := by decide +kernel
theorem dX4_take_28 : decode cX4_take 28 = .ok (.bipush 8, 2) := by decide +kernel
theorem dX4_take_30 : decode cX4_take 30 = .ok (.invokestatic 30, 3) := by decide +kernel
theorem dX4_take_33 : decode cX4_take 33 = .ok (.aload_n 0, 1) := by decide +kernel
theorem dX4_take_34 : decode cX4_take 34 = .ok (.getfield 21, 3) := by decide +kernel
theorem dX4_take_37 : decode cX4_take 37 = .ok (.iload_n 3, 1) := by decide +kernel
theorem dX4_take_38 : decode cX4_take 38 = .ok (.bipush 8, 2) := by decide +kernel
theorem dX4_take_40 : decode cX4_take 40 = .ok (.iadd, 1) := by decide +kernel
theorem dX4_take_41 : decode cX4_take 41 = .ok (.aload_n 2, 1) := by decide +kernel
theorem dX4_take_42 : decode cX4_take 42 = .ok (.getfield 36, 3) := by decide +kernel
theorem dX4_take_45 : decode cX4_take 45 = .ok (.iconst 0, 1) := by decide +kernel
theorem dX4_take_46 : decode cX4_take 46 = .ok (.bipush 8, 2) := by decide +kernel
theorem dX4_take_48 : decode cX4_take 48 = .ok (.invokestatic 30, 3) := by decide +kernel
theorem dX4_take_51 : decode cX4_take 51 = .ok (.aload_n 0, 1) := by decide +kernel
theorem dX4_take_52 : decode cX4_take 52 = .ok (.getfield 21, 3) := by decide +kernel
theorem dX4_take_55 : decode cX4_take 55 = .ok (.iload_n 3, 1) := by decide +kernel
theorem dX4_take_56 : decode cX4_take 56 = .ok (.bipush 16, 2) := by decide +kernel
theorem dX4_take_58 : decode cX4_take 58 = .ok (.iadd, 1) := by decide +kernel
theorem dX4_take_59 : decode cX4_take 59 = .ok (.aload_n 2, 1) := by decide +kernel
theorem dX4_take_60 : decode cX4_take 60 = .ok (.getfield 39, 3) := by decide +kernel
theorem dX4_take_63 : decode cX4_take 63 = .ok (.iconst 0, 1) := by decide +kernel
theorem dX4_take_64 : decode cX4_take 64 = .ok (.bipush 8, 2) := by decide +kernel
theorem dX4_take_66 : decode cX4_take 66 = .ok (.invokestatic 30, 3) := by decide +kernel
theorem dX4_take_69 : decode cX4_take 69 = .ok (.aload_n 2, 1) := by decide +kernel
theorem dX4_take_70 : decode cX4_take 70 = .ok (.aload_n 0, 1) := by decide +kernel
theorem dX4_take_71 : decode cX4_take 71 = .ok (.getfield 21, 3) := by decide +kernel
theorem dX4_take_74 : decode cX4_take 74 = .ok (.iload_n 3, 1) := by decide +kernel
theorem dX4_take_75 : decode cX4_take 75 = .ok (.bipush 24, 2) := by decide +kernel
theorem dX4_take_77 : decode cX4_take 77 = .ok (.iadd, 1) := by decide +kernel
theorem dX4_take_78 : decode cX4_take 78 = .ok (.iaload, 1) := by decide +kernel
theorem dX4_take_79 : decode cX4_take 79 = .ok (.putfield 42, 3) := by decide +kernel
theorem dX4_take_82 : decode cX4_take 82 = .ok (.aload_n 2, 1) := by decide +kernel
theorem dX4_take_83 : decode cX4_take 83 = .ok (.aload_n 0, 1) := by decide +kernel
theorem dX4_take_84 : decode cX4_take 84 = .ok (.getfield 21, 3) := by decide +kernel
theorem dX4_take_87 : decode cX4_take 87 = .ok (.iload_n 3, 1) := by decide +kernel
theorem dX4_take_88 : decode cX4_take 88 = .ok (.bipush 24, 2) := by decide +kernel
theorem dX4_take_90 : decode cX4_take 90 = .ok (.iadd, 1) := by decide +kernel
theorem dX4_take_91 : decode cX4_take 91 = .ok (.iconst 1, 1) := by decide +kernel
theorem dX4_take_92 : decode cX4_take 92 = .ok (.iadd, 1) := by decide +kernel
theorem dX4_take_93 : decode cX4_take 93 = .ok (.iaload, 1) := by decide +kernel
theorem dX4_take_94 : decode cX4_take 94 = .ok (.putfield 45, 3) := by decide +kernel
theorem dX4_take_97 : decode cX4_take 97 = .ok (.aload_n 2, 1) := by decide +kernel
theorem dX4_take_98 : decode cX4_take 98 = .ok (.aload_n 0, 1) := by decide +kernel
theorem dX4_take_99 : decode cX4_take 99 = .ok (.getfield 21, 3) := by decide +kernel
theorem dX4_take_102 : decode cX4_take 102 = .ok (.iload_n 3, 1) := by decide +kernel
theorem dX4_take_103 : decode cX4_take 103 = .ok (.bipush 24, 2) := by decide +kernel
theorem dX4_take_105 : decode cX4_take 105 = .ok (.iadd, 1) := by decide +kernel
theorem dX4_take_106 : decode cX4_take 106 = .ok (.iconst 2, 1) := by decide +kernel
theorem dX4_take_107 : decode cX4_take 107 = .ok (.iadd, 1) := by decide +kernel
theorem dX4_take_108 : decode cX4_take 108 = .ok (.iaload, 1) := by decide +kernel
theorem dX4_take_109 : decode cX4_take 109 = .ok (.putfield 48, 3) := by decide +kernel
theorem dX4_take_112 : decode cX4_take 112 = .ok (.return_, 1) := by decide +kernel
theorem dX5_init_0 : decode cX5_init 0 = .ok (.aload_n 0, 1) := by decide +kernel
theorem dX5_init_1 : decode cX5_init 1 = .ok (.invokespecial 3, 3) := by decide +kernel
theorem dX5_init_4 : decode cX5_init 4 = .ok (.aload_n 0, 1) := by decide +kernel
theorem dX5_init_5 : decode cX5_init 5 = .ok (.sipush 240, 3) := by decide +kernel
theorem dX5_init_8 : decode cX5_init 8 = .ok (.newarray .int, 2) := by decide +kernel
theorem dX5_init_10 : decode cX5_init 10 = .ok (.putfield 9, 3) := by decide +kernel
theorem dX5_init_13 : decode cX5_init 13 = .ok (.aload_n 0, 1) := by decide +kernel
theorem dX5_init_14 : decode cX5_init 14 = .ok (.iconst (-1), 1) := by decide +kernel
theorem dX5_init_15 : decode cX5_init 15 = .ok (.putfield 15, 3) := by decide +kernel
theorem dX5_init_18 : decode cX5_init 18 = .ok (.return_, 1) := by decide +kernel
theorem dX5_append_0 : decode cX5_append 0 = .ok (.aload_n 0, 1) := by decide +kernel
theorem dX5_append_1 : decode cX5_append 1 = .ok (.getfield 19, 3) := by decide +kernel
theorem dX5_append_4 : decode cX5_append 4 = .ok (.sipush 240, 3) := by decide +kernel
theorem dX5_append_7 : decode cX5_append 7 = .ok (.if_icmp .lt 5, 3) := by decide +kernel
theorem dX5_append_10 : decode cX5_append 10 = .ok (.iconst 0, 1) := by decide +kernel
theorem dX5_append_11 : decode cX5_append 11 = .ok (.ireturn, 1) := by decide +kernel
theorem dX5_append_12 : decode cX5_append 12 = .ok (.aload_n 0, 1) := by decide +kernel
theorem dX5_append_13 : decode cX5_append 13 = .ok (.getfield 9, 3) := by decide +kernel
theorem dX5_append_16 : decode cX5_append 16 = .ok (.aload_n 0, 1) := by decide +kernel
theorem dX5_append_17 : decode cX5_append 17 = .ok (.getfield 19, 3) := by decide +kernel
theorem dX5_append_20 : decode cX5_append 20 = .ok (.iload_n 1, 1) := by decide +kernel
theorem dX5_append_21 : decode cX5_append 21 = .ok (.iastore, 1) := by decide +kernel
theorem dX5_append_22 : decode cX5_append 22 = .ok (.aload_n 0, 1) := by decide +kernel
theorem dX5_append_23 : decode cX5_append 23 = .ok (.dup, 1) := by decide +kernel
theorem dX5_append_24 : decode cX5_append 24 = .ok (.getfield 19, 3) := by decide +kernel
theorem dX5_append_27 : decode cX5_append 27 = .ok (.iconst 1, 1) := by decide +kernel
theorem dX5_append_28 : decode cX5_append 28 = .ok (.iadd, 1) := by decide +kernel
theorem dX5_append_29 : decode cX5_append 29 = .ok (.putfield 19, 3) := by decide +kernel
theorem dX5_append_32 : decode cX5_append 32 = .ok (.iconst 1, 1) := by decide +kernel
theorem dX5_append_33 : decode cX5_append 33 = .ok (.ireturn, 1) := by decide +kernel
theorem dX5_readInto_0 : decode cX5_readInto 0 = .ok (.aload_n 1, 1) := by decide +kernel
theorem dX5_readInto_1 : decode cX5_readInto 1 = .ok (.invokevirtual 22, 3) := by decide +kernel
theorem dX5_readInto_4 : decode cX5_readInto 4 = .ok (.aload_n 0, 1) := by decide +kernel
theorem dX5_readInto_5 : decode cX5_readInto 5 = .ok (.iconst 0, 1) := by decide +kernel
theorem dX5_readInto_6 : decode cX5_readInto 6 = .ok (.putfield 27, 3) := by decide +kernel
theorem dX5_readInto_9 : decode cX5_readInto 9 = .ok (.aload_n 0, 1) := by decide +kernel
theorem dX5_readInto_10 : decode cX5_readInto 10 = .ok (.iconst (-1), 1) := by decide +kernel
theorem dX5_readInto_11 : decode cX5_readInto 11 = .ok (.putfield 15, 3) := by decide +kernel
theorem dX5_readInto_14 : decode cX5_readInto 14 = .ok (.aload_n 0, 1) := by decide +kernel
theorem dX5_readInto_15 : decode cX5_readInto 15 = .ok (.iconst 0, 1) := by decide +kernel
theorem dX5_readInto_16 : decode cX5_readInto 16 = .ok (.putfield 30, 3) := by decide +kernel
theorem dX5_readInto_19 : decode cX5_readInto 19 = .ok (.iconst 0, 1) := by decide +kernel
theorem dX5_readInto_20 : decode cX5_readInto 20 = .ok (.istore_n 2, 1) := by decide +kernel
theorem dX5_readInto_21 : decode cX5_readInto 21 = .ok (.iload_n 2, 1) := by decide +kernel
theorem dX5_readInto_22 : decode cX5_readInto 22 = .ok (.sipush 240, 3) := by decide +kernel
theorem dX5_readInto_25 : decode cX5_readInto 25 = .ok (.if_icmp .ge 27, 3) := by decide +kernel
theorem dX5_readInto_28 : decode cX5_readInto 28 = .ok (.aload_n 0, 1) := by decide +kernel
theorem dX5_readInto_29 : decode cX5_readInto 29 = .ok (.invokevirtual 33, 3) := by decide +kernel
theorem dX5_readInto_32 : decode cX5_readInto 32 = .ok (.iconst (-1), 1) := by decide +kernel
theorem dX5_readInto_33 : decode cX5_readInto 33 = .ok (.if_icmp .eq 19, 3) := by decide +kernel
theorem dX5_readInto_36 : decode cX5_readInto 36 = .ok (.aload_n 0, 1) := by decide +kernel
theorem dX5_readInto_37 : decode cX5_readInto 37 = .ok (.aload_n 1, 1) := by decide +kernel
theorem dX5_readInto_38 : decode cX5_readInto 38 = .ok (.invokevirtual 37, 3) := by decide +kernel
theorem dX5_readInto_41 : decode cX5_readInto 41 = .ok (.ifCond .ne 5, 3) := by decide +kernel
theorem dX5_readInto_44 : decode cX5_readInto 44 = .ok (.iconst 0, 1) := by decide +kernel
theorem dX5_readInto_45 : decode cX5_readInto 45 = .ok (.ireturn, 1) := by decide +kernel
theorem dX5_readInto_46 : decode cX5_readInto 46 = .ok (.iinc 2 1, 3) := by decide +kernel
theorem dX5_readInto_49 : decode cX5_readInto 49 = .ok (.goto (-28), 3) := by decide +kernel
theorem dX5_readInto_52 : decode cX5_readInto 52 = .ok (.iconst 1, 1) := by decide +kernel
theorem dX5_readInto_53 : decode cX5_readInto 53 = .ok (.ireturn, 1) := by decide +kernel
theorem dX5_readClause_0 : decode cX5_readClause 0 = .ok (.aload_n 0, 1) := by decide +kernel
theorem dX5_readClause_1 : decode cX5_readClause 1 = .ok (.invokevirtual 33, 3) := by decide +kernel
theorem dX5_readClause_4 : decode cX5_readClause 4 = .ok (.istore_n 2, 1) := by decide +kernel
theorem dX5_readClause_5 : decode cX5_readClause 5 = .ok (.aload_n 1, 1) := by decide +kernel
theorem dX5_readClause_6 : decode cX5_readClause 6 = .ok (.getfield 41, 3) := by decide +kernel
theorem dX5_readClause_9 : decode cX5_readClause 9 = .ok (.ifCond .ne 19, 3) := by decide +kernel
theorem dX5_readClause_12 : decode cX5_readClause 12 = .ok (.iload_n 2, 1) := by decide +kernel
theorem dX5_readClause_13 : decode cX5_readClause 13 = .ok (.bipush 116, 2) := by decide +kernel
theorem dX5_readClause_15 : decode cX5_readClause 15 = .ok (.if_icmp .eq 13, 3) := by decide +kernel
theorem dX5_readClause_18 : decode cX5_readClause 18 = .ok (.aload_n 0, 1) := by decide +kernel
theorem dX5_readClause_19 : decode cX5_readClause 19 = .ok (.aload_n 0, 1) := by decide +kernel
theorem dX5_readClause_20 : decode cX5_readClause 20 = .ok (.getfield 27, 3) := by decide +kernel
theorem dX5_readClause_23 : decode cX5_readClause 23 = .ok (.iconst 1, 1) := by decide +kernel
theorem dX5_readClause_24 : decode cX5_readClause 24 = .ok (.invokevirtual 44, 3) := by decide +kernel
theorem dX5_readClause_27 : decode cX5_readClause 27 = .ok (.ireturn, 1) := by decide +kernel
theorem dX5_readClause_28 : decode cX5_readClause 28 = .ok (.iload_n 2, 1) := by decide +kernel
theorem dX5_readClause_29 : decode cX5_readClause 29 = .ok (.lookupswitch 112 #[(98, 60), (116, 35), (119, 87)], 35) := by decide +kernel
theorem dX5_readClause_64 : decode cX5_readClause 64 = .ok (.aload_n 1, 1) := by decide +kernel
theorem dX5_readClause_65 : decode cX5_readClause 65 = .ok (.getfield 41, 3) := by decide +kernel
theorem dX5_readClause_68 : decode cX5_readClause 68 = .ok (.ifCond .ne 11, 3) := by decide +kernel
theorem dX5_readClause_71 : decode cX5_readClause 71 = .ok (.aload_n 0, 1) := by decide +kernel
theorem dX5_readClause_72 : decode cX5_readClause 72 = .ok (.aload_n 1, 1) := by decide +kernel
theorem dX5_readClause_73 : decode cX5_readClause 73 = .ok (.invokevirtual 48, 3) := by decide +kernel
theorem dX5_readClause_76 : decode cX5_readClause 76 = .ok (.goto 12, 3) := by decide +kernel
theorem dX5_readClause_79 : decode cX5_readClause 79 = .ok (.aload_n 0, 1) := by decide +kernel
theorem dX5_readClause_80 : decode cX5_readClause 80 = .ok (.aload_n 0, 1) := by decide +kernel
theorem dX5_readClause_81 : decode cX5_readClause 81 = .ok (.getfield 27, 3) := by decide +kernel
theorem dX5_readClause_84 : decode cX5_readClause 84 = .ok (.iconst 3, 1) := by decide +kernel
theorem dX5_readClause_85 : decode cX5_readClause 85 = .ok (.invokevirtual 44, 3) := by decide +kernel
theorem dX5_readClause_88 : decode cX5_readClause 88 = .ok (.ireturn, 1) := by decide +kernel
theorem dX5_readClause_89 : decode cX5_readClause 89 = .ok (.aload_n 1, 1) := by decide +kernel
theorem dX5_readClause_90 : decode cX5_readClause 90 = .ok (.getfield 51, 3) := by decide +kernel
theorem dX5_readClause_93 : decode cX5_readClause 93 = .ok (.bipush 8, 2) := by decide +kernel
theorem dX5_readClause_95 : decode cX5_readClause 95 = .ok (.if_icmp .ge 11, 3) := by decide +kernel
theorem dX5_readClause_98 : decode cX5_readClause 98 = .ok (.aload_n 0, 1) := by decide +kernel
theorem dX5_readClause_99 : decode cX5_readClause 99 = .ok (.aload_n 1, 1) := by decide +kernel
theorem dX5_readClause_100 : decode cX5_readClause 100 = .ok (.invokevirtual 54, 3) := by decide +kernel
theorem dX5_readClause_103 : decode cX5_readClause 103 = .ok (.goto 12, 3) := by decide +kernel
theorem dX5_readClause_106 : decode cX5_readClause 106 = .ok (.aload_n 0, 1) := by decide +kernel
theorem dX5_readClause_107 : decode cX5_readClause 107 = .ok (.aload_n 0, 1) := by decide +kernel
theorem dX5_readClause_108 : decode cX5_readClause 108 = .ok (.getfield 27, 3) := by decide +kernel
theorem dX5_readClause_111 : decode cX5_readClause 111 = .ok (.iconst 3, 1) := by decide +kernel
theorem dX5_readClause_112 : decode cX5_readClause 112 = .ok (.invokevirtual 44, 3) := by decide +kernel
theorem dX5_readClause_115 : decode cX5_readClause 115 = .ok (.ireturn, 1) := by decide +kernel
theorem dX5_readClause_116 : decode cX5_readClause 116 = .ok (.aload_n 1, 1) := by decide +kernel
theorem dX5_readClause_117 : decode cX5_readClause 117 = .ok (.getfield 57, 3) := by decide +kernel
theorem dX5_readClause_120 : decode cX5_readClause 120 = .ok (.ifCond .ne 11, 3) := by decide +kernel
theorem dX5_readClause_123 : decode cX5_readClause 123 = .ok (.aload_n 0, 1) := by decide +kernel
theorem dX5_readClause_124 : decode cX5_readClause 124 = .ok (.aload_n 1, 1) := by decide +kernel
theorem dX5_readClause_125 : decode cX5_readClause 125 = .ok (.invokevirtual 60, 3) := by decide +kernel
theorem dX5_readClause_128 : decode cX5_readClause 128 = .ok (.goto 12, 3) := by decide +kernel
theorem dX5_readClause_131 : decode cX5_readClause 131 = .ok (.aload_n 0, 1) := by decide +kernel
theorem dX5_readClause_132 : decode cX5_readClause 132 = .ok (.aload_n 0, 1) := by decide +kernel
theorem dX5_readClause_133 : decode cX5_readClause 133 = .ok (.getfield 27, 3) := by decide +kernel
theorem dX5_readClause_136 : decode cX5_readClause 136 = .ok (.iconst 3, 1) := by decide +kernel
theorem dX5_readClause_137 : decode cX5_readClause 137 = .ok (.invokevirtual 44, 3) := by decide +kernel
theorem dX5_readClause_140 : decode cX5_readClause 140 = .ok (.ireturn, 1) := by decide +kernel
theorem dX5_readClause_141 : decode cX5_readClause 141 = .ok (.aload_n 0, 1) := by decide +kernel
theorem dX5_readClause_142 : decode cX5_readClause 142 = .ok (.aload_n 0, 1) := by decide +kernel
theorem dX5_readClause_143 : decode cX5_readClause 143 = .ok (.getfield 27, 3) := by decide +kernel
theorem dX5_readClause_146 : decode cX5_readClause 146 = .ok (.iconst 1, 1) := by decide +kernel
theorem dX5_readClause_147 : decode cX5_readClause 147 = .ok (.invokevirtual 44, 3) := by decide +kernel
theorem dX5_readClause_150 : decode cX5_readClause 150 = .ok (.ireturn, 1) := by decide +kernel
theorem dX5_readTreaty_0 : decode cX5_readTreaty 0 = .ok (.aload_n 0, 1) := by decide +kernel
theorem dX5_readTreaty_1 : decode cX5_readTreaty 1 = .ok (.dup, 1) := by decide +kernel
theorem dX5_readTreaty_2 : decode cX5_readTreaty 2 = .ok (.getfield 27, 3) := by decide +kernel
theorem dX5_readTreaty_5 : decode cX5_readTreaty 5 = .ok (.iconst 1, 1) := by decide +kernel
theorem dX5_readTreaty_6 : decode cX5_readTreaty 6 = .ok (.iadd, 1) := by decide +kernel
theorem dX5_readTreaty_7 : decode cX5_readTreaty 7 = .ok (.putfield 27, 3) := by decide +kernel
theorem dX5_readTreaty_10 : decode cX5_readTreaty 10 = .ok (.aload_n 0, 1) := by decide +kernel
theorem dX5_readTreaty_11 : decode cX5_readTreaty 11 = .ok (.iconst 1, 1) := by decide +kernel
theorem dX5_readTreaty_12 : decode cX5_readTreaty 12 = .ok (.iconst 4, 1) := by decide +kernel
theorem dX5_readTreaty_13 : decode cX5_readTreaty 13 = .ok (.invokevirtual 63, 3) := by decide +kernel
theorem dX5_readTreaty_16 : decode cX5_readTreaty 16 = .ok (.istore_n 2, 1) := by decide +kernel
theorem dX5_readTreaty_17 : decode cX5_readTreaty 17 = .ok (.iload_n 2, 1) := by decide +kernel
theorem dX5_readTreaty_18 : decode cX5_readTreaty 18 = .ok (.iconst (-1), 1) := by decide +kernel
theorem dX5_readTreaty_19 : decode cX5_readTreaty 19 = .ok (.if_icmp .ne 7, 3) := by decide +kernel
theorem dX5_readTreaty_22 : decode cX5_readTreaty 22 = .ok (.iconst (-1), 1) := by decide +kernel
theorem dX5_readTreaty_23 : decode cX5_readTreaty 23 = .ok (.goto 10, 3) := by decide +kernel
theorem dX5_readTreaty_26 : decode cX5_readTreaty 26 = .ok (.aload_n 0, 1) := by decide +kernel
theorem dX5_readTreaty_27 : decode cX5_readTreaty 27 = .ok (.iconst 1, 1) := by decide +kernel
theorem dX5_readTreaty_28 : decode cX5_readTreaty 28 = .ok (.bipush 30, 2) := by decide +kernel
theorem dX5_readTreaty_30 : decode cX5_readTreaty 30 = .ok (.invokevirtual 63, 3) := by decide +kernel
theorem dX5_readTreaty_33 : decode cX5_readTreaty 33 = .ok (.istore_n 3, 1) := by decide +kernel
theorem dX5_readTreaty_34 : decode cX5_readTreaty 34 = .ok (.iload_n 3, 1) := by decide +kernel
theorem dX5_readTreaty_35 : decode cX5_readTreaty 35 = .ok (.iconst (-1), 1) := by decide +kernel
theorem dX5_readTreaty_36 : decode cX5_readTreaty 36 = .ok (.if_icmp .ne 7, 3) := by decide +kernel
theorem dX5_readTreaty_39 : decode cX5_readTreaty 39 = .ok (.iconst (-1), 1) := by decide +kernel
theorem dX5_readTreaty_40 : decode cX5_readTreaty 40 = .ok (.goto 10, 3) := by decide +kernel
theorem dX5_readTreaty_43 : decode cX5_readTreaty 43 = .ok (.aload_n 0, 1) := by decide +kernel
theorem dX5_readTreaty_44 : decode cX5_readTreaty 44 = .ok (.iconst 1, 1) := by decide +kernel
theorem dX5_readTreaty_45 : decode cX5_readTreaty 45 = .ok (.bipush 30, 2) := by decide +kernel
theorem dX5_readTreaty_47 : decode cX5_readTreaty 47 = .ok (.invokevirtual 63, 3) := by decide +kernel
theorem dX5_readTreaty_50 : decode cX5_readTreaty 50 = .ok (.istore 4, 2) := by decide +kernel
theorem dX5_readTreaty_52 : decode cX5_readTreaty 52 = .ok (.iload 4, 2) := by decide +kernel
theorem dX5_readTreaty_54 : decode cX5_readTreaty 54 = .ok (.iconst (-1), 1) := by decide +kernel
theorem dX5_readTreaty_55 : decode cX5_readTreaty 55 = .ok (.if_icmp .ne 5, 3) := by decide +kernel
theorem dX5_readTreaty_58 : decode cX5_readTreaty 58 = .ok (.iconst 0, 1) := by decide +kernel
theorem dX5_readTreaty_59 : decode cX5_readTreaty 59 = .ok (.ireturn, 1) := by decide +kernel
theorem dX5_readTreaty_60 : decode cX5_readTreaty 60 = .ok (.aload_n 1, 1) := by decide +kernel
theorem dX5_readTreaty_61 : decode cX5_readTreaty 61 = .ok (.iload_n 2, 1) := by decide +kernel
theorem dX5_readTreaty_62 : decode cX5_readTreaty 62 = .ok (.putfield 41, 3) := by decide +kernel
theorem dX5_readTreaty_65 : decode cX5_readTreaty 65 = .ok (.aload_n 1, 1) := by decide +kernel
theorem dX5_readTreaty_66 : decode cX5_readTreaty 66 = .ok (.iload_n 3, 1) := by decide +kernel
theorem dX5_readTreaty_67 : decode cX5_readTreaty 67 = .ok (.putfield 67, 3) := by decide +kernel
theorem dX5_readTreaty_70 : decode cX5_readTreaty 70 = .ok (.aload_n 1, 1) := by decide +kernel
theorem dX5_readTreaty_71 : decode cX5_readTreaty 71 = .ok (.iload 4, 2) := by decide +kernel
theorem dX5_readTreaty_73 : decode cX5_readTreaty 73 = .ok (.putfield 70, 3) := by decide +kernel
theorem dX5_readTreaty_76 : decode cX5_readTreaty 76 = .ok (.aload_n 0, 1) := by decide +kernel
theorem dX5_readTreaty_77 : decode cX5_readTreaty 77 = .ok (.invokevirtual 73, 3) := by decide +kernel
theorem dX5_readTreaty_80 : decode cX5_readTreaty 80 = .ok (.ireturn, 1) := by decide +kernel
theorem dX5_readBarn_0 : decode cX5_readBarn 0 = .ok (.aload_n 0, 1) := by decide +kernel
theorem dX5_readBarn_1 : decode cX5_readBarn 1 = .ok (.dup, 1) := by decide +kernel
theorem dX5_readBarn_2 : decode cX5_readBarn 2 = .ok (.getfield 27, 3) := by decide +kernel
theorem dX5_readBarn_5 : decode cX5_readBarn 5 = .ok (.iconst 1, 1) := by decide +kernel
theorem dX5_readBarn_6 : decode cX5_readBarn 6 = .ok (.iadd, 1) := by decide +kernel
theorem dX5_readBarn_7 : decode cX5_readBarn 7 = .ok (.putfield 27, 3) := by decide +kernel
theorem dX5_readBarn_10 : decode cX5_readBarn 10 = .ok (.aload_n 0, 1) := by decide +kernel
theorem dX5_readBarn_11 : decode cX5_readBarn 11 = .ok (.iconst 0, 1) := by decide +kernel
theorem dX5_readBarn_12 : decode cX5_readBarn 12 = .ok (.aload_n 1, 1) := by decide +kernel
theorem dX5_readBarn_13 : decode cX5_readBarn 13 = .ok (.getfield 41, 3) := by decide +kernel
theorem dX5_readBarn_16 : decode cX5_readBarn 16 = .ok (.iconst 1, 1) := by decide +kernel
theorem dX5_readBarn_17 : decode cX5_readBarn 17 = .ok (.isub, 1) := by decide +kernel
theorem dX5_readBarn_18 : decode cX5_readBarn 18 = .ok (.invokevirtual 63, 3) := by decide +kernel
theorem dX5_readBarn_21 : decode cX5_readBarn 21 = .ok (.istore_n 2, 1) := by decide +kernel
theorem dX5_readBarn_22 : decode cX5_readBarn 22 = .ok (.iload_n 2, 1) := by decide +kernel
theorem dX5_readBarn_23 : decode cX5_readBarn 23 = .ok (.iconst (-1), 1) := by decide +kernel
theorem dX5_readBarn_24 : decode cX5_readBarn 24 = .ok (.if_icmp .ne 7, 3) := by decide +kernel
theorem dX5_readBarn_27 : decode cX5_readBarn 27 = .ok (.iconst (-1), 1) := by decide +kernel
theorem dX5_readBarn_28 : decode cX5_readBarn 28 = .ok (.goto 10, 3) := by decide +kernel
theorem dX5_readBarn_31 : decode cX5_readBarn 31 = .ok (.aload_n 0, 1) := by decide +kernel
theorem dX5_readBarn_32 : decode cX5_readBarn 32 = .ok (.iconst 0, 1) := by decide +kernel
theorem dX5_readBarn_33 : decode cX5_readBarn 33 = .ok (.bipush 40, 2) := by decide +kernel
theorem dX5_readBarn_35 : decode cX5_readBarn 35 = .ok (.invokevirtual 63, 3) := by decide +kernel
theorem dX5_readBarn_38 : decode cX5_readBarn 38 = .ok (.istore_n 3, 1) := by decide +kernel
theorem dX5_readBarn_39 : decode cX5_readBarn 39 = .ok (.iload_n 3, 1) := by decide +kernel
theorem dX5_readBarn_40 : decode cX5_readBarn 40 = .ok (.iconst (-1), 1) := by decide +kernel
theorem dX5_readBarn_41 : decode cX5_readBarn 41 = .ok (.if_icmp .ne 7, 3) := by decide +kernel
theorem dX5_readBarn_44 : decode cX5_readBarn 44 = .ok (.iconst (-1), 1) := by decide +kernel
theorem dX5_readBarn_45 : decode cX5_readBarn 45 = .ok (.goto 8, 3) := by decide +kernel
theorem dX5_readBarn_48 : decode cX5_readBarn 48 = .ok (.aload_n 0, 1) := by decide +kernel
theorem dX5_readBarn_49 : decode cX5_readBarn 49 = .ok (.iload_n 3, 1) := by decide +kernel
theorem dX5_readBarn_50 : decode cX5_readBarn 50 = .ok (.invokevirtual 77, 3) := by decide +kernel
theorem dX5_readBarn_53 : decode cX5_readBarn 53 = .ok (.istore 4, 2) := by decide +kernel
theorem dX5_readBarn_55 : decode cX5_readBarn 55 = .ok (.iload 4, 2) := by decide +kernel
theorem dX5_readBarn_57 : decode cX5_readBarn 57 = .ok (.iconst (-1), 1) := by decide +kernel
theorem dX5_readBarn_58 : decode cX5_readBarn 58 = .ok (.if_icmp .ne 7, 3) := by decide +kernel
theorem dX5_readBarn_61 : decode cX5_readBarn 61 = .ok (.iconst (-1), 1) := by decide +kernel
theorem dX5_readBarn_62 : decode cX5_readBarn 62 = .ok (.goto 10, 3) := by decide +kernel
theorem dX5_readBarn_65 : decode cX5_readBarn 65 = .ok (.aload_n 0, 1) := by decide +kernel
theorem dX5_readBarn_66 : decode cX5_readBarn 66 = .ok (.iconst 0, 1) := by decide +kernel
theorem dX5_readBarn_67 : decode cX5_readBarn 67 = .ok (.bipush 9, 2) := by decide +kernel
theorem dX5_readBarn_69 : decode cX5_readBarn 69 = .ok (.invokevirtual 63, 3) := by decide +kernel
theorem dX5_readBarn_72 : decode cX5_readBarn 72 = .ok (.istore 5, 2) := by decide +kernel
theorem dX5_readBarn_74 : decode cX5_readBarn 74 = .ok (.iload 5, 2) := by decide +kernel
theorem dX5_readBarn_76 : decode cX5_readBarn 76 = .ok (.iconst (-1), 1) := by decide +kernel
theorem dX5_readBarn_77 : decode cX5_readBarn 77 = .ok (.if_icmp .ne 7, 3) := by decide +kernel
theorem dX5_readBarn_80 : decode cX5_readBarn 80 = .ok (.iconst (-1), 1) := by decide +kernel
theorem dX5_readBarn_81 : decode cX5_readBarn 81 = .ok (.goto 9, 3) := by decide +kernel
theorem dX5_readBarn_84 : decode cX5_readBarn 84 = .ok (.aload_n 0, 1) := by decide +kernel
theorem dX5_readBarn_85 : decode cX5_readBarn 85 = .ok (.iconst 0, 1) := by decide +kernel
theorem dX5_readBarn_86 : decode cX5_readBarn 86 = .ok (.iconst 3, 1) := by decide +kernel
theorem dX5_readBarn_87 : decode cX5_readBarn 87 = .ok (.invokevirtual 63, 3) := by decide +kernel
theorem dX5_readBarn_90 : decode cX5_readBarn 90 = .ok (.istore 6, 2) := by decide +kernel
theorem dX5_readBarn_92 : decode cX5_readBarn 92 = .ok (.iload 6, 2) := by decide +kernel
theorem dX5_readBarn_94 : decode cX5_readBarn 94 = .ok (.iconst (-1), 1) := by decide +kernel
theorem dX5_readBarn_95 : decode cX5_readBarn 95 = .ok (.if_icmp .eq 12, 3) := by decide +kernel
theorem dX5_readBarn_98 : decode cX5_readBarn 98 = .ok (.aload_n 1, 1) := by decide +kernel
theorem dX5_readBarn_99 : decode cX5_readBarn 99 = .ok (.getfield 51, 3) := by decide +kernel
theorem dX5_readBarn_102 : decode cX5_readBarn 102 = .ok (.bipush 8, 2) := by decide +kernel
theorem dX5_readBarn_104 : decode cX5_readBarn 104 = .ok (.if_icmp .lt 5, 3) := by decide +kernel
theorem dX5_readBarn_107 : decode cX5_readBarn 107 = .ok (.iconst 0, 1) := by decide +kernel
theorem dX5_readBarn_108 : decode cX5_readBarn 108 = .ok (.ireturn, 1) := by decide +kernel
theorem dX5_readBarn_109 : decode cX5_readBarn 109 = .ok (.aload_n 1, 1) := by decide +kernel
theorem dX5_readBarn_110 : decode cX5_readBarn 110 = .ok (.getfield 51, 3) := by decide +kernel
theorem dX5_readBarn_113 : decode cX5_readBarn 113 = .ok (.istore 7, 2) := by decide +kernel
theorem dX5_readBarn_115 : decode cX5_readBarn 115 = .ok (.aload_n 1, 1) := by decide +kernel
theorem dX5_readBarn_116 : decode cX5_readBarn 116 = .ok (.getfield 81, 3) := by decide +kernel
theorem dX5_readBarn_119 : decode cX5_readBarn 119 = .ok (.iload 7, 2) := by decide +kernel
theorem dX5_readBarn_121 : decode cX5_readBarn 121 = .ok (.iload_n 2, 1) := by decide +kernel
theorem dX5_readBarn_122 : decode cX5_readBarn 122 = .ok (.iastore, 1) := by decide +kernel
theorem dX5_readBarn_123 : decode cX5_readBarn 123 = .ok (.aload_n 1, 1) := by decide +kernel
theorem dX5_readBarn_124 : decode cX5_readBarn 124 = .ok (.getfield 84, 3) := by decide +kernel
theorem dX5_readBarn_127 : decode cX5_readBarn 127 = .ok (.iload 7, 2) := by decide +kernel
theorem dX5_readBarn_129 : decode cX5_readBarn 129 = .ok (.iload_n 3, 1) := by decide +kernel
theorem dX5_readBarn_130 : decode cX5_readBarn 130 = .ok (.iastore, 1) := by decide +kernel
theorem dX5_readBarn_131 : decode cX5_readBarn 131 = .ok (.aload_n 1, 1) := by decide +kernel
theorem dX5_readBarn_132 : decode cX5_readBarn 132 = .ok (.getfield 87, 3) := by decide +kernel
theorem dX5_readBarn_135 : decode cX5_readBarn 135 = .ok (.iload 7, 2) := by decide +kernel
theorem dX5_readBarn_137 : decode cX5_readBarn 137 = .ok (.iload 4, 2) := by decide +kernel
theorem dX5_readBarn_139 : decode cX5_readBarn 139 = .ok (.iastore, 1) := by decide +kernel
theorem dX5_readBarn_140 : decode cX5_readBarn 140 = .ok (.aload_n 1, 1) := by decide +kernel
theorem dX5_readBarn_141 : decode cX5_readBarn 141 = .ok (.getfield 90, 3) := by decide +kernel
theorem dX5_readBarn_144 : decode cX5_readBarn 144 = .ok (.iload 7, 2) := by decide +kernel
theorem dX5_readBarn_146 : decode cX5_readBarn 146 = .ok (.iload 5, 2) := by decide +kernel
theorem dX5_readBarn_148 : decode cX5_readBarn 148 = .ok (.iastore, 1) := by decide +kernel
theorem dX5_readBarn_149 : decode cX5_readBarn 149 = .ok (.aload_n 1, 1) := by decide +kernel
theorem dX5_readBarn_150 : decode cX5_readBarn 150 = .ok (.getfield 93, 3) := by decide +kernel
theorem dX5_readBarn_153 : decode cX5_readBarn 153 = .ok (.iload 7, 2) := by decide +kernel
theorem dX5_readBarn_155 : decode cX5_readBarn 155 = .ok (.iload 6, 2) := by decide +kernel
theorem dX5_readBarn_157 : decode cX5_readBarn 157 = .ok (.iastore, 1) := by decide +kernel
theorem dX5_readBarn_158 : decode cX5_readBarn 158 = .ok (.aload_n 1, 1) := by decide +kernel
theorem dX5_readBarn_159 : decode cX5_readBarn 159 = .ok (.dup, 1) := by decide +kernel
theorem dX5_readBarn_160 : decode cX5_readBarn 160 = .ok (.getfield 51, 3) := by decide +kernel
theorem dX5_readBarn_163 : decode cX5_readBarn 163 = .ok (.iconst 1, 1) := by decide +kernel
theorem dX5_readBarn_164 : decode cX5_readBarn 164 = .ok (.iadd, 1) := by decide +kernel
theorem dX5_readBarn_165 : decode cX5_readBarn 165 = .ok (.putfield 51, 3) := by decide +kernel
theorem dX5_readBarn_168 : decode cX5_readBarn 168 = .ok (.aload_n 0, 1) := by decide +kernel
theorem dX5_readBarn_169 : decode cX5_readBarn 169 = .ok (.invokevirtual 73, 3) := by decide +kernel
theorem dX5_readBarn_172 : decode cX5_readBarn 172 = .ok (.ireturn, 1) := by decide +kernel
theorem dX5_readRains_0 : decode cX5_readRains 0 = .ok (.aload_n 0, 1) := by decide +kernel
theorem dX5_readRains_1 : decode cX5_readRains 1 = .ok (.dup, 1) := by decide +kernel
theorem dX5_readRains_2 : decode cX5_readRains 2 = .ok (.getfield 27, 3) := by decide +kernel
theorem dX5_readRains_5 : decode cX5_readRains 5 = .ok (.iconst 1, 1) := by decide +kernel
theorem dX5_readRains_6 : decode cX5_readRains 6 = .ok (.iadd, 1) := by decide +kernel
theorem dX5_readRains_7 : decode cX5_readRains 7 = .ok (.putfield 27, 3) := by decide +kernel
theorem dX5_readRains_10 : decode cX5_readRains 10 = .ok (.aload_n 0, 1) := by decide +kernel
theorem dX5_readRains_11 : decode cX5_readRains 11 = .ok (.iconst 0, 1) := by decide +kernel
theorem dX5_readRains_12 : decode cX5_readRains 12 = .ok (.bipush 9, 2) := by decide +kernel
theorem dX5_readRains_14 : decode cX5_readRains 14 = .ok (.invokevirtual 63, 3) := by decide +kernel
theorem dX5_readRains_17 : decode cX5_readRains 17 = .ok (.istore_n 2, 1) := by decide +kernel
theorem dX5_readRains_18 : decode cX5_readRains 18 = .ok (.iload_n 2, 1) := by decide +kernel
theorem dX5_readRains_19 : decode cX5_readRains 19 = .ok (.iconst (-1), 1) := by decide +kernel
theorem dX5_readRains_20 : decode cX5_readRains 20 = .ok (.if_icmp .eq 12, 3) := by decide +kernel
theorem dX5_readRains_23 : decode cX5_readRains 23 = .ok (.aload_n 1, 1) := by decide +kernel
theorem dX5_readRains_24 : decode cX5_readRains 24 = .ok (.getfield 57, 3) := by decide +kernel
theorem dX5_readRains_27 : decode cX5_readRains 27 = .ok (.bipush 8, 2) := by decide +kernel
theorem dX5_readRains_29 : decode cX5_readRains 29 = .ok (.if_icmp .lt 5, 3) := by decide +kernel
theorem dX5_readRains_32 : decode cX5_readRains 32 = .ok (.iconst 0, 1) := by decide +kernel
theorem dX5_readRains_33 : decode cX5_readRains 33 = .ok (.ireturn, 1) := by decide +kernel
theorem dX5_readRains_34 : decode cX5_readRains 34 = .ok (.aload_n 1, 1) := by decide +kernel
theorem dX5_readRains_35 : decode cX5_readRains 35 = .ok (.getfield 96, 3) := by decide +kernel
theorem dX5_readRains_38 : decode cX5_readRains 38 = .ok (.aload_n 1, 1) := by decide +kernel
theorem dX5_readRains_39 : decode cX5_readRains 39 = .ok (.getfield 57, 3) := by decide +kernel
theorem dX5_readRains_42 : decode cX5_readRains 42 = .ok (.iload_n 2, 1) := by decide +kernel
theorem dX5_readRains_43 : decode cX5_readRains 43 = .ok (.iastore, 1) := by decide +kernel
theorem dX5_readRains_44 : decode cX5_readRains 44 = .ok (.aload_n 1, 1) := by decide +kernel
theorem dX5_readRains_45 : decode cX5_readRains 45 = .ok (.dup, 1) := by decide +kernel
theorem dX5_readRains_46 : decode cX5_readRains 46 = .ok (.getfield 57, 3) := by decide +kernel
theorem dX5_readRains_49 : decode cX5_readRains 49 = .ok (.iconst 1, 1) := by decide +kernel
theorem dX5_readRains_50 : decode cX5_readRains 50 = .ok (.iadd, 1) := by decide +kernel
theorem dX5_readRains_51 : decode cX5_readRains 51 = .ok (.putfield 57, 3) := by decide +kernel
theorem dX5_readRains_54 : decode cX5_readRains 54 = .ok (.aload_n 1, 1) := by decide +kernel
theorem dX5_readRains_55 : decode cX5_readRains 55 = .ok (.getfield 57, 3) := by decide +kernel
theorem dX5_readRains_58 : decode cX5_readRains 58 = .ok (.bipush 8, 2) := by decide +kernel
theorem dX5_readRains_60 : decode cX5_readRains 60 = .ok (.if_icmp .ge 12, 3) := by decide +kernel
theorem dX5_readRains_63 : decode cX5_readRains 63 = .ok (.aload_n 0, 1) := by decide +kernel
theorem dX5_readRains_64 : decode cX5_readRains 64 = .ok (.invokevirtual 33, 3) := by decide +kernel
theorem dX5_readRains_67 : decode cX5_readRains 67 = .ok (.bipush 44, 2) := by decide +kernel
theorem dX5_readRains_69 : decode cX5_readRains 69 = .ok (.if_icmp .eq (-69), 3) := by decide +kernel
theorem dX5_readRains_72 : decode cX5_readRains 72 = .ok (.aload_n 0, 1) := by decide +kernel
theorem dX5_readRains_73 : decode cX5_readRains 73 = .ok (.invokevirtual 73, 3) := by decide +kernel
theorem dX5_readRains_76 : decode cX5_readRains 76 = .ok (.ireturn, 1) := by decide +kernel
theorem dX5_readEndOfClause_0 : decode cX5_readEndOfClause 0 = .ok (.aload_n 0, 1) := by decide +kernel
theorem dX5_readEndOfClause_1 : decode cX5_readEndOfClause 1 = .ok (.invokevirtual 33, 3) := by decide +kernel
theorem dX5_readEndOfClause_4 : decode cX5_readEndOfClause 4 = .ok (.bipush 59, 2) := by decide +kernel
theorem dX5_readEndOfClause_6 : decode cX5_readEndOfClause 6 = .ok (.if_icmp .eq 13, 3) := by decide +kernel
theorem dX5_readEndOfClause_9 : decode cX5_readEndOfClause 9 = .ok (.aload_n 0, 1) := by decide +kernel
theorem dX5_readEndOfClause_10 : decode cX5_readEndOfClause 10 = .ok (.aload_n 0, 1) := by decide +kernel
theorem dX5_readEndOfClause_11 : decode cX5_readEndOfClause 11 = .ok (.getfield 27, 3) := by decide +kernel
theorem dX5_readEndOfClause_14 : decode cX5_readEndOfClause 14 = .ok (.iconst 1, 1) := by decide +kernel
theorem dX5_readEndOfClause_15 : decode cX5_readEndOfClause 15 = .ok (.invokevirtual 44, 3) := by decide +kernel
theorem dX5_readEndOfClause_18 : decode cX5_readEndOfClause 18 = .ok (.ireturn, 1) := by decide +kernel
theorem dX5_readEndOfClause_19 : decode cX5_readEndOfClause 19 = .ok (.aload_n 0, 1) := by decide +kernel
theorem dX5_readEndOfClause_20 : decode cX5_readEndOfClause 20 = .ok (.dup, 1) := by decide +kernel
theorem dX5_readEndOfClause_21 : decode cX5_readEndOfClause 21 = .ok (.getfield 27, 3) := by decide +kernel
theorem dX5_readEndOfClause_24 : decode cX5_readEndOfClause 24 = .ok (.iconst 1, 1) := by decide +kernel
theorem dX5_readEndOfClause_25 : decode cX5_readEndOfClause 25 = .ok (.iadd, 1) := by decide +kernel
theorem dX5_readEndOfClause_26 : decode cX5_readEndOfClause 26 = .ok (.putfield 27, 3) := by decide +kernel
theorem dX5_readEndOfClause_29 : decode cX5_readEndOfClause 29 = .ok (.iconst 1, 1) := by decide +kernel
theorem dX5_readEndOfClause_30 : decode cX5_readEndOfClause 30 = .ok (.ireturn, 1) := by decide +kernel
theorem dX5_readNests_0 : decode cX5_readNests 0 = .ok (.aload_n 0, 1) := by decide +kernel
theorem dX5_readNests_1 : decode cX5_readNests 1 = .ok (.invokevirtual 33, 3) := by decide +kernel
theorem dX5_readNests_4 : decode cX5_readNests 4 = .ok (.pop, 1) := by decide +kernel
theorem dX5_readNests_5 : decode cX5_readNests 5 = .ok (.aload_n 0, 1) := by decide +kernel
theorem dX5_readNests_6 : decode cX5_readNests 6 = .ok (.getfield 27, 3) := by decide +kernel
theorem dX5_readNests_9 : decode cX5_readNests 9 = .ok (.istore_n 2, 1) := by decide +kernel
theorem dX5_readNests_10 : decode cX5_readNests 10 = .ok (.aload_n 0, 1) := by decide +kernel
theorem dX5_readNests_11 : decode cX5_readNests 11 = .ok (.iconst 0, 1) := by decide +kernel
theorem dX5_readNests_12 : decode cX5_readNests 12 = .ok (.bipush 40, 2) := by decide +kernel
theorem dX5_readNests_14 : decode cX5_readNests 14 = .ok (.invokevirtual 63, 3) := by decide +kernel
theorem dX5_readNests_17 : decode cX5_readNests 17 = .ok (.istore_n 3, 1) := by decide +kernel
theorem dX5_readNests_18 : decode cX5_readNests 18 = .ok (.iload_n 3, 1) := by decide +kernel
theorem dX5_readNests_19 : decode cX5_readNests 19 = .ok (.iload_n 1, 1) := by decide +kernel
theorem dX5_readNests_20 : decode cX5_readNests 20 = .ok (.if_icmp .le 12, 3) := by decide +kernel
theorem dX5_readNests_23 : decode cX5_readNests 23 = .ok (.aload_n 0, 1) := by decide +kernel
theorem dX5_readNests_24 : decode cX5_readNests 24 = .ok (.iload_n 2, 1) := by decide +kernel
theorem dX5_readNests_25 : decode cX5_readNests 25 = .ok (.iconst 4, 1) := by decide +kernel
theorem dX5_readNests_26 : decode cX5_readNests 26 = .ok (.invokevirtual 44, 3) := by decide +kernel
theorem dX5_readNests_29 : decode cX5_readNests 29 = .ok (.pop, 1) := by decide +kernel
theorem dX5_readNests_30 : decode cX5_readNests 30 = .ok (.iconst (-1), 1) := by decide +kernel
theorem dX5_readNests_31 : decode cX5_readNests 31 = .ok (.ireturn, 1) := by decide +kernel
theorem dX5_readNests_32 : decode cX5_readNests 32 = .ok (.iload_n 3, 1) := by decide +kernel
theorem dX5_readNests_33 : decode cX5_readNests 33 = .ok (.ireturn, 1) := by decide +kernel
theorem dX5_readNumber_0 : decode cX5_readNumber 0 = .ok (.aload_n 0, 1) := by decide +kernel
theorem dX5_readNumber_1 : decode cX5_readNumber 1 = .ok (.invokevirtual 33, 3) := by decide +kernel
theorem dX5_readNumber_4 : decode cX5_readNumber 4 = .ok (.istore_n 3, 1) := by decide +kernel
theorem dX5_readNumber_5 : decode cX5_readNumber 5 = .ok (.iload_n 3, 1) := by decide +kernel
theorem dX5_readNumber_6 : decode cX5_readNumber 6 = .ok (.bipush 48, 2) := by decide +kernel
theorem dX5_readNumber_8 : decode cX5_readNumber 8 = .ok (.if_icmp .lt 9, 3) := by decide +kernel
theorem dX5_readNumber_11 : decode cX5_readNumber 11 = .ok (.iload_n 3, 1) := by decide +kernel
theorem dX5_readNumber_12 : decode cX5_readNumber 12 = .ok (.bipush 57, 2) := by decide +kernel
theorem dX5_readNumber_14 : decode cX5_readNumber 14 = .ok (.if_icmp .le 15, 3) := by decide +kernel
theorem dX5_readNumber_17 : decode cX5_readNumber 17 = .ok (.aload_n 0, 1) := by decide +kernel
theorem dX5_readNumber_18 : decode cX5_readNumber 18 = .ok (.aload_n 0, 1) := by decide +kernel
theorem dX5_readNumber_19 : decode cX5_readNumber 19 = .ok (.getfield 27, 3) := by decide +kernel
theorem dX5_readNumber_22 : decode cX5_readNumber 22 = .ok (.iconst 1, 1) := by decide +kernel
theorem dX5_readNumber_23 : decode cX5_readNumber 23 = .ok (.invokevirtual 44, 3) := by decide +kernel
theorem dX5_readNumber_26 : decode cX5_readNumber 26 = .ok (.pop, 1) := by decide +kernel
theorem dX5_readNumber_27 : decode cX5_readNumber 27 = .ok (.iconst (-1), 1) := by decide +kernel
theorem dX5_readNumber_28 : decode cX5_readNumber 28 = .ok (.ireturn, 1) := by decide +kernel
theorem dX5_readNumber_29 : decode cX5_readNumber 29 = .ok (.aload_n 0, 1) := by decide +kernel
theorem dX5_readNumber_30 : decode cX5_readNumber 30 = .ok (.getfield 27, 3) := by decide +kernel
theorem dX5_readNumber_33 : decode cX5_readNumber 33 = .ok (.istore 4, 2) := by decide +kernel
theorem dX5_readNumber_35 : decode cX5_readNumber 35 = .ok (.iconst 0, 1) := by decide +kernel
theorem dX5_readNumber_36 : decode cX5_readNumber 36 = .ok (.istore 5, 2) := by decide +kernel
theorem dX5_readNumber_38 : decode cX5_readNumber 38 = .ok (.aload_n 0, 1) := by decide +kernel
theorem dX5_readNumber_39 : decode cX5_readNumber 39 = .ok (.getfield 27, 3) := by decide +kernel
theorem dX5_readNumber_42 : decode cX5_readNumber 42 = .ok (.aload_n 0, 1) := by decide +kernel
theorem dX5_readNumber_43 : decode cX5_readNumber 43 = .ok (.getfield 19, 3) := by decide +kernel
theorem dX5_readNumber_46 : decode cX5_readNumber 46 = .ok (.if_icmp .ge 80, 3) := by decide +kernel
theorem dX5_readNumber_49 : decode cX5_readNumber 49 = .ok (.aload_n 0, 1) := by decide +kernel
theorem dX5_readNumber_50 : decode cX5_readNumber 50 = .ok (.getfield 9, 3) := by decide +kernel
theorem dX5_readNumber_53 : decode cX5_readNumber 53 = .ok (.aload_n 0, 1) := by decide +kernel
theorem dX5_readNumber_54 : decode cX5_readNumber 54 = .ok (.getfield 27, 3) := by decide +kernel
theorem dX5_readNumber_57 : decode cX5_readNumber 57 = .ok (.iaload, 1) := by decide +kernel
theorem dX5_readNumber_58 : decode cX5_readNumber 58 = .ok (.bipush 48, 2) := by decide +kernel
theorem dX5_readNumber_60 : decode cX5_readNumber 60 = .ok (.if_icmp .lt 66, 3) := by decide +kernel
theorem dX5_readNumber_63 : decode cX5_readNumber 63 = .ok (.aload_n 0, 1) := by decide +kernel
theorem dX5_readNumber_64 : decode cX5_readNumber 64 = .ok (.getfield 9, 3) := by decide +kernel
theorem dX5_readNumber_67 : decode cX5_readNumber 67 = .ok (.aload_n 0, 1) := by decide +kernel
theorem dX5_readNumber_68 : decode cX5_readNumber 68 = .ok (.getfield 27, 3) := by decide +kernel
theorem dX5_readNumber_71 : decode cX5_readNumber 71 = .ok (.iaload, 1) := by decide +kernel
theorem dX5_readNumber_72 : decode cX5_readNumber 72 = .ok (.bipush 57, 2) := by decide +kernel
theorem dX5_readNumber_74 : decode cX5_readNumber 74 = .ok (.if_icmp .gt 52, 3) := by decide +kernel
theorem dX5_readNumber_77 : decode cX5_readNumber 77 = .ok (.aload_n 0, 1) := by decide +kernel
theorem dX5_readNumber_78 : decode cX5_readNumber 78 = .ok (.getfield 27, 3) := by decide +kernel
theorem dX5_readNumber_81 : decode cX5_readNumber 81 = .ok (.iload 4, 2) := by decide +kernel
theorem dX5_readNumber_83 : decode cX5_readNumber 83 = .ok (.isub, 1) := by decide +kernel
theorem dX5_readNumber_84 : decode cX5_readNumber 84 = .ok (.iconst 3, 1) := by decide +kernel
theorem dX5_readNumber_85 : decode cX5_readNumber 85 = .ok (.if_icmp .ge 24, 3) := by decide +kernel
theorem dX5_readNumber_88 : decode cX5_readNumber 88 = .ok (.iload 5, 2) := by decide +kernel
theorem dX5_readNumber_90 : decode cX5_readNumber 90 = .ok (.bipush 10, 2) := by decide +kernel
theorem dX5_readNumber_92 : decode cX5_readNumber 92 = .ok (.imul, 1) := by decide +kernel
theorem dX5_readNumber_93 : decode cX5_readNumber 93 = .ok (.aload_n 0, 1) := by decide +kernel
theorem dX5_readNumber_94 : decode cX5_readNumber 94 = .ok (.getfield 9, 3) := by decide +kernel
theorem dX5_readNumber_97 : decode cX5_readNumber 97 = .ok (.aload_n 0, 1) := by decide +kernel
theorem dX5_readNumber_98 : decode cX5_readNumber 98 = .ok (.getfield 27, 3) := by decide +kernel
theorem dX5_readNumber_101 : decode cX5_readNumber 101 = .ok (.iaload, 1) := by decide +kernel
theorem dX5_readNumber_102 : decode cX5_readNumber 102 = .ok (.iadd, 1) := by decide +kernel
theorem dX5_readNumber_103 : decode cX5_readNumber 103 = .ok (.bipush 48, 2) := by decide +kernel
theorem dX5_readNumber_105 : decode cX5_readNumber 105 = .ok (.isub, 1) := by decide +kernel
theorem dX5_readNumber_106 : decode cX5_readNumber 106 = .ok (.goto 5, 3) := by decide +kernel
theorem dX5_readNumber_109 : decode cX5_readNumber 109 = .ok (.iload 5, 2) := by decide +kernel
theorem dX5_readNumber_111 : decode cX5_readNumber 111 = .ok (.istore 5, 2) := by decide +kernel
theorem dX5_readNumber_113 : decode cX5_readNumber 113 = .ok (.aload_n 0, 1) := by decide +kernel
theorem dX5_readNumber_114 : decode cX5_readNumber 114 = .ok (.dup, 1) := by decide +kernel
theorem dX5_readNumber_115 : decode cX5_readNumber 115 = .ok (.getfield 27, 3) := by decide +kernel
theorem dX5_readNumber_118 : decode cX5_readNumber 118 = .ok (.iconst 1, 1) := by decide +kernel
theorem dX5_readNumber_119 : decode cX5_readNumber 119 = .ok (.iadd, 1) := by decide +kernel
theorem dX5_readNumber_120 : decode cX5_readNumber 120 = .ok (.putfield 27, 3) := by decide +kernel
theorem dX5_readNumber_123 : decode cX5_readNumber 123 = .ok (.goto (-85), 3) := by decide +kernel
theorem dX5_readNumber_126 : decode cX5_readNumber 126 = .ok (.aload_n 0, 1) := by decide +kernel
theorem dX5_readNumber_127 : decode cX5_readNumber 127 = .ok (.getfield 27, 3) := by decide +kernel
theorem dX5_readNumber_130 : decode cX5_readNumber 130 = .ok (.iload 4, 2) := by decide +kernel
theorem dX5_readNumber_132 : decode cX5_readNumber 132 = .ok (.isub, 1) := by decide +kernel
theorem dX5_readNumber_133 : decode cX5_readNumber 133 = .ok (.iconst 3, 1) := by decide +kernel
theorem dX5_readNumber_134 : decode cX5_readNumber 134 = .ok (.if_icmp .gt 15, 3) := by decide +kernel
theorem dX5_readNumber_137 : decode cX5_readNumber 137 = .ok (.iload 5, 2) := by decide +kernel
theorem dX5_readNumber_139 : decode cX5_readNumber 139 = .ok (.iload_n 1, 1) := by decide +kernel
theorem dX5_readNumber_140 : decode cX5_readNumber 140 = .ok (.if_icmp .lt 9, 3) := by decide +kernel
theorem dX5_readNumber_143 : decode cX5_readNumber 143 = .ok (.iload 5, 2) := by decide +kernel
theorem dX5_readNumber_145 : decode cX5_readNumber 145 = .ok (.iload_n 2, 1) := by decide +kernel
theorem dX5_readNumber_146 : decode cX5_readNumber 146 = .ok (.if_icmp .le 13, 3) := by decide +kernel
theorem dX5_readNumber_149 : decode cX5_readNumber 149 = .ok (.aload_n 0, 1) := by decide +kernel
theorem dX5_readNumber_150 : decode cX5_readNumber 150 = .ok (.iload 4, 2) := by decide +kernel
theorem dX5_readNumber_152 : decode cX5_readNumber 152 = .ok (.iconst 2, 1) := by decide +kernel
theorem dX5_readNumber_153 : decode cX5_readNumber 153 = .ok (.invokevirtual 44, 3) := by decide +kernel
theorem dX5_readNumber_156 : decode cX5_readNumber 156 = .ok (.pop, 1) := by decide +kernel
theorem dX5_readNumber_157 : decode cX5_readNumber 157 = .ok (.iconst (-1), 1) := by decide +kernel
theorem dX5_readNumber_158 : decode cX5_readNumber 158 = .ok (.ireturn, 1) := by decide +kernel
theorem dX5_readNumber_159 : decode cX5_readNumber 159 = .ok (.iload 5, 2) := by decide +kernel
theorem dX5_readNumber_161 : decode cX5_readNumber 161 = .ok (.ireturn, 1) := by decide +kernel
theorem dX5_nextLetter_0 : decode cX5_nextLetter 0 = .ok (.aload_n 0, 1) := by decide +kernel
theorem dX5_nextLetter_1 : decode cX5_nextLetter 1 = .ok (.getfield 27, 3) := by decide +kernel
theorem dX5_nextLetter_4 : decode cX5_nextLetter 4 = .ok (.aload_n 0, 1) := by decide +kernel
theorem dX5_nextLetter_5 : decode cX5_nextLetter 5 = .ok (.getfield 19, 3) := by decide +kernel
theorem dX5_nextLetter_8 : decode cX5_nextLetter 8 = .ok (.if_icmp .ge 30, 3) := by decide +kernel
theorem dX5_nextLetter_11 : decode cX5_nextLetter 11 = .ok (.aload_n 0, 1) := by decide +kernel
theorem dX5_nextLetter_12 : decode cX5_nextLetter 12 = .ok (.getfield 9, 3) := by decide +kernel
theorem dX5_nextLetter_15 : decode cX5_nextLetter 15 = .ok (.aload_n 0, 1) := by decide +kernel
theorem dX5_nextLetter_16 : decode cX5_nextLetter 16 = .ok (.getfield 27, 3) := by decide +kernel
theorem dX5_nextLetter_19 : decode cX5_nextLetter 19 = .ok (.iaload, 1) := by decide +kernel
theorem dX5_nextLetter_20 : decode cX5_nextLetter 20 = .ok (.bipush 32, 2) := by decide +kernel
theorem dX5_nextLetter_22 : decode cX5_nextLetter 22 = .ok (.if_icmp .ne 16, 3) := by decide +kernel
theorem dX5_nextLetter_25 : decode cX5_nextLetter 25 = .ok (.aload_n 0, 1) := by decide +kernel
theorem dX5_nextLetter_26 : decode cX5_nextLetter 26 = .ok (.dup, 1) := by decide +kernel
theorem dX5_nextLetter_27 : decode cX5_nextLetter 27 = .ok (.getfield 27, 3) := by decide +kernel
theorem dX5_nextLetter_30 : decode cX5_nextLetter 30 = .ok (.iconst 1, 1) := by decide +kernel
theorem dX5_nextLetter_31 : decode cX5_nextLetter 31 = .ok (.iadd, 1) := by decide +kernel
theorem dX5_nextLetter_32 : decode cX5_nextLetter 32 = .ok (.putfield 27, 3) := by decide +kernel
theorem dX5_nextLetter_35 : decode cX5_nextLetter 35 = .ok (.goto (-35), 3) := by decide +kernel
theorem dX5_nextLetter_38 : decode cX5_nextLetter 38 = .ok (.aload_n 0, 1) := by decide +kernel
theorem dX5_nextLetter_39 : decode cX5_nextLetter 39 = .ok (.getfield 27, 3) := by decide +kernel
theorem dX5_nextLetter_42 : decode cX5_nextLetter 42 = .ok (.aload_n 0, 1) := by decide +kernel
theorem dX5_nextLetter_43 : decode cX5_nextLetter 43 = .ok (.getfield 19, 3) := by decide +kernel
theorem dX5_nextLetter_46 : decode cX5_nextLetter 46 = .ok (.if_icmp .ge 15, 3) := by decide +kernel
theorem dX5_nextLetter_49 : decode cX5_nextLetter 49 = .ok (.aload_n 0, 1) := by decide +kernel
theorem dX5_nextLetter_50 : decode cX5_nextLetter 50 = .ok (.getfield 9, 3) := by decide +kernel
theorem dX5_nextLetter_53 : decode cX5_nextLetter 53 = .ok (.aload_n 0, 1) := by decide +kernel
theorem dX5_nextLetter_54 : decode cX5_nextLetter 54 = .ok (.getfield 27, 3) := by decide +kernel
theorem dX5_nextLetter_57 : decode cX5_nextLetter 57 = .ok (.iaload, 1) := by decide +kernel
theorem dX5_nextLetter_58 : decode cX5_nextLetter 58 = .ok (.goto 4, 3) := by decide +kernel
theorem dX5_nextLetter_61 : decode cX5_nextLetter 61 = .ok (.iconst (-1), 1) := by decide +kernel
theorem dX5_nextLetter_62 : decode cX5_nextLetter 62 = .ok (.ireturn, 1) := by decide +kernel
theorem dX5_faulty_0 : decode cX5_faulty 0 = .ok (.aload_n 0, 1) := by decide +kernel
theorem dX5_faulty_1 : decode cX5_faulty 1 = .ok (.iload_n 1, 1) := by decide +kernel
theorem dX5_faulty_2 : decode cX5_faulty 2 = .ok (.putfield 15, 3) := by decide +kernel
theorem dX5_faulty_5 : decode cX5_faulty 5 = .ok (.aload_n 0, 1) := by decide +kernel
theorem dX5_faulty_6 : decode cX5_faulty 6 = .ok (.iload_n 2, 1) := by decide +kernel
theorem dX5_faulty_7 : decode cX5_faulty 7 = .ok (.putfield 30, 3) := by decide +kernel
theorem dX5_faulty_10 : decode cX5_faulty 10 = .ok (.iconst 0, 1) := by decide +kernel
theorem dX5_faulty_11 : decode cX5_faulty 11 = .ok (.ireturn, 1) := by decide +kernel
theorem dX6_init_0 : decode cX6_init 0 = .ok (.aload_n 0, 1) := by decide +kernel
theorem dX6_init_1 : decode cX6_init 1 = .ok (.invokespecial 3, 3) := by decide +kernel
theorem dX6_init_4 : decode cX6_init 4 = .ok (.aload_n 0, 1) := by decide +kernel
theorem dX6_init_5 : decode cX6_init 5 = .ok (.new 9, 3) := by decide +kernel
theorem dX6_init_8 : decode cX6_init 8 = .ok (.dup, 1) := by decide +kernel
theorem dX6_init_9 : decode cX6_init 9 = .ok (.invokespecial 11, 3) := by decide +kernel
theorem dX6_init_12 : decode cX6_init 12 = .ok (.putfield 12, 3) := by decide +kernel
theorem dX6_init_15 : decode cX6_init 15 = .ok (.aload_n 0, 1) := by decide +kernel
theorem dX6_init_16 : decode cX6_init 16 = .ok (.new 16, 3) := by decide +kernel
theorem dX6_init_19 : decode cX6_init 19 = .ok (.dup, 1) := by decide +kernel
theorem dX6_init_20 : decode cX6_init 20 = .ok (.invokespecial 18, 3) := by decide +kernel
theorem dX6_init_23 : decode cX6_init 23 = .ok (.putfield 19, 3) := by decide +kernel
theorem dX6_init_26 : decode cX6_init 26 = .ok (.aload_n 0, 1) := by decide +kernel
theorem dX6_init_27 : decode cX6_init 27 = .ok (.new 16, 3) := by decide +kernel
theorem dX6_init_30 : decode cX6_init 30 = .ok (.dup, 1) := by decide +kernel
theorem dX6_init_31 : decode cX6_init 31 = .ok (.invokespecial 18, 3) := by decide +kernel
theorem dX6_init_34 : decode cX6_init 34 = .ok (.putfield 23, 3) := by decide +kernel
theorem dX6_init_37 : decode cX6_init 37 = .ok (.aload_n 0, 1) := by decide +kernel
theorem dX6_init_38 : decode cX6_init 38 = .ok (.new 26, 3) := by decide +kernel
theorem dX6_init_41 : decode cX6_init 41 = .ok (.dup, 1) := by decide +kernel
theorem dX6_init_42 : decode cX6_init 42 = .ok (.invokespecial 28, 3) := by decide +kernel
theorem dX6_init_45 : decode cX6_init 45 = .ok (.putfield 29, 3) := by decide +kernel
theorem dX6_init_48 : decode cX6_init 48 = .ok (.aload_n 0, 1) := by decide +kernel
theorem dX6_init_49 : decode cX6_init 49 = .ok (.new 26, 3) := by decide +kernel
theorem dX6_init_52 : decode cX6_init 52 = .ok (.dup, 1) := by decide +kernel
theorem dX6_init_53 : decode cX6_init 53 = .ok (.invokespecial 28, 3) := by decide +kernel
theorem dX6_init_56 : decode cX6_init 56 = .ok (.putfield 33, 3) := by decide +kernel
theorem dX6_init_59 : decode cX6_init 59 = .ok (.aload_n 0, 1) := by decide +kernel
theorem dX6_init_60 : decode cX6_init 60 = .ok (.new 36, 3) := by decide +kernel
theorem dX6_init_63 : decode cX6_init 63 = .ok (.dup, 1) := by decide +kernel
theorem dX6_init_64 : decode cX6_init 64 = .ok (.invokespecial 38, 3) := by decide +kernel
theorem dX6_init_67 : decode cX6_init 67 = .ok (.putfield 39, 3) := by decide +kernel
theorem dX6_init_70 : decode cX6_init 70 = .ok (.aload_n 0, 1) := by decide +kernel
theorem dX6_init_71 : decode cX6_init 71 = .ok (.new 43, 3) := by decide +kernel
theorem dX6_init_74 : decode cX6_init 74 = .ok (.dup, 1) := by decide +kernel
theorem dX6_init_75 : decode cX6_init 75 = .ok (.iconst 2, 1) := by decide +kernel
theorem dX6_init_76 : decode cX6_init 76 = .ok (.invokespecial 45, 3) := by decide +kernel
theorem dX6_init_79 : decode cX6_init 79 = .ok (.putfield 48, 3) := by decide +kernel
theorem dX6_init_82 : decode cX6_init 82 = .ok (.aload_n 0, 1) := by decide +kernel
theorem dX6_init_83 : decode cX6_init 83 = .ok (.iconst 2, 1) := by decide +kernel
theorem dX6_init_84 : decode cX6_init 84 = .ok (.newarray .int, 2) := by decide +kernel
theorem dX6_init_86 : decode cX6_init 86 = .ok (.putfield 52, 3) := by decide +kernel
theorem dX6_init_89 : decode cX6_init 89 = .ok (.aload_n 0, 1) := by decide +kernel
theorem dX6_init_90 : decode cX6_init 90 = .ok (.new 56, 3) := by decide +kernel
theorem dX6_init_93 : decode cX6_init 93 = .ok (.dup, 1) := by decide +kernel
theorem dX6_init_94 : decode cX6_init 94 = .ok (.bipush 8, 2) := by decide +kernel
theorem dX6_init_96 : decode cX6_init 96 = .ok (.invokespecial 58, 3) := by decide +kernel
theorem dX6_init_99 : decode cX6_init 99 = .ok (.putfield 59, 3) := by decide +kernel
theorem dX6_init_102 : decode cX6_init 102 = .ok (.aload_n 0, 1) := by decide +kernel
theorem dX6_init_103 : decode cX6_init 103 = .ok (.new 56, 3) := by decide +kernel
theorem dX6_init_106 : decode cX6_init 106 = .ok (.dup, 1) := by decide +kernel
theorem dX6_init_107 : decode cX6_init 107 = .ok (.bipush 8, 2) := by decide +kernel
theorem dX6_init_109 : decode cX6_init 109 = .ok (.invokespecial 58, 3) := by decide +kernel
theorem dX6_init_112 : decode cX6_init 112 = .ok (.putfield 63, 3) := by decide +kernel
theorem dX6_init_115 : decode cX6_init 115 = .ok (.aload_n 0, 1) := by decide +kernel
theorem dX6_init_116 : decode cX6_init 116 = .ok (.new 56, 3) := by decide +kernel
theorem dX6_init_119 : decode cX6_init 119 = .ok (.dup, 1) := by decide +kernel
theorem dX6_init_120 : decode cX6_init 120 = .ok (.bipush 15, 2) := by decide +kernel
theorem dX6_init_122 : decode cX6_init 122 = .ok (.invokespecial 58, 3) := by decide +kernel
theorem dX6_init_125 : decode cX6_init 125 = .ok (.putfield 66, 3) := by decide +kernel
theorem dX6_init_128 : decode cX6_init 128 = .ok (.aload_n 0, 1) := by decide +kernel
theorem dX6_init_129 : decode cX6_init 129 = .ok (.bipush 8, 2) := by decide +kernel
theorem dX6_init_131 : decode cX6_init 131 = .ok (.newarray .int, 2) := by decide +kernel
theorem dX6_init_133 : decode cX6_init 133 = .ok (.putfield 69, 3) := by decide +kernel
theorem dX6_init_136 : decode cX6_init 136 = .ok (.aload_n 0, 1) := by decide +kernel
theorem dX6_init_137 : decode cX6_init 137 = .ok (.bipush 9, 2) := by decide +kernel
theorem dX6_init_139 : decode cX6_init 139 = .ok (.newarray .int, 2) := by decide +kernel
theorem dX6_init_141 : decode cX6_init 141 = .ok (.putfield 72, 3) := by decide +kernel
theorem dX6_init_144 : decode cX6_init 144 = .ok (.return_, 1) := by decide +kernel
theorem dX6_feed_0 : decode cX6_feed 0 = .ok (.iload_n 1, 1) := by decide +kernel
theorem dX6_feed_1 : decode cX6_feed 1 = .ok (.ifCond .lt 10, 3) := by decide +kernel
theorem dX6_feed_4 : decode cX6_feed 4 = .ok (.iload_n 1, 1) := by decide +kernel
theorem dX6_feed_5 : decode cX6_feed 5 = .ok (.sipush 255, 3) := by decide +kernel
theorem dX6_feed_8 : decode cX6_feed 8 = .ok (.if_icmp .le 6, 3) := by decide +kernel
theorem dX6_feed_11 : decode cX6_feed 11 = .ok (.ldc 75, 2) := by decide +kernel
theorem dX6_feed_13 : decode cX6_feed 13 = .ok (.ireturn, 1) := by decide +kernel
theorem dX6_feed_14 : decode cX6_feed 14 = .ok (.aload_n 0, 1) := by decide +kernel
theorem dX6_feed_15 : decode cX6_feed 15 = .ok (.getfield 12, 3) := by decide +kernel
theorem dX6_feed_18 : decode cX6_feed 18 = .ok (.iload_n 1, 1) := by decide +kernel
theorem dX6_feed_19 : decode cX6_feed 19 = .ok (.invokevirtual 76, 3) := by decide +kernel
theorem dX6_feed_22 : decode cX6_feed 22 = .ok (.ifCond .eq 13, 3) := by decide +kernel
theorem dX6_feed_25 : decode cX6_feed 25 = .ok (.aload_n 0, 1) := by decide +kernel
theorem dX6_feed_26 : decode cX6_feed 26 = .ok (.getfield 12, 3) := by decide +kernel
theorem dX6_feed_29 : decode cX6_feed 29 = .ok (.getfield 80, 3) := by decide +kernel
theorem dX6_feed_32 : decode cX6_feed 32 = .ok (.goto 5, 3) := by decide +kernel
theorem dX6_feed_35 : decode cX6_feed 35 = .ok (.ldc 84, 2) := by decide +kernel
theorem dX6_feed_37 : decode cX6_feed 37 = .ok (.ireturn, 1) := by decide +kernel
theorem dX6_land_0 : decode cX6_land 0 = .ok (.aload_n 0, 1) := by decide +kernel
theorem dX6_land_1 : decode cX6_land 1 = .ok (.getfield 12, 3) := by decide +kernel
theorem dX6_land_4 : decode cX6_land 4 = .ok (.aload_n 0, 1) := by decide +kernel
theorem dX6_land_5 : decode cX6_land 5 = .ok (.getfield 23, 3) := by decide +kernel
theorem dX6_land_8 : decode cX6_land 8 = .ok (.invokevirtual 85, 3) := by decide +kernel
theorem dX6_land_11 : decode cX6_land 11 = .ok (.istore_n 1, 1) := by decide +kernel
theorem dX6_land_12 : decode cX6_land 12 = .ok (.aload_n 0, 1) := by decide +kernel
theorem dX6_land_13 : decode cX6_land 13 = .ok (.getfield 12, 3) := by decide +kernel
theorem dX6_land_16 : decode cX6_land 16 = .ok (.iconst 0, 1) := by decide +kernel
theorem dX6_land_17 : decode cX6_land 17 = .ok (.putfield 80, 3) := by decide +kernel
theorem dX6_land_20 : decode cX6_land 20 = .ok (.iload_n 1, 1) := by decide +kernel
theorem dX6_land_21 : decode cX6_land 21 = .ok (.ifCond .ne 14, 3) := by decide +kernel
theorem dX6_land_24 : decode cX6_land 24 = .ok (.bipush (-10), 2) := by decide +kernel
theorem dX6_land_26 : decode cX6_land 26 = .ok (.aload_n 0, 1) := by decide +kernel
theorem dX6_land_27 : decode cX6_land 27 = .ok (.getfield 12, 3) := by decide +kernel
theorem dX6_land_30 : decode cX6_land 30 = .ok (.getfield 89, 3) := by decide +kernel
theorem dX6_land_33 : decode cX6_land 33 = .ok (.isub, 1) := by decide +kernel
theorem dX6_land_34 : decode cX6_land 34 = .ok (.ireturn, 1) := by decide +kernel
theorem dX6_land_35 : decode cX6_land 35 = .ok (.aload_n 0, 1) := by decide +kernel
theorem dX6_land_36 : decode cX6_land 36 = .ok (.getfield 19, 3) := by decide +kernel
theorem dX6_land_39 : decode cX6_land 39 = .ok (.astore_n 2, 1) := by decide +kernel
theorem dX6_land_40 : decode cX6_land 40 = .ok (.aload_n 0, 1) := by decide +kernel
theorem dX6_land_41 : decode cX6_land 41 = .ok (.aload_n 0, 1) := by decide +kernel
theorem dX6_land_42 : decode cX6_land 42 = .ok (.getfield 23, 3) := by decide +kernel
theorem dX6_land_45 : decode cX6_land 45 = .ok (.putfield 19, 3) := by decide +kernel
theorem dX6_land_48 : decode cX6_land 48 = .ok (.aload_n 0, 1) := by decide +kernel
theorem dX6_land_49 : decode cX6_land 49 = .ok (.aload_n 2, 1) := by decide +kernel
theorem dX6_land_50 : decode cX6_land 50 = .ok (.putfield 23, 3) := by decide +kernel
theorem dX6_land_53 : decode cX6_land 53 = .ok (.aload_n 0, 1) := by decide +kernel
theorem dX6_land_54 : decode cX6_land 54 = .ok (.getfield 29, 3) := by decide +kernel
theorem dX6_land_57 : decode cX6_land 57 = .ok (.aload_n 0, 1) := by decide +kernel
theorem dX6_land_58 : decode cX6_land 58 = .ok (.getfield 19, 3) := by decide +kernel
theorem dX6_land_61 : decode cX6_land 61 = .ok (.invokevirtual 92, 3) := by decide +kernel
theorem dX6_land_64 : decode cX6_land 64 = .ok (.aload_n 0, 1) := by decide +kernel
theorem dX6_land_65 : decode cX6_land 65 = .ok (.getfield 39, 3) := by decide +kernel
theorem dX6_land_68 : decode cX6_land 68 = .ok (.invokevirtual 96, 3) := by decide +kernel
theorem dX6_land_71 : decode cX6_land 71 = .ok (.aload_n 0, 1) := by decide +kernel
theorem dX6_land_72 : decode cX6_land 72 = .ok (.iconst 0, 1) := by decide +kernel
theorem dX6_land_73 : decode cX6_land 73 = .ok (.putfield 99, 3) := by decide +kernel
theorem dX6_land_76 : decode cX6_land 76 = .ok (.aload_n 0, 1) := by decide +kernel
theorem dX6_land_77 : decode cX6_land 77 = .ok (.invokevirtual 102, 3) := by decide +kernel
theorem dX6_land_80 : decode cX6_land 80 = .ok (.aload_n 0, 1) := by decide +kernel
theorem dX6_land_81 : decode cX6_land 81 = .ok (.getfield 19, 3) := by decide +kernel
theorem dX6_land_84 : decode cX6_land 84 = .ok (.getfield 105, 3) := by decide +kernel
theorem dX6_land_87 : decode cX6_land 87 = .ok (.ireturn, 1) := by decide +kernel
theorem dX6_fault_0 : decode cX6_fault 0 = .ok (.aload_n 0, 1) := by decide +kernel
theorem dX6_fault_1 : decode cX6_fault 1 = .ok (.getfield 12, 3) := by decide +kernel
theorem dX6_fault_4 : decode cX6_fault 4 = .ok (.getfield 108, 3) := by decide +kernel
theorem dX6_fault_7 : decode cX6_fault 7 = .ok (.ireturn, 1) := by decide +kernel
theorem dX6_told_0 : decode cX6_told 0 = .ok (.iload_n 1, 1) := by decide +kernel
theorem dX6_told_1 : decode cX6_told 1 = .ok (.tableswitch 222 0 14 #[75, 83, 91, 99, 107, 115, 123, 138, 146, 164, 172, 190, 198, 206, 214], 75) := by decide +kernel
theorem dX6_told_76 : decode cX6_told 76 = .ok (.aload_n 0, 1) := by decide +kernel
theorem dX6_told_77 : decode cX6_told 77 = .ok (.getfield 19, 3) := by decide +kernel
theorem dX6_told_80 : decode cX6_told 80 = .ok (.getfield 111, 3) := by decide +kernel
theorem dX6_told_83 : decode cX6_told 83 = .ok (.ireturn, 1) := by decide +kernel
theorem dX6_told_84 : decode cX6_told 84 = .ok (.aload_n 0, 1) := by decide +kernel
theorem dX6_told_85 : decode cX6_told 85 = .ok (.getfield 19, 3) := by decide +kernel
theorem dX6_told_88 : decode cX6_told 88 = .ok (.getfield 114, 3) := by decide +kernel
theorem dX6_told_91 : decode cX6_told 91 = .ok (.ireturn, 1) := by decide +kernel
theorem dX6_told_92 : decode cX6_told 92 = .ok (.aload_n 0, 1) := by decide +kernel
theorem dX6_told_93 : decode cX6_told 93 = .ok (.getfield 19, 3) := by decide +kernel
theorem dX6_told_96 : decode cX6_told 96 = .ok (.getfield 117, 3) := by decide +kernel
theorem dX6_told_99 : decode cX6_told 99 = .ok (.ireturn, 1) := by decide +kernel
theorem dX6_told_100 : decode cX6_told 100 = .ok (.aload_n 0, 1) := by decide +kernel
theorem dX6_told_101 : decode cX6_told 101 = .ok (.getfield 19, 3) := by decide +kernel
theorem dX6_told_104 : decode cX6_told 104 = .ok (.getfield 105, 3) := by decide +kernel
theorem dX6_told_107 : decode cX6_told 107 = .ok (.ireturn, 1) := by decide +kernel
theorem dX6_told_108 : decode cX6_told 108 = .ok (.aload_n 0, 1) := by decide +kernel
theorem dX6_told_109 : decode cX6_told 109 = .ok (.getfield 12, 3) := by decide +kernel
theorem dX6_told_112 : decode cX6_told 112 = .ok (.getfield 80, 3) := by decide +kernel
theorem dX6_told_115 : decode cX6_told 115 = .ok (.ireturn, 1) := by decide +kernel
theorem dX6_told_116 : decode cX6_told 116 = .ok (.aload_n 0, 1) := by decide +kernel
theorem dX6_told_117 : decode cX6_told 117 = .ok (.getfield 29, 3) := by decide +kernel
theorem dX6_told_120 : decode cX6_told 120 = .ok (.getfield 120, 3) := by decide +kernel
theorem dX6_told_123 : decode cX6_told 123 = .ok (.ireturn, 1) := by decide +kernel
theorem dX6_told_124 : decode cX6_told 124 = .ok (.aload_n 0, 1) := by decide +kernel
theorem dX6_told_125 : decode cX6_told 125 = .ok (.getfield 19, 3) := by decide +kernel
theorem dX6_told_128 : decode cX6_told 128 = .ok (.aload_n 0, 1) := by decide +kernel
theorem dX6_told_129 : decode cX6_told 129 = .ok (.getfield 29, 3) := by decide +kernel
theorem dX6_told_132 : decode cX6_told 132 = .ok (.getfield 120, 3) := by decide +kernel
theorem dX6_told_135 : decode cX6_told 135 = .ok (.invokevirtual 123, 3) := by decide +kernel
theorem dX6_told_138 : decode cX6_told 138 = .ok (.ireturn, 1) := by decide +kernel
theorem dX6_told_139 : decode cX6_told 139 = .ok (.aload_n 0, 1) := by decide +kernel
theorem dX6_told_140 : decode cX6_told 140 = .ok (.getfield 29, 3) := by decide +kernel
theorem dX6_told_143 : decode cX6_told 143 = .ok (.getfield 127, 3) := by decide +kernel
theorem dX6_told_146 : decode cX6_told 146 = .ok (.ireturn, 1) := by decide +kernel
theorem dX6_told_147 : decode cX6_told 147 = .ok (.aload_n 0, 1) := by decide +kernel
theorem dX6_told_148 : decode cX6_told 148 = .ok (.getfield 29, 3) := by decide +kernel
theorem dX6_told_151 : decode cX6_told 151 = .ok (.getfield 130, 3) := by decide +kernel
theorem dX6_told_154 : decode cX6_told 154 = .ok (.aload_n 0, 1) := by decide +kernel
theorem dX6_told_155 : decode cX6_told 155 = .ok (.getfield 19, 3) := by decide +kernel
theorem dX6_told_158 : decode cX6_told 158 = .ok (.invokevirtual 133, 3) := by decide +kernel
theorem dX6_told_161 : decode cX6_told 161 = .ok (.invokestatic 137, 3) := by decide +kernel
theorem dX6_told_164 : decode cX6_told 164 = .ok (.ireturn, 1) := by decide +kernel
theorem dX6_told_165 : decode cX6_told 165 = .ok (.aload_n 0, 1) := by decide +kernel
theorem dX6_told_166 : decode cX6_told 166 = .ok (.getfield 29, 3) := by decide +kernel
theorem dX6_told_169 : decode cX6_told 169 = .ok (.getfield 141, 3) := by decide +kernel
theorem dX6_told_172 : decode cX6_told 172 = .ok (.ireturn, 1) := by decide +kernel
theorem dX6_told_173 : decode cX6_told 173 = .ok (.aload_n 0, 1) := by decide +kernel
theorem dX6_told_174 : decode cX6_told 174 = .ok (.getfield 29, 3) := by decide +kernel
theorem dX6_told_177 : decode cX6_told 177 = .ok (.getfield 144, 3) := by decide +kernel
theorem dX6_told_180 : decode cX6_told 180 = .ok (.aload_n 0, 1) := by decide +kernel
theorem dX6_told_181 : decode cX6_told 181 = .ok (.getfield 19, 3) := by decide +kernel
theorem dX6_told_184 : decode cX6_told 184 = .ok (.invokevirtual 133, 3) := by decide +kernel
theorem dX6_told_187 : decode cX6_told 187 = .ok (.invokestatic 137, 3) := by decide +kernel
theorem dX6_told_190 : decode cX6_told 190 = .ok (.ireturn, 1) := by decide +kernel
theorem dX6_told_191 : decode cX6_told 191 = .ok (.aload_n 0, 1) := by decide +kernel
theorem dX6_told_192 : decode cX6_told 192 = .ok (.getfield 59, 3) := by decide +kernel
theorem dX6_told_195 : decode cX6_told 195 = .ok (.getfield 147, 3) := by decide +kernel
theorem dX6_told_198 : decode cX6_told 198 = .ok (.ireturn, 1) := by decide +kernel
theorem dX6_told_199 : decode cX6_told 199 = .ok (.aload_n 0, 1) := by decide +kernel
theorem dX6_told_200 : decode cX6_told 200 = .ok (.getfield 63, 3) := by decide +kernel
theorem dX6_told_203 : decode cX6_told 203 = .ok (.getfield 147, 3) := by decide +kernel
theorem dX6_told_206 : decode cX6_told 206 = .ok (.ireturn, 1) := by decide +kernel
theorem dX6_told_207 : decode cX6_told 207 = .ok (.aload_n 0, 1) := by decide +kernel
theorem dX6_told_208 : decode cX6_told 208 = .ok (.getfield 66, 3) := by decide +kernel
theorem dX6_told_211 : decode cX6_told 211 = .ok (.getfield 147, 3) := by decide +kernel
theorem dX6_told_214 : decode cX6_told 214 = .ok (.ireturn, 1) := by decide +kernel
theorem dX6_told_215 : decode cX6_told 215 = .ok (.aload_n 0, 1) := by decide +kernel
theorem dX6_told_216 : decode cX6_told 216 = .ok (.getfield 39, 3) := by decide +kernel
theorem dX6_told_219 : decode cX6_told 219 = .ok (.getfield 150, 3) := by decide +kernel
theorem dX6_told_222 : decode cX6_told 222 = .ok (.ireturn, 1) := by decide +kernel
theorem dX6_told_223 : decode cX6_told 223 = .ok (.ldc 75, 2) := by decide +kernel
theorem dX6_told_225 : decode cX6_told 225 = .ok (.ireturn, 1) := by decide +kernel
theorem dX6_barn_0 : decode cX6_barn 0 = .ok (.aload_n 0, 1) := by decide +kernel
theorem dX6_barn_1 : decode cX6_barn 1 = .ok (.getfield 19, 3) := by decide +kernel
theorem dX6_barn_4 : decode cX6_barn 4 = .ok (.iload_n 1, 1) := by decide +kernel
theorem dX6_barn_5 : decode cX6_barn 5 = .ok (.invokevirtual 151, 3) := by decide +kernel
theorem dX6_barn_8 : decode cX6_barn 8 = .ok (.ifCond .ne 6, 3) := by decide +kernel
theorem dX6_barn_11 : decode cX6_barn 11 = .ok (.ldc 154, 2) := by decide +kernel
theorem dX6_barn_13 : decode cX6_barn 13 = .ok (.ireturn, 1) := by decide +kernel
theorem dX6_barn_14 : decode cX6_barn 14 = .ok (.iload_n 2, 1) := by decide +kernel
theorem dX6_barn_15 : decode cX6_barn 15 = .ok (.tableswitch 118 0 6 #[41, 51, 61, 71, 81, 91, 101], 41) := by decide +kernel
theorem dX6_barn_56 : decode cX6_barn 56 = .ok (.aload_n 0, 1) := by decide +kernel
theorem dX6_barn_57 : decode cX6_barn 57 = .ok (.getfield 19, 3) := by decide +kernel
theorem dX6_barn_60 : decode cX6_barn 60 = .ok (.getfield 155, 3) := by decide +kernel
theorem dX6_barn_63 : decode cX6_barn 63 = .ok (.iload_n 1, 1) := by decide +kernel
theorem dX6_barn_64 : decode cX6_barn 64 = .ok (.iaload, 1) := by decide +kernel
theorem dX6_barn_65 : decode cX6_barn 65 = .ok (.ireturn, 1) := by decide +kernel
theorem dX6_barn_66 : decode cX6_barn 66 = .ok (.aload_n 0, 1) := by decide +kernel
theorem dX6_barn_67 : decode cX6_barn 67 = .ok (.getfield 19, 3) := by decide +kernel
theorem dX6_barn_70 : decode cX6_barn 70 = .ok (.getfield 158, 3) := by decide +kernel
theorem dX6_barn_73 : decode cX6_barn 73 = .ok (.iload_n 1, 1) := by decide +kernel
theorem dX6_barn_74 : decode cX6_barn 74 = .ok (.iaload, 1) := by decide +kernel
theorem dX6_barn_75 : decode cX6_barn 75 = .ok (.ireturn, 1) := by decide +kernel
theorem dX6_barn_76 : decode cX6_barn 76 = .ok (.aload_n 0, 1) := by decide +kernel
theorem dX6_barn_77 : decode cX6_barn 77 = .ok (.getfield 29, 3) := by decide +kernel
theorem dX6_barn_80 : decode cX6_barn 80 = .ok (.getfield 130, 3) := by decide +kernel
theorem dX6_barn_83 : decode cX6_barn 83 = .ok (.iload_n 1, 1) := by decide +kernel
theorem dX6_barn_84 : decode cX6_barn 84 = .ok (.iaload, 1) := by decide +kernel
theorem dX6_barn_85 : decode cX6_barn 85 = .ok (.ireturn, 1) := by decide +kernel
theorem dX6_barn_86 : decode cX6_barn 86 = .ok (.aload_n 0, 1) := by decide +kernel
theorem dX6_barn_87 : decode cX6_barn 87 = .ok (.getfield 29, 3) := by decide +kernel
theorem dX6_barn_90 : decode cX6_barn 90 = .ok (.getfield 161, 3) := by decide +kernel
theorem dX6_barn_93 : decode cX6_barn 93 = .ok (.iload_n 1, 1) := by decide +kernel
theorem dX6_barn_94 : decode cX6_barn 94 = .ok (.iaload, 1) := by decide +kernel
theorem dX6_barn_95 : decode cX6_barn 95 = .ok (.ireturn, 1) := by decide +kernel
theorem dX6_barn_96 : decode cX6_barn 96 = .ok (.aload_n 0, 1) := by decide +kernel
theorem dX6_barn_97 : decode cX6_barn 97 = .ok (.getfield 19, 3) := by decide +kernel
theorem dX6_barn_100 : decode cX6_barn 100 = .ok (.getfield 164, 3) := by decide +kernel
theorem dX6_barn_103 : decode cX6_barn 103 = .ok (.iload_n 1, 1) := by decide +kernel
theorem dX6_barn_104 : decode cX6_barn 104 = .ok (.iaload, 1) := by decide +kernel
theorem dX6_barn_105 : decode cX6_barn 105 = .ok (.ireturn, 1) := by decide +kernel
theorem dX6_barn_106 : decode cX6_barn 106 = .ok (.aload_n 0, 1) := by decide +kernel
theorem dX6_barn_107 : decode cX6_barn 107 = .ok (.getfield 29, 3) := by decide +kernel
theorem dX6_barn_110 : decode cX6_barn 110 = .ok (.getfield 144, 3) := by decide +kernel
theorem dX6_barn_113 : decode cX6_barn 113 = .ok (.iload_n 1, 1) := by decide +kernel
theorem dX6_barn_114 : decode cX6_barn 114 = .ok (.iaload, 1) := by decide +kernel
theorem dX6_barn_115 : decode cX6_barn 115 = .ok (.ireturn, 1) := by decide +kernel
theorem dX6_barn_116 : decode cX6_barn 116 = .ok (.aload_n 0, 1) := by decide +kernel
theorem dX6_barn_117 : decode cX6_barn 117 = .ok (.getfield 29, 3) := by decide +kernel
theorem dX6_barn_120 : decode cX6_barn 120 = .ok (.iload_n 1, 1) := by decide +kernel
theorem dX6_barn_121 : decode cX6_barn 121 = .ok (.invokevirtual 167, 3) := by decide +kernel
theorem dX6_barn_124 : decode cX6_barn 124 = .ok (.ifCond .eq 7, 3) := by decide +kernel
theorem dX6_barn_127 : decode cX6_barn 127 = .ok (.iconst 1, 1) := by decide +kernel
theorem dX6_barn_128 : decode cX6_barn 128 = .ok (.goto 4, 3) := by decide +kernel
theorem dX6_barn_131 : decode cX6_barn 131 = .ok (.iconst 0, 1) := by decide +kernel
theorem dX6_barn_132 : decode cX6_barn 132 = .ok (.ireturn, 1) := by decide +kernel
theorem dX6_barn_133 : decode cX6_barn 133 = .ok (.ldc 75, 2) := by decide +kernel
theorem dX6_barn_135 : decode cX6_barn 135 = .ok (.ireturn, 1) := by decide +kernel
theorem dX6_year_0 : decode cX6_year 0 = .ok (.aload_n 0, 1) := by decide +kernel
theorem dX6_year_1 : decode cX6_year 1 = .ok (.iload_n 1, 1) := by decide +kernel
theorem dX6_year_2 : decode cX6_year 2 = .ok (.invokevirtual 170, 3) := by decide +kernel
theorem dX6_year_5 : decode cX6_year 5 = .ok (.istore_n 2, 1) := by decide +kernel
theorem dX6_year_6 : decode cX6_year 6 = .ok (.iload_n 2, 1) := by decide +kernel
theorem dX6_year_7 : decode cX6_year 7 = .ok (.ifCond .eq 5, 3) := by decide +kernel
theorem dX6_year_10 : decode cX6_year 10 = .ok (.iload_n 2, 1) := by decide +kernel
theorem dX6_year_11 : decode cX6_year 11 = .ok (.ireturn, 1) := by decide +kernel
theorem dX6_year_12 : decode cX6_year 12 = .ok (.aload_n 0, 1) := by decide +kernel
theorem dX6_year_13 : decode cX6_year 13 = .ok (.getfield 39, 3) := by decide +kernel
theorem dX6_year_16 : decode cX6_year 16 = .ok (.aload_n 0, 1) := by decide +kernel
theorem dX6_year_17 : decode cX6_year 17 = .ok (.getfield 29, 3) := by decide +kernel
theorem dX6_year_20 : decode cX6_year 20 = .ok (.invokevirtual 173, 3) := by decide +kernel
theorem dX6_year_23 : decode cX6_year 23 = .ok (.iconst 0, 1) := by decide +kernel
theorem dX6_year_24 : decode cX6_year 24 = .ok (.istore_n 3, 1) := by decide +kernel
theorem dX6_year_25 : decode cX6_year 25 = .ok (.iload_n 3, 1) := by decide +kernel
theorem dX6_year_26 : decode cX6_year 26 = .ok (.iload_n 1, 1) := by decide +kernel
theorem dX6_year_27 : decode cX6_year 27 = .ok (.if_icmp .ge 34, 3) := by decide +kernel
theorem dX6_year_30 : decode cX6_year 30 = .ok (.aload_n 0, 1) := by decide +kernel
theorem dX6_year_31 : decode cX6_year 31 = .ok (.getfield 29, 3) := by decide +kernel
theorem dX6_year_34 : decode cX6_year 34 = .ok (.aload_n 0, 1) := by decide +kernel
theorem dX6_year_35 : decode cX6_year 35 = .ok (.getfield 19, 3) := by decide +kernel
theorem dX6_year_38 : decode cX6_year 38 = .ok (.aload_n 0, 1) := by decide +kernel
theorem dX6_year_39 : decode cX6_year 39 = .ok (.getfield 19, 3) := by decide +kernel
theorem dX6_year_42 : decode cX6_year 42 = .ok (.aload_n 0, 1) := by decide +kernel
theorem dX6_year_43 : decode cX6_year 43 = .ok (.getfield 29, 3) := by decide +kernel
theorem dX6_year_46 : decode cX6_year 46 = .ok (.getfield 120, 3) := by decide +kernel
theorem dX6_year_49 : decode cX6_year 49 = .ok (.invokevirtual 123, 3) := by decide +kernel
theorem dX6_year_52 : decode cX6_year 52 = .ok (.invokevirtual 177, 3) := by decide +kernel
theorem dX6_year_55 : decode cX6_year 55 = .ok (.iinc 3 1, 3) := by decide +kernel
theorem dX6_year_58 : decode cX6_year 58 = .ok (.goto (-33), 3) := by decide +kernel
theorem dX6_year_61 : decode cX6_year 61 = .ok (.aload_n 0, 1) := by decide +kernel
theorem dX6_year_62 : decode cX6_year 62 = .ok (.getfield 29, 3) := by decide +kernel
theorem dX6_year_65 : decode cX6_year 65 = .ok (.getfield 130, 3) := by decide +kernel
theorem dX6_year_68 : decode cX6_year 68 = .ok (.aload_n 0, 1) := by decide +kernel
theorem dX6_year_69 : decode cX6_year 69 = .ok (.getfield 19, 3) := by decide +kernel
theorem dX6_year_72 : decode cX6_year 72 = .ok (.invokevirtual 133, 3) := by decide +kernel
theorem dX6_year_75 : decode cX6_year 75 = .ok (.invokestatic 137, 3) := by decide +kernel
theorem dX6_year_78 : decode cX6_year 78 = .ok (.ireturn, 1) := by decide +kernel
theorem dX6_open_0 : decode cX6_open 0 = .ok (.aload_n 0, 1) := by decide +kernel
theorem dX6_open_1 : decode cX6_open 1 = .ok (.getfield 19, 3) := by decide +kernel
theorem dX6_open_4 : decode cX6_open 4 = .ok (.iload_n 1, 1) := by decide +kernel
theorem dX6_open_5 : decode cX6_open 5 = .ok (.invokevirtual 151, 3) := by decide +kernel
theorem dX6_open_8 : decode cX6_open 8 = .ok (.ifCond .ne 6, 3) := by decide +kernel
theorem dX6_open_11 : decode cX6_open 11 = .ok (.ldc 154, 2) := by decide +kernel
theorem dX6_open_13 : decode cX6_open 13 = .ok (.ireturn, 1) := by decide +kernel
theorem dX6_open_14 : decode cX6_open 14 = .ok (.aload_n 0, 1) := by decide +kernel
theorem dX6_open_15 : decode cX6_open 15 = .ok (.getfield 39, 3) := by decide +kernel
theorem dX6_open_18 : decode cX6_open 18 = .ok (.aload_n 0, 1) := by decide +kernel
theorem dX6_open_19 : decode cX6_open 19 = .ok (.getfield 29, 3) := by decide +kernel
theorem dX6_open_22 : decode cX6_open 22 = .ok (.invokevirtual 173, 3) := by decide +kernel
theorem dX6_open_25 : decode cX6_open 25 = .ok (.aload_n 0, 1) := by decide +kernel
theorem dX6_open_26 : decode cX6_open 26 = .ok (.getfield 29, 3) := by decide +kernel
theorem dX6_open_29 : decode cX6_open 29 = .ok (.iload_n 1, 1) := by decide +kernel
theorem dX6_open_30 : decode cX6_open 30 = .ok (.invokevirtual 167, 3) := by decide +kernel
theorem dX6_open_33 : decode cX6_open 33 = .ok (.ifCond .eq 7, 3) := by decide +kernel
theorem dX6_open_36 : decode cX6_open 36 = .ok (.iconst 0, 1) := by decide +kernel
theorem dX6_open_37 : decode cX6_open 37 = .ok (.goto 4, 3) := by decide +kernel
theorem dX6_open_40 : decode cX6_open 40 = .ok (.iconst 1, 1) := by decide +kernel
theorem dX6_open_41 : decode cX6_open 41 = .ok (.istore_n 3, 1) := by decide +kernel
theorem dX6_open_42 : decode cX6_open 42 = .ok (.aload_n 0, 1) := by decide +kernel
theorem dX6_open_43 : decode cX6_open 43 = .ok (.getfield 29, 3) := by decide +kernel
theorem dX6_open_46 : decode cX6_open 46 = .ok (.iload_n 2, 1) := by decide +kernel
theorem dX6_open_47 : decode cX6_open 47 = .ok (.ifCond .eq 19, 3) := by decide +kernel
theorem dX6_open_50 : decode cX6_open 50 = .ok (.aload_n 0, 1) := by decide +kernel
theorem dX6_open_51 : decode cX6_open 51 = .ok (.getfield 29, 3) := by decide +kernel
theorem dX6_open_54 : decode cX6_open 54 = .ok (.getfield 127, 3) := by decide +kernel
theorem dX6_open_57 : decode cX6_open 57 = .ok (.iconst 1, 1) := by decide +kernel
theorem dX6_open_58 : decode cX6_open 58 = .ok (.iload_n 1, 1) := by decide +kernel
theorem dX6_open_59 : decode cX6_open 59 = .ok (.ishl, 1) := by decide +kernel
theorem dX6_open_60 : decode cX6_open 60 = .ok (.iconst (-1), 1) := by decide +kernel
theorem dX6_open_61 : decode cX6_open 61 = .ok (.ixor, 1) := by decide +kernel
theorem dX6_open_62 : decode cX6_open 62 = .ok (.iand, 1) := by decide +kernel
theorem dX6_open_63 : decode cX6_open 63 = .ok (.goto 14, 3) := by decide +kernel
theorem dX6_open_66 : decode cX6_open 66 = .ok (.aload_n 0, 1) := by decide +kernel
theorem dX6_open_67 : decode cX6_open 67 = .ok (.getfield 29, 3) := by decide +kernel
theorem dX6_open_70 : decode cX6_open 70 = .ok (.getfield 127, 3) := by decide +kernel
theorem dX6_open_73 : decode cX6_open 73 = .ok (.iconst 1, 1) := by decide +kernel
theorem dX6_open_74 : decode cX6_open 74 = .ok (.iload_n 1, 1) := by decide +kernel
theorem dX6_open_75 : decode cX6_open 75 = .ok (.ishl, 1) := by decide +kernel
theorem dX6_open_76 : decode cX6_open 76 = .ok (.ior, 1) := by decide +kernel
theorem dX6_open_77 : decode cX6_open 77 = .ok (.putfield 127, 3) := by decide +kernel
theorem dX6_open_80 : decode cX6_open 80 = .ok (.iload_n 3, 1) := by decide +kernel
theorem dX6_open_81 : decode cX6_open 81 = .ok (.ireturn, 1) := by decide +kernel
theorem dX6_move_0 : decode cX6_move 0 = .ok (.aload_n 0, 1) := by decide +kernel
theorem dX6_move_1 : decode cX6_move 1 = .ok (.getfield 19, 3) := by decide +kernel
theorem dX6_move_4 : decode cX6_move 4 = .ok (.iload_n 1, 1) := by decide +kernel
theorem dX6_move_5 : decode cX6_move 5 = .ok (.invokevirtual 151, 3) := by decide +kernel
theorem dX6_move_8 : decode cX6_move 8 = .ok (.ifCond .eq 19, 3) := by decide +kernel
theorem dX6_move_11 : decode cX6_move 11 = .ok (.aload_n 0, 1) := by decide +kernel
theorem dX6_move_12 : decode cX6_move 12 = .ok (.getfield 19, 3) := by decide +kernel
theorem dX6_move_15 : decode cX6_move 15 = .ok (.iload_n 2, 1) := by decide +kernel
theorem dX6_move_16 : decode cX6_move 16 = .ok (.invokevirtual 151, 3) := by decide +kernel
theorem dX6_move_19 : decode cX6_move 19 = .ok (.ifCond .eq 8, 3) := by decide +kernel
theorem dX6_move_22 : decode cX6_move 22 = .ok (.iload_n 1, 1) := by decide +kernel
theorem dX6_move_23 : decode cX6_move 23 = .ok (.iload_n 2, 1) := by decide +kernel
theorem dX6_move_24 : decode cX6_move 24 = .ok (.if_icmp .ne 6, 3) := by decide +kernel
theorem dX6_move_27 : decode cX6_move 27 = .ok (.ldc 154, 2) := by decide +kernel
theorem dX6_move_29 : decode cX6_move 29 = .ok (.ireturn, 1) := by decide +kernel
theorem dX6_move_30 : decode cX6_move 30 = .ok (.iload_n 3, 1) := by decide +kernel
theorem dX6_move_31 : decode cX6_move 31 = .ok (.iconst 1, 1) := by decide +kernel
theorem dX6_move_32 : decode cX6_move 32 = .ok (.if_icmp .lt 9, 3) := by decide +kernel
theorem dX6_move_35 : decode cX6_move 35 = .ok (.iload_n 3, 1) := by decide +kernel
theorem dX6_move_36 : decode cX6_move 36 = .ok (.bipush 40, 2) := by decide +kernel
theorem dX6_move_38 : decode cX6_move 38 = .ok (.if_icmp .le 6, 3) := by decide +kernel
theorem dX6_move_41 : decode cX6_move 41 = .ok (.ldc 75, 2) := by decide +kernel
theorem dX6_move_43 : decode cX6_move 43 = .ok (.ireturn, 1) := by decide +kernel
theorem dX6_move_44 : decode cX6_move 44 = .ok (.aload_n 0, 1) := by decide +kernel
theorem dX6_move_45 : decode cX6_move 45 = .ok (.iload_n 1, 1) := by decide +kernel
theorem dX6_move_46 : decode cX6_move 46 = .ok (.iload_n 2, 1) := by decide +kernel
theorem dX6_move_47 : decode cX6_move 47 = .ok (.iload_n 3, 1) := by decide +kernel
theorem dX6_move_48 : decode cX6_move 48 = .ok (.invokevirtual 181, 3) := by decide +kernel
theorem dX6_move_51 : decode cX6_move 51 = .ok (.ifCond .ne 6, 3) := by decide +kernel
theorem dX6_move_54 : decode cX6_move 54 = .ok (.ldc 185, 2) := by decide +kernel
theorem dX6_move_56 : decode cX6_move 56 = .ok (.ireturn, 1) := by decide +kernel
theorem dX6_move_57 : decode cX6_move 57 = .ok (.aload_n 0, 1) := by decide +kernel
theorem dX6_move_58 : decode cX6_move 58 = .ok (.getfield 39, 3) := by decide +kernel
theorem dX6_move_61 : decode cX6_move 61 = .ok (.aload_n 0, 1) := by decide +kernel
theorem dX6_move_62 : decode cX6_move 62 = .ok (.getfield 29, 3) := by decide +kernel
theorem dX6_move_65 : decode cX6_move 65 = .ok (.invokevirtual 173, 3) := by decide +kernel
theorem dX6_move_68 : decode cX6_move 68 = .ok (.aload_n 0, 1) := by decide +kernel
theorem dX6_move_69 : decode cX6_move 69 = .ok (.getfield 29, 3) := by decide +kernel
theorem dX6_move_72 : decode cX6_move 72 = .ok (.iload_n 1, 1) := by decide +kernel
theorem dX6_move_73 : decode cX6_move 73 = .ok (.iload_n 2, 1) := by decide +kernel
theorem dX6_move_74 : decode cX6_move 74 = .ok (.iload_n 3, 1) := by decide +kernel
theorem dX6_move_75 : decode cX6_move 75 = .ok (.invokevirtual 186, 3) := by decide +kernel
theorem dX6_move_78 : decode cX6_move 78 = .ok (.aload_n 0, 1) := by decide +kernel
theorem dX6_move_79 : decode cX6_move 79 = .ok (.getfield 29, 3) := by decide +kernel
theorem dX6_move_82 : decode cX6_move 82 = .ok (.getfield 130, 3) := by decide +kernel
theorem dX6_move_85 : decode cX6_move 85 = .ok (.iload_n 2, 1) := by decide +kernel
theorem dX6_move_86 : decode cX6_move 86 = .ok (.iaload, 1) := by decide +kernel
theorem dX6_move_87 : decode cX6_move 87 = .ok (.ireturn, 1) := by decide +kernel
theorem dX6_mud_0 : decode cX6_mud 0 = .ok (.aload_n 0, 1) := by decide +kernel
theorem dX6_mud_1 : decode cX6_mud 1 = .ok (.getfield 19, 3) := by decide +kernel
theorem dX6_mud_4 : decode cX6_mud 4 = .ok (.iload_n 1, 1) := by decide +kernel
theorem dX6_mud_5 : decode cX6_mud 5 = .ok (.invokevirtual 151, 3) := by decide +kernel
theorem dX6_mud_8 : decode cX6_mud 8 = .ok (.ifCond .ne 6, 3) := by decide +kernel
theorem dX6_mud_11 : decode cX6_mud 11 = .ok (.ldc 154, 2) := by decide +kernel
theorem dX6_mud_13 : decode cX6_mud 13 = .ok (.ireturn, 1) := by decide +kernel
theorem dX6_mud_14 : decode cX6_mud 14 = .ok (.iload_n 2, 1) := by decide +kernel
theorem dX6_mud_15 : decode cX6_mud 15 = .ok (.iconst 1, 1) := by decide +kernel
theorem dX6_mud_16 : decode cX6_mud 16 = .ok (.if_icmp .lt 9, 3) := by decide +kernel
theorem dX6_mud_19 : decode cX6_mud 19 = .ok (.iload_n 2, 1) := by decide +kernel
theorem dX6_mud_20 : decode cX6_mud 20 = .ok (.bipush 9, 2) := by decide +kernel
theorem dX6_mud_22 : decode cX6_mud 22 = .ok (.if_icmp .le 6, 3) := by decide +kernel
theorem dX6_mud_25 : decode cX6_mud 25 = .ok (.ldc 75, 2) := by decide +kernel
theorem dX6_mud_27 : decode cX6_mud 27 = .ok (.ireturn, 1) := by decide +kernel
theorem dX6_mud_28 : decode cX6_mud 28 = .ok (.aload_n 0, 1) := by decide +kernel
theorem dX6_mud_29 : decode cX6_mud 29 = .ok (.getfield 39, 3) := by decide +kernel
theorem dX6_mud_32 : decode cX6_mud 32 = .ok (.aload_n 0, 1) := by decide +kernel
theorem dX6_mud_33 : decode cX6_mud 33 = .ok (.getfield 29, 3) := by decide +kernel
theorem dX6_mud_36 : decode cX6_mud 36 = .ok (.invokevirtual 173, 3) := by decide +kernel
theorem dX6_mud_39 : decode cX6_mud 39 = .ok (.aload_n 0, 1) := by decide +kernel
theorem dX6_mud_40 : decode cX6_mud 40 = .ok (.getfield 29, 3) := by decide +kernel
theorem dX6_mud_43 : decode cX6_mud 43 = .ok (.iload_n 1, 1) := by decide +kernel
theorem dX6_mud_44 : decode cX6_mud 44 = .ok (.iload_n 2, 1) := by decide +kernel
theorem dX6_mud_45 : decode cX6_mud 45 = .ok (.invokevirtual 190, 3) := by decide +kernel
theorem dX6_mud_48 : decode cX6_mud 48 = .ok (.aload_n 0, 1) := by decide +kernel
theorem dX6_mud_49 : decode cX6_mud 49 = .ok (.getfield 29, 3) := by decide +kernel
theorem dX6_mud_52 : decode cX6_mud 52 = .ok (.getfield 161, 3) := by decide +kernel
theorem dX6_mud_55 : decode cX6_mud 55 = .ok (.iload_n 1, 1) := by decide +kernel
theorem dX6_mud_56 : decode cX6_mud 56 = .ok (.iaload, 1) := by decide +kernel
theorem dX6_mud_57 : decode cX6_mud 57 = .ok (.ireturn, 1) := by decide +kernel
theorem dX6_ring_0 : decode cX6_ring 0 = .ok (.aload_n 0, 1) := by decide +kernel
theorem dX6_ring_1 : decode cX6_ring 1 = .ok (.getfield 19, 3) := by decide +kernel
theorem dX6_ring_4 : decode cX6_ring 4 = .ok (.iload_n 1, 1) := by decide +kernel
theorem dX6_ring_5 : decode cX6_ring 5 = .ok (.invokevirtual 151, 3) := by decide +kernel
theorem dX6_ring_8 : decode cX6_ring 8 = .ok (.ifCond .ne 6, 3) := by decide +kernel
theorem dX6_ring_11 : decode cX6_ring 11 = .ok (.ldc 154, 2) := by decide +kernel
theorem dX6_ring_13 : decode cX6_ring 13 = .ok (.ireturn, 1) := by decide +kernel
theorem dX6_ring_14 : decode cX6_ring 14 = .ok (.iload_n 2, 1) := by decide +kernel
theorem dX6_ring_15 : decode cX6_ring 15 = .ok (.iconst 1, 1) := by decide +kernel
theorem dX6_ring_16 : decode cX6_ring 16 = .ok (.if_icmp .lt 9, 3) := by decide +kernel
theorem dX6_ring_19 : decode cX6_ring 19 = .ok (.iload_n 2, 1) := by decide +kernel
theorem dX6_ring_20 : decode cX6_ring 20 = .ok (.bipush 40, 2) := by decide +kernel
theorem dX6_ring_22 : decode cX6_ring 22 = .ok (.if_icmp .le 6, 3) := by decide +kernel
theorem dX6_ring_25 : decode cX6_ring 25 = .ok (.ldc 75, 2) := by decide +kernel
theorem dX6_ring_27 : decode cX6_ring 27 = .ok (.ireturn, 1) := by decide +kernel
theorem dX6_ring_28 : decode cX6_ring 28 = .ok (.aload_n 0, 1) := by decide +kernel
theorem dX6_ring_29 : decode cX6_ring 29 = .ok (.getfield 29, 3) := by decide +kernel
theorem dX6_ring_32 : decode cX6_ring 32 = .ok (.getfield 144, 3) := by decide +kernel
theorem dX6_ring_35 : decode cX6_ring 35 = .ok (.iload_n 1, 1) := by decide +kernel
theorem dX6_ring_36 : decode cX6_ring 36 = .ok (.iaload, 1) := by decide +kernel
theorem dX6_ring_37 : decode cX6_ring 37 = .ok (.iload_n 2, 1) := by decide +kernel
theorem dX6_ring_38 : decode cX6_ring 38 = .ok (.iadd, 1) := by decide +kernel
theorem dX6_ring_39 : decode cX6_ring 39 = .ok (.aload_n 0, 1) := by decide +kernel
theorem dX6_ring_40 : decode cX6_ring 40 = .ok (.getfield 29, 3) := by decide +kernel
theorem dX6_ring_43 : decode cX6_ring 43 = .ok (.getfield 130, 3) := by decide +kernel
theorem dX6_ring_46 : decode cX6_ring 46 = .ok (.iload_n 1, 1) := by decide +kernel
theorem dX6_ring_47 : decode cX6_ring 47 = .ok (.iaload, 1) := by decide +kernel
theorem dX6_ring_48 : decode cX6_ring 48 = .ok (.if_icmp .le 6, 3) := by decide +kernel
theorem dX6_ring_51 : decode cX6_ring 51 = .ok (.ldc 185, 2) := by decide +kernel
theorem dX6_ring_53 : decode cX6_ring 53 = .ok (.ireturn, 1) := by decide +kernel
theorem dX6_ring_54 : decode cX6_ring 54 = .ok (.aload_n 0, 1) := by decide +kernel
theorem dX6_ring_55 : decode cX6_ring 55 = .ok (.getfield 39, 3) := by decide +kernel
theorem dX6_ring_58 : decode cX6_ring 58 = .ok (.aload_n 0, 1) := by decide +kernel
theorem dX6_ring_59 : decode cX6_ring 59 = .ok (.getfield 29, 3) := by decide +kernel
theorem dX6_ring_62 : decode cX6_ring 62 = .ok (.invokevirtual 173, 3) := by decide +kernel
theorem dX6_ring_65 : decode cX6_ring 65 = .ok (.aload_n 0, 1) := by decide +kernel
theorem dX6_ring_66 : decode cX6_ring 66 = .ok (.getfield 29, 3) := by decide +kernel
theorem dX6_ring_69 : decode cX6_ring 69 = .ok (.getfield 144, 3) := by decide +kernel
theorem dX6_ring_72 : decode cX6_ring 72 = .ok (.iload_n 1, 1) := by decide +kernel
theorem dX6_ring_73 : decode cX6_ring 73 = .ok (.dup2, 1) := by decide +kernel
theorem dX6_ring_74 : decode cX6_ring 74 = .ok (.iaload, 1) := by decide +kernel
theorem dX6_ring_75 : decode cX6_ring 75 = .ok (.iload_n 2, 1) := by decide +kernel
theorem dX6_ring_76 : decode cX6_ring 76 = .ok (.iadd, 1) := by decide +kernel
theorem dX6_ring_77 : decode cX6_ring 77 = .ok (.iastore, 1) := by decide +kernel
theorem dX6_ring_78 : decode cX6_ring 78 = .ok (.aload_n 0, 1) := by decide +kernel
theorem dX6_ring_79 : decode cX6_ring 79 = .ok (.getfield 29, 3) := by decide +kernel
theorem dX6_ring_82 : decode cX6_ring 82 = .ok (.getfield 144, 3) := by decide +kernel
theorem dX6_ring_85 : decode cX6_ring 85 = .ok (.iload_n 1, 1) := by decide +kernel
theorem dX6_ring_86 : decode cX6_ring 86 = .ok (.iaload, 1) := by decide +kernel
theorem dX6_ring_87 : decode cX6_ring 87 = .ok (.ireturn, 1) := by decide +kernel
theorem dX6_drift_0 : decode cX6_drift 0 = .ok (.aload_n 0, 1) := by decide +kernel
theorem dX6_drift_1 : decode cX6_drift 1 = .ok (.iload_n 1, 1) := by decide +kernel
theorem dX6_drift_2 : decode cX6_drift 2 = .ok (.invokevirtual 170, 3) := by decide +kernel
theorem dX6_drift_5 : decode cX6_drift 5 = .ok (.istore_n 2, 1) := by decide +kernel
theorem dX6_drift_6 : decode cX6_drift 6 = .ok (.iload_n 2, 1) := by decide +kernel
theorem dX6_drift_7 : decode cX6_drift 7 = .ok (.ifCond .eq 5, 3) := by decide +kernel
theorem dX6_drift_10 : decode cX6_drift 10 = .ok (.iload_n 2, 1) := by decide +kernel
theorem dX6_drift_11 : decode cX6_drift 11 = .ok (.ireturn, 1) := by decide +kernel
theorem dX6_drift_12 : decode cX6_drift 12 = .ok (.aload_n 0, 1) := by decide +kernel
theorem dX6_drift_13 : decode cX6_drift 13 = .ok (.getfield 39, 3) := by decide +kernel
theorem dX6_drift_16 : decode cX6_drift 16 = .ok (.aload_n 0, 1) := by decide +kernel
theorem dX6_drift_17 : decode cX6_drift 17 = .ok (.getfield 29, 3) := by decide +kernel
theorem dX6_drift_20 : decode cX6_drift 20 = .ok (.invokevirtual 173, 3) := by decide +kernel
theorem dX6_drift_23 : decode cX6_drift 23 = .ok (.iconst 0, 1) := by decide +kernel
theorem dX6_drift_24 : decode cX6_drift 24 = .ok (.istore_n 3, 1) := by decide +kernel
theorem dX6_drift_25 : decode cX6_drift 25 = .ok (.iload_n 3, 1) := by decide +kernel
theorem dX6_drift_26 : decode cX6_drift 26 = .ok (.iload_n 1, 1) := by decide +kernel
theorem dX6_drift_27 : decode cX6_drift 27 = .ok (.if_icmp .ge 24, 3) := by decide +kernel
theorem dX6_drift_30 : decode cX6_drift 30 = .ok (.aload_n 0, 1) := by decide +kernel
theorem dX6_drift_31 : decode cX6_drift 31 = .ok (.getfield 29, 3) := by decide +kernel
theorem dX6_drift_34 : decode cX6_drift 34 = .ok (.aload_n 0, 1) := by decide +kernel
theorem dX6_drift_35 : decode cX6_drift 35 = .ok (.getfield 19, 3) := by decide +kernel
theorem dX6_drift_38 : decode cX6_drift 38 = .ok (.aload_n 0, 1) := by decide +kernel
theorem dX6_drift_39 : decode cX6_drift 39 = .ok (.invokevirtual 194, 3) := by decide +kernel
theorem dX6_drift_42 : decode cX6_drift 42 = .ok (.invokevirtual 177, 3) := by decide +kernel
theorem dX6_drift_45 : decode cX6_drift 45 = .ok (.iinc 3 1, 3) := by decide +kernel
theorem dX6_drift_48 : decode cX6_drift 48 = .ok (.goto (-23), 3) := by decide +kernel
theorem dX6_drift_51 : decode cX6_drift 51 = .ok (.aload_n 0, 1) := by decide +kernel
theorem dX6_drift_52 : decode cX6_drift 52 = .ok (.getfield 29, 3) := by decide +kernel
theorem dX6_drift_55 : decode cX6_drift 55 = .ok (.getfield 130, 3) := by decide +kernel
theorem dX6_drift_58 : decode cX6_drift 58 = .ok (.aload_n 0, 1) := by decide +kernel
theorem dX6_drift_59 : decode cX6_drift 59 = .ok (.getfield 19, 3) := by decide +kernel
theorem dX6_drift_62 : decode cX6_drift 62 = .ok (.invokevirtual 133, 3) := by decide +kernel
theorem dX6_drift_65 : decode cX6_drift 65 = .ok (.invokestatic 137, 3) := by decide +kernel
theorem dX6_drift_68 : decode cX6_drift 68 = .ok (.ireturn, 1) := by decide +kernel
theorem dX6_undo_0 : decode cX6_undo 0 = .ok (.aload_n 0, 1) := by decide +kernel
theorem dX6_undo_1 : decode cX6_undo 1 = .ok (.getfield 39, 3) := by decide +kernel
theorem dX6_undo_4 : decode cX6_undo 4 = .ok (.aload_n 0, 1) := by decide +kernel
theorem dX6_undo_5 : decode cX6_undo 5 = .ok (.getfield 29, 3) := by decide +kernel
theorem dX6_undo_8 : decode cX6_undo 8 = .ok (.invokevirtual 197, 3) := by decide +kernel
theorem dX6_undo_11 : decode cX6_undo 11 = .ok (.ifCond .eq 13, 3) := by decide +kernel
theorem dX6_undo_14 : decode cX6_undo 14 = .ok (.aload_n 0, 1) := by decide +kernel
theorem dX6_undo_15 : decode cX6_undo 15 = .ok (.getfield 39, 3) := by decide +kernel
theorem dX6_undo_18 : decode cX6_undo 18 = .ok (.getfield 150, 3) := by decide +kernel
theorem dX6_undo_21 : decode cX6_undo 21 = .ok (.goto 5, 3) := by decide +kernel
theorem dX6_undo_24 : decode cX6_undo 24 = .ok (.ldc 185, 2) := by decide +kernel
theorem dX6_undo_26 : decode cX6_undo 26 = .ok (.ireturn, 1) := by decide +kernel
theorem dX6_count_0 : decode cX6_count 0 = .ok (.aload_n 0, 1) := by decide +kernel
theorem dX6_count_1 : decode cX6_count 1 = .ok (.getfield 19, 3) := by decide +kernel
theorem dX6_count_4 : decode cX6_count 4 = .ok (.iload_n 1, 1) := by decide +kernel
theorem dX6_count_5 : decode cX6_count 5 = .ok (.invokevirtual 201, 3) := by decide +kernel
theorem dX6_count_8 : decode cX6_count 8 = .ok (.ifCond .ne 6, 3) := by decide +kernel
theorem dX6_count_11 : decode cX6_count 11 = .ok (.ldc 154, 2) := by decide +kernel
theorem dX6_count_13 : decode cX6_count 13 = .ok (.ireturn, 1) := by decide +kernel
theorem dX6_count_14 : decode cX6_count 14 = .ok (.iload_n 2, 1) := by decide +kernel
theorem dX6_count_15 : decode cX6_count 15 = .ok (.ifCond .lt 18, 3) := by decide +kernel
theorem dX6_count_18 : decode cX6_count 18 = .ok (.iload_n 2, 1) := by decide +kernel
theorem dX6_count_19 : decode cX6_count 19 = .ok (.bipush 60, 2) := by decide +kernel
theorem dX6_count_21 : decode cX6_count 21 = .ok (.if_icmp .gt 12, 3) := by decide +kernel
theorem dX6_count_24 : decode cX6_count 24 = .ok (.iload_n 3, 1) := by decide +kernel
theorem dX6_count_25 : decode cX6_count 25 = .ok (.ifCond .lt 8, 3) := by decide +kernel
theorem dX6_count_28 : decode cX6_count 28 = .ok (.iload_n 3, 1) := by decide +kernel
theorem dX6_count_29 : decode cX6_count 29 = .ok (.iconst 2, 1) := by decide +kernel
theorem dX6_count_30 : decode cX6_count 30 = .ok (.if_icmp .le 6, 3) := by decide +kernel
theorem dX6_count_33 : decode cX6_count 33 = .ok (.ldc 75, 2) := by decide +kernel
theorem dX6_count_35 : decode cX6_count 35 = .ok (.ireturn, 1) := by decide +kernel
theorem dX6_count_36 : decode cX6_count 36 = .ok (.aload_n 0, 1) := by decide +kernel
theorem dX6_count_37 : decode cX6_count 37 = .ok (.getfield 33, 3) := by decide +kernel
theorem dX6_count_40 : decode cX6_count 40 = .ok (.aload_n 0, 1) := by decide +kernel
theorem dX6_count_41 : decode cX6_count 41 = .ok (.getfield 29, 3) := by decide +kernel
theorem dX6_count_44 : decode cX6_count 44 = .ok (.invokevirtual 204, 3) := by decide +kernel
theorem dX6_count_47 : decode cX6_count 47 = .ok (.iconst 0, 1) := by decide +kernel
theorem dX6_count_48 : decode cX6_count 48 = .ok (.istore 4, 2) := by decide +kernel
theorem dX6_count_50 : decode cX6_count 50 = .ok (.iload 4, 2) := by decide +kernel
theorem dX6_count_52 : decode cX6_count 52 = .ok (.iload_n 2, 1) := by decide +kernel
theorem dX6_count_53 : decode cX6_count 53 = .ok (.if_icmp .ge 13, 3) := by decide +kernel
theorem dX6_count_56 : decode cX6_count 56 = .ok (.aload_n 0, 1) := by decide +kernel
theorem dX6_count_57 : decode cX6_count 57 = .ok (.invokevirtual 207, 3) := by decide +kernel
theorem dX6_count_60 : decode cX6_count 60 = .ok (.iinc 4 1, 3) := by decide +kernel
theorem dX6_count_63 : decode cX6_count 63 = .ok (.goto (-13), 3) := by decide +kernel
theorem dX6_count_66 : decode cX6_count 66 = .ok (.aload_n 0, 1) := by decide +kernel
theorem dX6_count_67 : decode cX6_count 67 = .ok (.aload_n 0, 1) := by decide +kernel
theorem dX6_count_68 : decode cX6_count 68 = .ok (.getfield 33, 3) := by decide +kernel
theorem dX6_count_71 : decode cX6_count 71 = .ok (.iload_n 1, 1) := by decide +kernel
theorem dX6_count_72 : decode cX6_count 72 = .ok (.invokevirtual 210, 3) := by decide +kernel
theorem dX6_count_75 : decode cX6_count 75 = .ok (.istore 4, 2) := by decide +kernel
theorem dX6_count_77 : decode cX6_count 77 = .ok (.iload_n 3, 1) := by decide +kernel
theorem dX6_count_78 : decode cX6_count 78 = .ok (.lookupswitch 39 #[(0, 26), (1, 29)], 26) := by decide +kernel
theorem dX6_count_104 : decode cX6_count 104 = .ok (.iload 4, 2) := by decide +kernel
theorem dX6_count_106 : decode cX6_count 106 = .ok (.ireturn, 1) := by decide +kernel
theorem dX6_count_107 : decode cX6_count 107 = .ok (.aload_n 0, 1) := by decide +kernel
theorem dX6_count_108 : decode cX6_count 108 = .ok (.getfield 19, 3) := by decide +kernel
theorem dX6_count_111 : decode cX6_count 111 = .ok (.iload 4, 2) := by decide +kernel
theorem dX6_count_113 : decode cX6_count 113 = .ok (.invokevirtual 214, 3) := by decide +kernel
theorem dX6_count_116 : decode cX6_count 116 = .ok (.ireturn, 1) := by decide +kernel
theorem dX6_count_117 : decode cX6_count 117 = .ok (.aload_n 0, 1) := by decide +kernel
theorem dX6_count_118 : decode cX6_count 118 = .ok (.getfield 19, 3) := by decide +kernel
theorem dX6_count_121 : decode cX6_count 121 = .ok (.iload 4, 2) := by decide +kernel
theorem dX6_count_123 : decode cX6_count 123 = .ok (.invokevirtual 217, 3) := by decide +kernel
theorem dX6_count_126 : decode cX6_count 126 = .ok (.ireturn, 1) := by decide +kernel
theorem dX6_leave_0 : decode cX6_leave 0 = .ok (.aload_n 0, 1) := by decide +kernel
theorem dX6_leave_1 : decode cX6_leave 1 = .ok (.getfield 19, 3) := by decide +kernel
theorem dX6_leave_4 : decode cX6_leave 4 = .ok (.iload_n 1, 1) := by decide +kernel
theorem dX6_leave_5 : decode cX6_leave 5 = .ok (.invokevirtual 201, 3) := by decide +kernel
theorem dX6_leave_8 : decode cX6_leave 8 = .ok (.ifCond .ne 6, 3) := by decide +kernel
theorem dX6_leave_11 : decode cX6_leave 11 = .ok (.ldc 154, 2) := by decide +kernel
theorem dX6_leave_13 : decode cX6_leave 13 = .ok (.ireturn, 1) := by decide +kernel
theorem dX6_leave_14 : decode cX6_leave 14 = .ok (.iload_n 2, 1) := by decide +kernel
theorem dX6_leave_15 : decode cX6_leave 15 = .ok (.ifCond .lt 19, 3) := by decide +kernel
theorem dX6_leave_18 : decode cX6_leave 18 = .ok (.iload_n 2, 1) := by decide +kernel
theorem dX6_leave_19 : decode cX6_leave 19 = .ok (.bipush 99, 2) := by decide +kernel
theorem dX6_leave_21 : decode cX6_leave 21 = .ok (.if_icmp .gt 13, 3) := by decide +kernel
theorem dX6_leave_24 : decode cX6_leave 24 = .ok (.iload_n 3, 1) := by decide +kernel
theorem dX6_leave_25 : decode cX6_leave 25 = .ok (.ifCond .lt 9, 3) := by decide +kernel
theorem dX6_leave_28 : decode cX6_leave 28 = .ok (.iload_n 3, 1) := by decide +kernel
theorem dX6_leave_29 : decode cX6_leave 29 = .ok (.bipush 99, 2) := by decide +kernel
theorem dX6_leave_31 : decode cX6_leave 31 = .ok (.if_icmp .le 6, 3) := by decide +kernel
theorem dX6_leave_34 : decode cX6_leave 34 = .ok (.ldc 75, 2) := by decide +kernel
theorem dX6_leave_36 : decode cX6_leave 36 = .ok (.ireturn, 1) := by decide +kernel
theorem dX6_leave_37 : decode cX6_leave 37 = .ok (.aload_n 0, 1) := by decide +kernel
theorem dX6_leave_38 : decode cX6_leave 38 = .ok (.getfield 19, 3) := by decide +kernel
theorem dX6_leave_41 : decode cX6_leave 41 = .ok (.iload_n 1, 1) := by decide +kernel
theorem dX6_leave_42 : decode cX6_leave 42 = .ok (.invokevirtual 220, 3) := by decide +kernel
theorem dX6_leave_45 : decode cX6_leave 45 = .ok (.istore 4, 2) := by decide +kernel
theorem dX6_leave_47 : decode cX6_leave 47 = .ok (.iconst (-1), 1) := by decide +kernel
theorem dX6_leave_48 : decode cX6_leave 48 = .ok (.istore 5, 2) := by decide +kernel
theorem dX6_leave_50 : decode cX6_leave 50 = .ok (.iconst 0, 1) := by decide +kernel
theorem dX6_leave_51 : decode cX6_leave 51 = .ok (.istore 6, 2) := by decide +kernel
theorem dX6_leave_53 : decode cX6_leave 53 = .ok (.iload 6, 2) := by decide +kernel
theorem dX6_leave_55 : decode cX6_leave 55 = .ok (.iload 4, 2) := by decide +kernel
theorem dX6_leave_57 : decode cX6_leave 57 = .ok (.if_icmp .gt 78, 3) := by decide +kernel
theorem dX6_leave_60 : decode cX6_leave 60 = .ok (.iload 6, 2) := by decide +kernel
theorem dX6_leave_62 : decode cX6_leave 62 = .ok (.iload 4, 2) := by decide +kernel
theorem dX6_leave_64 : decode cX6_leave 64 = .ok (.iconst (-1), 1) := by decide +kernel
theorem dX6_leave_65 : decode cX6_leave 65 = .ok (.ixor, 1) := by decide +kernel
theorem dX6_leave_66 : decode cX6_leave 66 = .ok (.iand, 1) := by decide +kernel
theorem dX6_leave_67 : decode cX6_leave 67 = .ok (.ifCond .ne 7, 3) := by decide +kernel
theorem dX6_leave_70 : decode cX6_leave 70 = .ok (.iconst 1, 1) := by decide +kernel
theorem dX6_leave_71 : decode cX6_leave 71 = .ok (.goto 4, 3) := by decide +kernel
theorem dX6_leave_74 : decode cX6_leave 74 = .ok (.iconst 0, 1) := by decide +kernel
theorem dX6_leave_75 : decode cX6_leave 75 = .ok (.istore 7, 2) := by decide +kernel
theorem dX6_leave_77 : decode cX6_leave 77 = .ok (.iload 5, 2) := by decide +kernel
theorem dX6_leave_79 : decode cX6_leave 79 = .ok (.iconst (-1), 1) := by decide +kernel
theorem dX6_leave_80 : decode cX6_leave 80 = .ok (.if_icmp .eq 16, 3) := by decide +kernel
theorem dX6_leave_83 : decode cX6_leave 83 = .ok (.iload 6, 2) := by decide +kernel
theorem dX6_leave_85 : decode cX6_leave 85 = .ok (.invokestatic 223, 3) := by decide +kernel
theorem dX6_leave_88 : decode cX6_leave 88 = .ok (.iload 5, 2) := by decide +kernel
theorem dX6_leave_90 : decode cX6_leave 90 = .ok (.invokestatic 223, 3) := by decide +kernel
theorem dX6_leave_93 : decode cX6_leave 93 = .ok (.if_icmp .le 7, 3) := by decide +kernel
theorem dX6_leave_96 : decode cX6_leave 96 = .ok (.iconst 1, 1) := by decide +kernel
theorem dX6_leave_97 : decode cX6_leave 97 = .ok (.goto 4, 3) := by decide +kernel
theorem dX6_leave_100 : decode cX6_leave 100 = .ok (.iconst 0, 1) := by decide +kernel
theorem dX6_leave_101 : decode cX6_leave 101 = .ok (.istore 8, 2) := by decide +kernel
theorem dX6_leave_103 : decode cX6_leave 103 = .ok (.iload 7, 2) := by decide +kernel
theorem dX6_leave_105 : decode cX6_leave 105 = .ok (.ifCond .eq 24, 3) := by decide +kernel
theorem dX6_leave_108 : decode cX6_leave 108 = .ok (.iload 8, 2) := by decide +kernel
theorem dX6_leave_110 : decode cX6_leave 110 = .ok (.ifCond .eq 19, 3) := by decide +kernel
theorem dX6_leave_113 : decode cX6_leave 113 = .ok (.aload_n 0, 1) := by decide +kernel
theorem dX6_leave_114 : decode cX6_leave 114 = .ok (.iload_n 1, 1) := by decide +kernel
theorem dX6_leave_115 : decode cX6_leave 115 = .ok (.iload 6, 2) := by decide +kernel
theorem dX6_leave_117 : decode cX6_leave 117 = .ok (.iload_n 2, 1) := by decide +kernel
theorem dX6_leave_118 : decode cX6_leave 118 = .ok (.iload_n 3, 1) := by decide +kernel
theorem dX6_leave_119 : decode cX6_leave 119 = .ok (.invokevirtual 228, 3) := by decide +kernel
theorem dX6_leave_122 : decode cX6_leave 122 = .ok (.ifCond .eq 7, 3) := by decide +kernel
theorem dX6_leave_125 : decode cX6_leave 125 = .ok (.iload 6, 2) := by decide +kernel
theorem dX6_leave_127 : decode cX6_leave 127 = .ok (.istore 5, 2) := by decide +kernel
theorem dX6_leave_129 : decode cX6_leave 129 = .ok (.iinc 6 1, 3) := by decide +kernel
theorem dX6_leave_132 : decode cX6_leave 132 = .ok (.goto (-79), 3) := by decide +kernel
theorem dX6_leave_135 : decode cX6_leave 135 = .ok (.iload 5, 2) := by decide +kernel
theorem dX6_leave_137 : decode cX6_leave 137 = .ok (.ireturn, 1) := by decide +kernel
theorem dX6_counters_0 : decode cX6_counters 0 = .ok (.aload_n 0, 1) := by decide +kernel
theorem dX6_counters_1 : decode cX6_counters 1 = .ok (.getfield 19, 3) := by decide +kernel
theorem dX6_counters_4 : decode cX6_counters 4 = .ok (.iload_n 1, 1) := by decide +kernel
theorem dX6_counters_5 : decode cX6_counters 5 = .ok (.invokevirtual 201, 3) := by decide +kernel
theorem dX6_counters_8 : decode cX6_counters 8 = .ok (.ifCond .ne 6, 3) := by decide +kernel
theorem dX6_counters_11 : decode cX6_counters 11 = .ok (.ldc 154, 2) := by decide +kernel
theorem dX6_counters_13 : decode cX6_counters 13 = .ok (.ireturn, 1) := by decide +kernel
theorem dX6_counters_14 : decode cX6_counters 14 = .ok (.iconst 0, 1) := by decide +kernel
theorem dX6_counters_15 : decode cX6_counters 15 = .ok (.istore_n 2, 1) := by decide +kernel
theorem dX6_counters_16 : decode cX6_counters 16 = .ok (.iconst 0, 1) := by decide +kernel
theorem dX6_counters_17 : decode cX6_counters 17 = .ok (.istore_n 3, 1) := by decide +kernel
theorem dX6_counters_18 : decode cX6_counters 18 = .ok (.iconst 0, 1) := by decide +kernel
theorem dX6_counters_19 : decode cX6_counters 19 = .ok (.istore 4, 2) := by decide +kernel
theorem dX6_counters_21 : decode cX6_counters 21 = .ok (.iload 4, 2) := by decide +kernel
theorem dX6_counters_23 : decode cX6_counters 23 = .ok (.aload_n 0, 1) := by decide +kernel
theorem dX6_counters_24 : decode cX6_counters 24 = .ok (.getfield 19, 3) := by decide +kernel
theorem dX6_counters_27 : decode cX6_counters 27 = .ok (.getfield 105, 3) := by decide +kernel
theorem dX6_counters_30 : decode cX6_counters 30 = .ok (.if_icmp .ge 62, 3) := by decide +kernel
theorem dX6_counters_33 : decode cX6_counters 33 = .ok (.aload_n 0, 1) := by decide +kernel
theorem dX6_counters_34 : decode cX6_counters 34 = .ok (.getfield 29, 3) := by decide +kernel
theorem dX6_counters_37 : decode cX6_counters 37 = .ok (.getfield 130, 3) := by decide +kernel
theorem dX6_counters_40 : decode cX6_counters 40 = .ok (.iload 4, 2) := by decide +kernel
theorem dX6_counters_42 : decode cX6_counters 42 = .ok (.iaload, 1) := by decide +kernel
theorem dX6_counters_43 : decode cX6_counters 43 = .ok (.istore 5, 2) := by decide +kernel
theorem dX6_counters_45 : decode cX6_counters 45 = .ok (.aload_n 0, 1) := by decide +kernel
theorem dX6_counters_46 : decode cX6_counters 46 = .ok (.getfield 19, 3) := by decide +kernel
theorem dX6_counters_49 : decode cX6_counters 49 = .ok (.getfield 155, 3) := by decide +kernel
theorem dX6_counters_52 : decode cX6_counters 52 = .ok (.iload 4, 2) := by decide +kernel
theorem dX6_counters_54 : decode cX6_counters 54 = .ok (.iaload, 1) := by decide +kernel
theorem dX6_counters_55 : decode cX6_counters 55 = .ok (.iload_n 1, 1) := by decide +kernel
theorem dX6_counters_56 : decode cX6_counters 56 = .ok (.if_icmp .ne 30, 3) := by decide +kernel
theorem dX6_counters_59 : decode cX6_counters 59 = .ok (.iload 5, 2) := by decide +kernel
theorem dX6_counters_61 : decode cX6_counters 61 = .ok (.ifCond .le 25, 3) := by decide +kernel
theorem dX6_counters_64 : decode cX6_counters 64 = .ok (.iload_n 2, 1) := by decide +kernel
theorem dX6_counters_65 : decode cX6_counters 65 = .ok (.iload 5, 2) := by decide +kernel
theorem dX6_counters_67 : decode cX6_counters 67 = .ok (.iconst 2, 1) := by decide +kernel
theorem dX6_counters_68 : decode cX6_counters 68 = .ok (.if_icmp .lt 8, 3) := by decide +kernel
theorem dX6_counters_71 : decode cX6_counters 71 = .ok (.iload 5, 2) := by decide +kernel
theorem dX6_counters_73 : decode cX6_counters 73 = .ok (.goto 4, 3) := by decide +kernel
theorem dX6_counters_76 : decode cX6_counters 76 = .ok (.iconst 0, 1) := by decide +kernel
theorem dX6_counters_77 : decode cX6_counters 77 = .ok (.iadd, 1) := by decide +kernel
theorem dX6_counters_78 : decode cX6_counters 78 = .ok (.istore_n 2, 1) := by decide +kernel
theorem dX6_counters_79 : decode cX6_counters 79 = .ok (.iload_n 3, 1) := by decide +kernel
theorem dX6_counters_80 : decode cX6_counters 80 = .ok (.iload 5, 2) := by decide +kernel
theorem dX6_counters_82 : decode cX6_counters 82 = .ok (.iconst 1, 1) := by decide +kernel
theorem dX6_counters_83 : decode cX6_counters 83 = .ok (.iadd, 1) := by decide +kernel
theorem dX6_counters_84 : decode cX6_counters 84 = .ok (.iadd, 1) := by decide +kernel
theorem dX6_counters_85 : decode cX6_counters 85 = .ok (.istore_n 3, 1) := by decide +kernel
theorem dX6_counters_86 : decode cX6_counters 86 = .ok (.iinc 4 1, 3) := by decide +kernel
theorem dX6_counters_89 : decode cX6_counters 89 = .ok (.goto (-68), 3) := by decide +kernel
theorem dX6_counters_92 : decode cX6_counters 92 = .ok (.iload_n 3, 1) := by decide +kernel
theorem dX6_counters_93 : decode cX6_counters 93 = .ok (.iload_n 2, 1) := by decide +kernel
theorem dX6_counters_94 : decode cX6_counters 94 = .ok (.isub, 1) := by decide +kernel
theorem dX6_counters_95 : decode cX6_counters 95 = .ok (.ireturn, 1) := by decide +kernel
theorem dX6_game_0 : decode cX6_game 0 = .ok (.aload_n 0, 1) := by decide +kernel
theorem dX6_game_1 : decode cX6_game 1 = .ok (.getfield 19, 3) := by decide +kernel
theorem dX6_game_4 : decode cX6_game 4 = .ok (.iload_n 1, 1) := by decide +kernel
theorem dX6_game_5 : decode cX6_game 5 = .ok (.invokevirtual 201, 3) := by decide +kernel
theorem dX6_game_8 : decode cX6_game 8 = .ok (.ifCond .eq 19, 3) := by decide +kernel
theorem dX6_game_11 : decode cX6_game 11 = .ok (.aload_n 0, 1) := by decide +kernel
theorem dX6_game_12 : decode cX6_game 12 = .ok (.getfield 19, 3) := by decide +kernel
theorem dX6_game_15 : decode cX6_game 15 = .ok (.iload_n 2, 1) := by decide +kernel
theorem dX6_game_16 : decode cX6_game 16 = .ok (.invokevirtual 201, 3) := by decide +kernel
theorem dX6_game_19 : decode cX6_game 19 = .ok (.ifCond .eq 8, 3) := by decide +kernel
theorem dX6_game_22 : decode cX6_game 22 = .ok (.iload_n 1, 1) := by decide +kernel
theorem dX6_game_23 : decode cX6_game 23 = .ok (.iload_n 2, 1) := by decide +kernel
theorem dX6_game_24 : decode cX6_game 24 = .ok (.if_icmp .ne 6, 3) := by decide +kernel
theorem dX6_game_27 : decode cX6_game 27 = .ok (.ldc 154, 2) := by decide +kernel
theorem dX6_game_29 : decode cX6_game 29 = .ok (.ireturn, 1) := by decide +kernel
theorem dX6_game_30 : decode cX6_game 30 = .ok (.iload_n 3, 1) := by decide +kernel
theorem dX6_game_31 : decode cX6_game 31 = .ok (.iconst (-1), 1) := by decide +kernel
theorem dX6_game_32 : decode cX6_game 32 = .ok (.if_icmp .ge 5, 3) := by decide +kernel
theorem dX6_game_35 : decode cX6_game 35 = .ok (.iconst (-1), 1) := by decide +kernel
theorem dX6_game_36 : decode cX6_game 36 = .ok (.ireturn, 1) := by decide +kernel
theorem dX6_game_37 : decode cX6_game 37 = .ok (.aload_n 0, 1) := by decide +kernel
theorem dX6_game_38 : decode cX6_game 38 = .ok (.iload_n 1, 1) := by decide +kernel
theorem dX6_game_39 : decode cX6_game 39 = .ok (.iload_n 2, 1) := by decide +kernel
theorem dX6_game_40 : decode cX6_game 40 = .ok (.invokevirtual 232, 3) := by decide +kernel
theorem dX6_game_43 : decode cX6_game 43 = .ok (.iconst 0, 1) := by decide +kernel
theorem dX6_game_44 : decode cX6_game 44 = .ok (.istore 4, 2) := by decide +kernel
theorem dX6_game_46 : decode cX6_game 46 = .ok (.iconst 0, 1) := by decide +kernel
theorem dX6_game_47 : decode cX6_game 47 = .ok (.istore 5, 2) := by decide +kernel
theorem dX6_game_49 : decode cX6_game 49 = .ok (.iload 5, 2) := by decide +kernel
theorem dX6_game_51 : decode cX6_game 51 = .ok (.iconst 3, 1) := by decide +kernel
theorem dX6_game_52 : decode cX6_game 52 = .ok (.if_icmp .ge 53, 3) := by decide +kernel
theorem dX6_game_55 : decode cX6_game 55 = .ok (.iconst 0, 1) := by decide +kernel
theorem dX6_game_56 : decode cX6_game 56 = .ok (.istore 6, 2) := by decide +kernel
theorem dX6_game_58 : decode cX6_game 58 = .ok (.iload 6, 2) := by decide +kernel
theorem dX6_game_60 : decode cX6_game 60 = .ok (.iconst 3, 1) := by decide +kernel
theorem dX6_game_61 : decode cX6_game 61 = .ok (.if_icmp .ge 38, 3) := by decide +kernel
theorem dX6_game_64 : decode cX6_game 64 = .ok (.aload_n 0, 1) := by decide +kernel
theorem dX6_game_65 : decode cX6_game 65 = .ok (.iload 5, 2) := by decide +kernel
theorem dX6_game_67 : decode cX6_game 67 = .ok (.iload 6, 2) := by decide +kernel
theorem dX6_game_69 : decode cX6_game 69 = .ok (.invokevirtual 235, 3) := by decide +kernel
theorem dX6_game_72 : decode cX6_game 72 = .ok (.ifCond .eq 21, 3) := by decide +kernel
theorem dX6_game_75 : decode cX6_game 75 = .ok (.iload 4, 2) := by decide +kernel
theorem dX6_game_77 : decode cX6_game 77 = .ok (.iload_n 3, 1) := by decide +kernel
theorem dX6_game_78 : decode cX6_game 78 = .ok (.if_icmp .ne 12, 3) := by decide +kernel
theorem dX6_game_81 : decode cX6_game 81 = .ok (.bipush 10, 2) := by decide +kernel
theorem dX6_game_83 : decode cX6_game 83 = .ok (.iload 5, 2) := by decide +kernel
theorem dX6_game_85 : decode cX6_game 85 = .ok (.imul, 1) := by decide +kernel
theorem dX6_game_86 : decode cX6_game 86 = .ok (.iload 6, 2) := by decide +kernel
theorem dX6_game_88 : decode cX6_game 88 = .ok (.iadd, 1) := by decide +kernel
theorem dX6_game_89 : decode cX6_game 89 = .ok (.ireturn, 1) := by decide +kernel
theorem dX6_game_90 : decode cX6_game 90 = .ok (.iinc 4 1, 3) := by decide +kernel
theorem dX6_game_93 : decode cX6_game 93 = .ok (.iinc 6 1, 3) := by decide +kernel
theorem dX6_game_96 : decode cX6_game 96 = .ok (.goto (-38), 3) := by decide +kernel
theorem dX6_game_99 : decode cX6_game 99 = .ok (.iinc 5 1, 3) := by decide +kernel
theorem dX6_game_102 : decode cX6_game 102 = .ok (.goto (-53), 3) := by decide +kernel
theorem dX6_game_105 : decode cX6_game 105 = .ok (.iload_n 3, 1) := by decide +kernel
theorem dX6_game_106 : decode cX6_game 106 = .ok (.iconst (-1), 1) := by decide +kernel
theorem dX6_game_107 : decode cX6_game 107 = .ok (.if_icmp .ne 8, 3) := by decide +kernel
theorem dX6_game_110 : decode cX6_game 110 = .ok (.iload 4, 2) := by decide +kernel
theorem dX6_game_112 : decode cX6_game 112 = .ok (.goto 4, 3) := by decide +kernel
theorem dX6_game_115 : decode cX6_game 115 = .ok (.iconst (-1), 1) := by decide +kernel
theorem dX6_game_116 : decode cX6_game 116 = .ok (.ireturn, 1) := by decide +kernel
theorem dX6_leastMud_0 : decode cX6_leastMud 0 = .ok (.aload_n 0, 1) := by decide +kernel
theorem dX6_leastMud_1 : decode cX6_leastMud 1 = .ok (.getfield 19, 3) := by decide +kernel
theorem dX6_leastMud_4 : decode cX6_leastMud 4 = .ok (.iload_n 1, 1) := by decide +kernel
theorem dX6_leastMud_5 : decode cX6_leastMud 5 = .ok (.invokevirtual 201, 3) := by decide +kernel
theorem dX6_leastMud_8 : decode cX6_leastMud 8 = .ok (.ifCond .ne 6, 3) := by decide +kernel
theorem dX6_leastMud_11 : decode cX6_leastMud 11 = .ok (.ldc 154, 2) := by decide +kernel
theorem dX6_leastMud_13 : decode cX6_leastMud 13 = .ok (.ireturn, 1) := by decide +kernel
theorem dX6_leastMud_14 : decode cX6_leastMud 14 = .ok (.iload_n 2, 1) := by decide +kernel
theorem dX6_leastMud_15 : decode cX6_leastMud 15 = .ok (.iconst (-1), 1) := by decide +kernel
theorem dX6_leastMud_16 : decode cX6_leastMud 16 = .ok (.if_icmp .eq 30, 3) := by decide +kernel
theorem dX6_leastMud_19 : decode cX6_leastMud 19 = .ok (.aload_n 0, 1) := by decide +kernel
theorem dX6_leastMud_20 : decode cX6_leastMud 20 = .ok (.getfield 19, 3) := by decide +kernel
theorem dX6_leastMud_23 : decode cX6_leastMud 23 = .ok (.iload_n 2, 1) := by decide +kernel
theorem dX6_leastMud_24 : decode cX6_leastMud 24 = .ok (.invokevirtual 151, 3) := by decide +kernel
theorem dX6_leastMud_27 : decode cX6_leastMud 27 = .ok (.ifCond .eq 16, 3) := by decide +kernel
theorem dX6_leastMud_30 : decode cX6_leastMud 30 = .ok (.aload_n 0, 1) := by decide +kernel
theorem dX6_leastMud_31 : decode cX6_leastMud 31 = .ok (.getfield 19, 3) := by decide +kernel
theorem dX6_leastMud_34 : decode cX6_leastMud 34 = .ok (.getfield 155, 3) := by decide +kernel
theorem dX6_leastMud_37 : decode cX6_leastMud 37 = .ok (.iload_n 2, 1) := by decide +kernel
theorem dX6_leastMud_38 : decode cX6_leastMud 38 = .ok (.iaload, 1) := by decide +kernel
theorem dX6_leastMud_39 : decode cX6_leastMud 39 = .ok (.iload_n 1, 1) := by decide +kernel
theorem dX6_leastMud_40 : decode cX6_leastMud 40 = .ok (.if_icmp .eq 6, 3) := by decide +kernel
theorem dX6_leastMud_43 : decode cX6_leastMud 43 = .ok (.ldc 154, 2) := by decide +kernel
theorem dX6_leastMud_45 : decode cX6_leastMud 45 = .ok (.ireturn, 1) := by decide +kernel
theorem dX6_leastMud_46 : decode cX6_leastMud 46 = .ok (.aload_n 0, 1) := by decide +kernel
theorem dX6_leastMud_47 : decode cX6_leastMud 47 = .ok (.iload_n 1, 1) := by decide +kernel
theorem dX6_leastMud_48 : decode cX6_leastMud 48 = .ok (.invokevirtual 239, 3) := by decide +kernel
theorem dX6_leastMud_51 : decode cX6_leastMud 51 = .ok (.istore_n 3, 1) := by decide +kernel
theorem dX6_leastMud_52 : decode cX6_leastMud 52 = .ok (.iload_n 3, 1) := by decide +kernel
theorem dX6_leastMud_53 : decode cX6_leastMud 53 = .ok (.iconst (-1), 1) := by decide +kernel
theorem dX6_leastMud_54 : decode cX6_leastMud 54 = .ok (.if_icmp .eq 8, 3) := by decide +kernel
theorem dX6_leastMud_57 : decode cX6_leastMud 57 = .ok (.iload_n 2, 1) := by decide +kernel
theorem dX6_leastMud_58 : decode cX6_leastMud 58 = .ok (.iconst (-1), 1) := by decide +kernel
theorem dX6_leastMud_59 : decode cX6_leastMud 59 = .ok (.if_icmp .ne 5, 3) := by decide +kernel
theorem dX6_leastMud_62 : decode cX6_leastMud 62 = .ok (.iload_n 3, 1) := by decide +kernel
theorem dX6_leastMud_63 : decode cX6_leastMud 63 = .ok (.ireturn, 1) := by decide +kernel
theorem dX6_leastMud_64 : decode cX6_leastMud 64 = .ok (.aload_n 0, 1) := by decide +kernel
theorem dX6_leastMud_65 : decode cX6_leastMud 65 = .ok (.getfield 69, 3) := by decide +kernel
theorem dX6_leastMud_68 : decode cX6_leastMud 68 = .ok (.iload_n 2, 1) := by decide +kernel
theorem dX6_leastMud_69 : decode cX6_leastMud 69 = .ok (.iaload, 1) := by decide +kernel
theorem dX6_leastMud_70 : decode cX6_leastMud 70 = .ok (.ireturn, 1) := by decide +kernel
theorem dX6_votes_0 : decode cX6_votes 0 = .ok (.aload_n 0, 1) := by decide +kernel
theorem dX6_votes_1 : decode cX6_votes 1 = .ok (.getfield 19, 3) := by decide +kernel
theorem dX6_votes_4 : decode cX6_votes 4 = .ok (.iload_n 1, 1) := by decide +kernel
theorem dX6_votes_5 : decode cX6_votes 5 = .ok (.invokevirtual 201, 3) := by decide +kernel
theorem dX6_votes_8 : decode cX6_votes 8 = .ok (.ifCond .eq 11, 3) := by decide +kernel
theorem dX6_votes_11 : decode cX6_votes 11 = .ok (.aload_n 0, 1) := by decide +kernel
theorem dX6_votes_12 : decode cX6_votes 12 = .ok (.iload_n 1, 1) := by decide +kernel
theorem dX6_votes_13 : decode cX6_votes 13 = .ok (.invokevirtual 242, 3) := by decide +kernel
theorem dX6_votes_16 : decode cX6_votes 16 = .ok (.goto 5, 3) := by decide +kernel
theorem dX6_votes_19 : decode cX6_votes 19 = .ok (.ldc 154, 2) := by decide +kernel
theorem dX6_votes_21 : decode cX6_votes 21 = .ok (.ireturn, 1) := by decide +kernel
theorem dX6_elected_0 : decode cX6_elected 0 = .ok (.iconst (-1), 1) := by decide +kernel
theorem dX6_elected_1 : decode cX6_elected 1 = .ok (.istore_n 1, 1) := by decide +kernel
theorem dX6_elected_2 : decode cX6_elected 2 = .ok (.iconst 0, 1) := by decide +kernel
theorem dX6_elected_3 : decode cX6_elected 3 = .ok (.istore_n 2, 1) := by decide +kernel
theorem dX6_elected_4 : decode cX6_elected 4 = .ok (.iload_n 2, 1) := by decide +kernel
theorem dX6_elected_5 : decode cX6_elected 5 = .ok (.aload_n 0, 1) := by decide +kernel
theorem dX6_elected_6 : decode cX6_elected 6 = .ok (.getfield 19, 3) := by decide +kernel
theorem dX6_elected_9 : decode cX6_elected 9 = .ok (.getfield 111, 3) := by decide +kernel
theorem dX6_elected_12 : decode cX6_elected 12 = .ok (.if_icmp .ge 29, 3) := by decide +kernel
theorem dX6_elected_15 : decode cX6_elected 15 = .ok (.iload_n 1, 1) := by decide +kernel
theorem dX6_elected_16 : decode cX6_elected 16 = .ok (.iconst (-1), 1) := by decide +kernel
theorem dX6_elected_17 : decode cX6_elected 17 = .ok (.if_icmp .eq 16, 3) := by decide +kernel
theorem dX6_elected_20 : decode cX6_elected 20 = .ok (.aload_n 0, 1) := by decide +kernel
theorem dX6_elected_21 : decode cX6_elected 21 = .ok (.iload_n 2, 1) := by decide +kernel
theorem dX6_elected_22 : decode cX6_elected 22 = .ok (.invokevirtual 242, 3) := by decide +kernel
theorem dX6_elected_25 : decode cX6_elected 25 = .ok (.aload_n 0, 1) := by decide +kernel
theorem dX6_elected_26 : decode cX6_elected 26 = .ok (.iload_n 1, 1) := by decide +kernel
theorem dX6_elected_27 : decode cX6_elected 27 = .ok (.invokevirtual 242, 3) := by decide +kernel
theorem dX6_elected_30 : decode cX6_elected 30 = .ok (.if_icmp .le 5, 3) := by decide +kernel
theorem dX6_elected_33 : decode cX6_elected 33 = .ok (.iload_n 2, 1) := by decide +kernel
theorem dX6_elected_34 : decode cX6_elected 34 = .ok (.istore_n 1, 1) := by decide +kernel
theorem dX6_elected_35 : decode cX6_elected 35 = .ok (.iinc 2 1, 3) := by decide +kernel
theorem dX6_elected_38 : decode cX6_elected 38 = .ok (.goto (-34), 3) := by decide +kernel
theorem dX6_elected_41 : decode cX6_elected 41 = .ok (.iload_n 1, 1) := by decide +kernel
theorem dX6_elected_42 : decode cX6_elected 42 = .ok (.ireturn, 1) := by decide +kernel
theorem dX6_spring_0 : decode cX6_spring 0 = .ok (.iload_n 1, 1) := by decide +kernel
theorem dX6_spring_1 : decode cX6_spring 1 = .ok (.ifCond .lt 19, 3) := by decide +kernel
theorem dX6_spring_4 : decode cX6_spring 4 = .ok (.iload_n 1, 1) := by decide +kernel
theorem dX6_spring_5 : decode cX6_spring 5 = .ok (.bipush 30, 2) := by decide +kernel
theorem dX6_spring_7 : decode cX6_spring 7 = .ok (.if_icmp .gt 13, 3) := by decide +kernel
theorem dX6_spring_10 : decode cX6_spring 10 = .ok (.iload_n 2, 1) := by decide +kernel
theorem dX6_spring_11 : decode cX6_spring 11 = .ok (.ifCond .lt 9, 3) := by decide +kernel
theorem dX6_spring_14 : decode cX6_spring 14 = .ok (.iload_n 2, 1) := by decide +kernel
theorem dX6_spring_15 : decode cX6_spring 15 = .ok (.bipush 100, 2) := by decide +kernel
theorem dX6_spring_17 : decode cX6_spring 17 = .ok (.if_icmp .le 6, 3) := by decide +kernel
theorem dX6_spring_20 : decode cX6_spring 20 = .ok (.ldc 75, 2) := by decide +kernel
theorem dX6_spring_22 : decode cX6_spring 22 = .ok (.ireturn, 1) := by decide +kernel
theorem dX6_spring_23 : decode cX6_spring 23 = .ok (.ldc2_w 245, 3) := by decide +kernel
theorem dX6_spring_26 : decode cX6_spring 26 = .ok (.lstore_n 3, 1) := by decide +kernel
theorem dX6_spring_27 : decode cX6_spring 27 = .ok (.iconst 0, 1) := by decide +kernel
theorem dX6_spring_28 : decode cX6_spring 28 = .ok (.istore 5, 2) := by decide +kernel
theorem dX6_spring_30 : decode cX6_spring 30 = .ok (.iload 5, 2) := by decide +kernel
theorem dX6_spring_32 : decode cX6_spring 32 = .ok (.iload_n 1, 1) := by decide +kernel
theorem dX6_spring_33 : decode cX6_spring 33 = .ok (.if_icmp .ge 21, 3) := by decide +kernel
theorem dX6_spring_36 : decode cX6_spring 36 = .ok (.lload_n 3, 1) := by decide +kernel
theorem dX6_spring_37 : decode cX6_spring 37 = .ok (.bipush 100, 2) := by decide +kernel
theorem dX6_spring_39 : decode cX6_spring 39 = .ok (.iload_n 2, 1) := by decide +kernel
theorem dX6_spring_40 : decode cX6_spring 40 = .ok (.isub, 1) := by decide +kernel
theorem dX6_spring_41 : decode cX6_spring 41 = .ok (.i2l, 1) := by decide +kernel
theorem dX6_spring_42 : decode cX6_spring 42 = .ok (.lmul, 1) := by decide +kernel
theorem dX6_spring_43 : decode cX6_spring 43 = .ok (.ldc2_w 247, 3) := by decide +kernel
theorem dX6_spring_46 : decode cX6_spring 46 = .ok (.ldiv, 1) := by decide +kernel
theorem dX6_spring_47 : decode cX6_spring 47 = .ok (.lstore_n 3, 1) := by decide +kernel
theorem dX6_spring_48 : decode cX6_spring 48 = .ok (.iinc 5 1, 3) := by decide +kernel
theorem dX6_spring_51 : decode cX6_spring 51 = .ok (.goto (-21), 3) := by decide +kernel
theorem dX6_spring_54 : decode cX6_spring 54 = .ok (.lload_n 3, 1) := by decide +kernel
theorem dX6_spring_55 : decode cX6_spring 55 = .ok (.l2i, 1) := by decide +kernel
theorem dX6_spring_56 : decode cX6_spring 56 = .ok (.ireturn, 1) := by decide +kernel
theorem dX6_see_0 : decode cX6_see 0 = .ok (.aload_n 0, 1) := by decide +kernel
theorem dX6_see_1 : decode cX6_see 1 = .ok (.getfield 19, 3) := by decide +kernel
theorem dX6_see_4 : decode cX6_see 4 = .ok (.iload_n 1, 1) := by decide +kernel
theorem dX6_see_5 : decode cX6_see 5 = .ok (.invokevirtual 151, 3) := by decide +kernel
theorem dX6_see_8 : decode cX6_see 8 = .ok (.ifCond .ne 6, 3) := by decide +kernel
theorem dX6_see_11 : decode cX6_see 11 = .ok (.ldc 154, 2) := by decide +kernel
theorem dX6_see_13 : decode cX6_see 13 = .ok (.ireturn, 1) := by decide +kernel
theorem dX6_see_14 : decode cX6_see 14 = .ok (.iload_n 2, 1) := by decide +kernel
theorem dX6_see_15 : decode cX6_see 15 = .ok (.ifCond .lt 9, 3) := by decide +kernel
theorem dX6_see_18 : decode cX6_see 18 = .ok (.iload_n 2, 1) := by decide +kernel
theorem dX6_see_19 : decode cX6_see 19 = .ok (.bipush 40, 2) := by decide +kernel
theorem dX6_see_21 : decode cX6_see 21 = .ok (.if_icmp .le 6, 3) := by decide +kernel
theorem dX6_see_24 : decode cX6_see 24 = .ok (.ldc 75, 2) := by decide +kernel
theorem dX6_see_26 : decode cX6_see 26 = .ok (.ireturn, 1) := by decide +kernel
theorem dX6_see_27 : decode cX6_see 27 = .ok (.aload_n 0, 1) := by decide +kernel
theorem dX6_see_28 : decode cX6_see 28 = .ok (.getfield 59, 3) := by decide +kernel
theorem dX6_see_31 : decode cX6_see 31 = .ok (.iload_n 1, 1) := by decide +kernel
theorem dX6_see_32 : decode cX6_see 32 = .ok (.iload_n 2, 1) := by decide +kernel
theorem dX6_see_33 : decode cX6_see 33 = .ok (.invokevirtual 249, 3) := by decide +kernel
theorem dX6_see_36 : decode cX6_see 36 = .ok (.ireturn, 1) := by decide +kernel
theorem dX6_moved_0 : decode cX6_moved 0 = .ok (.iload_n 1, 1) := by decide +kernel
theorem dX6_moved_1 : decode cX6_moved 1 = .ok (.iconst (-1), 1) := by decide +kernel
theorem dX6_moved_2 : decode cX6_moved 2 = .ok (.if_icmp .ge 5, 3) := by decide +kernel
theorem dX6_moved_5 : decode cX6_moved 5 = .ok (.iconst (-1), 1) := by decide +kernel
theorem dX6_moved_6 : decode cX6_moved 6 = .ok (.ireturn, 1) := by decide +kernel
theorem dX6_moved_7 : decode cX6_moved 7 = .ok (.iconst 0, 1) := by decide +kernel
theorem dX6_moved_8 : decode cX6_moved 8 = .ok (.istore_n 2, 1) := by decide +kernel
theorem dX6_moved_9 : decode cX6_moved 9 = .ok (.iconst 0, 1) := by decide +kernel
theorem dX6_moved_10 : decode cX6_moved 10 = .ok (.istore_n 3, 1) := by decide +kernel
theorem dX6_moved_11 : decode cX6_moved 11 = .ok (.iload_n 3, 1) := by decide +kernel
theorem dX6_moved_12 : decode cX6_moved 12 = .ok (.aload_n 0, 1) := by decide +kernel
theorem dX6_moved_13 : decode cX6_moved 13 = .ok (.getfield 19, 3) := by decide +kernel
theorem dX6_moved_16 : decode cX6_moved 16 = .ok (.getfield 105, 3) := by decide +kernel
theorem dX6_moved_19 : decode cX6_moved 19 = .ok (.if_icmp .ge 79, 3) := by decide +kernel
theorem dX6_moved_22 : decode cX6_moved 22 = .ok (.iconst 0, 1) := by decide +kernel
theorem dX6_moved_23 : decode cX6_moved 23 = .ok (.istore 4, 2) := by decide +kernel
theorem dX6_moved_25 : decode cX6_moved 25 = .ok (.iload 4, 2) := by decide +kernel
theorem dX6_moved_27 : decode cX6_moved 27 = .ok (.aload_n 0, 1) := by decide +kernel
theorem dX6_moved_28 : decode cX6_moved 28 = .ok (.getfield 19, 3) := by decide +kernel
theorem dX6_moved_31 : decode cX6_moved 31 = .ok (.getfield 105, 3) := by decide +kernel
theorem dX6_moved_34 : decode cX6_moved 34 = .ok (.if_icmp .ge 58, 3) := by decide +kernel
theorem dX6_moved_37 : decode cX6_moved 37 = .ok (.iconst 1, 1) := by decide +kernel
theorem dX6_moved_38 : decode cX6_moved 38 = .ok (.istore 5, 2) := by decide +kernel
theorem dX6_moved_40 : decode cX6_moved 40 = .ok (.iload 5, 2) := by decide +kernel
theorem dX6_moved_42 : decode cX6_moved 42 = .ok (.iconst 5, 1) := by decide +kernel
theorem dX6_moved_43 : decode cX6_moved 43 = .ok (.if_icmp .gt 43, 3) := by decide +kernel
theorem dX6_moved_46 : decode cX6_moved 46 = .ok (.aload_n 0, 1) := by decide +kernel
theorem dX6_moved_47 : decode cX6_moved 47 = .ok (.iload_n 3, 1) := by decide +kernel
theorem dX6_moved_48 : decode cX6_moved 48 = .ok (.iload 4, 2) := by decide +kernel
theorem dX6_moved_50 : decode cX6_moved 50 = .ok (.iload 5, 2) := by decide +kernel
theorem dX6_moved_52 : decode cX6_moved 52 = .ok (.invokevirtual 253, 3) := by decide +kernel
theorem dX6_moved_55 : decode cX6_moved 55 = .ok (.ifCond .eq 25, 3) := by decide +kernel
theorem dX6_moved_58 : decode cX6_moved 58 = .ok (.iload_n 2, 1) := by decide +kernel
theorem dX6_moved_59 : decode cX6_moved 59 = .ok (.iload_n 1, 1) := by decide +kernel
theorem dX6_moved_60 : decode cX6_moved 60 = .ok (.if_icmp .ne 17, 3) := by decide +kernel
theorem dX6_moved_63 : decode cX6_moved 63 = .ok (.bipush 100, 2) := by decide +kernel
theorem dX6_moved_65 : decode cX6_moved 65 = .ok (.iload_n 3, 1) := by decide +kernel
theorem dX6_moved_66 : decode cX6_moved 66 = .ok (.imul, 1) := by decide +kernel
theorem dX6_moved_67 : decode cX6_moved 67 = .ok (.bipush 10, 2) := by decide +kernel
theorem dX6_moved_69 : decode cX6_moved 69 = .ok (.iload 4, 2) := by decide +kernel
theorem dX6_moved_71 : decode cX6_moved 71 = .ok (.imul, 1) := by decide +kernel
theorem dX6_moved_72 : decode cX6_moved 72 = .ok (.iadd, 1) := by decide +kernel
theorem dX6_moved_73 : decode cX6_moved 73 = .ok (.iload 5, 2) := by decide +kernel
theorem dX6_moved_75 : decode cX6_moved 75 = .ok (.iadd, 1) := by decide +kernel
theorem dX6_moved_76 : decode cX6_moved 76 = .ok (.ireturn, 1) := by decide +kernel
theorem dX6_moved_77 : decode cX6_moved 77 = .ok (.iinc 2 1, 3) := by decide +kernel
theorem dX6_moved_80 : decode cX6_moved 80 = .ok (.iinc 5 1, 3) := by decide +kernel
theorem dX6_moved_83 : decode cX6_moved 83 = .ok (.goto (-43), 3) := by decide +kernel
theorem dX6_moved_86 : decode cX6_moved 86 = .ok (.iinc 4 1, 3) := by decide +kernel
theorem dX6_moved_89 : decode cX6_moved 89 = .ok (.goto (-64), 3) := by decide +kernel
theorem dX6_moved_92 : decode cX6_moved 92 = .ok (.iinc 3 1, 3) := by decide +kernel
theorem dX6_moved_95 : decode cX6_moved 95 = .ok (.goto (-84), 3) := by decide +kernel
theorem dX6_moved_98 : decode cX6_moved 98 = .ok (.iload_n 1, 1) := by decide +kernel
theorem dX6_moved_99 : decode cX6_moved 99 = .ok (.iconst (-1), 1) := by decide +kernel
theorem dX6_moved_100 : decode cX6_moved 100 = .ok (.if_icmp .ne 7, 3) := by decide +kernel
theorem dX6_moved_103 : decode cX6_moved 103 = .ok (.iload_n 2, 1) := by decide +kernel
theorem dX6_moved_104 : decode cX6_moved 104 = .ok (.goto 4, 3) := by decide +kernel
theorem dX6_moved_107 : decode cX6_moved 107 = .ok (.iconst (-1), 1) := by decide +kernel
theorem dX6_moved_108 : decode cX6_moved 108 = .ok (.ireturn, 1) := by decide +kernel
theorem dX6_rough_0 : decode cX6_rough 0 = .ok (.iload_n 1, 1) := by decide +kernel
theorem dX6_rough_1 : decode cX6_rough 1 = .ok (.aload_n 0, 1) := by decide +kernel
theorem dX6_rough_2 : decode cX6_rough 2 = .ok (.getfield 19, 3) := by decide +kernel
theorem dX6_rough_5 : decode cX6_rough 5 = .ok (.invokevirtual 133, 3) := by decide +kernel
theorem dX6_rough_8 : decode cX6_rough 8 = .ok (.iconst (-1), 1) := by decide +kernel
theorem dX6_rough_9 : decode cX6_rough 9 = .ok (.ixor, 1) := by decide +kernel
theorem dX6_rough_10 : decode cX6_rough 10 = .ok (.iand, 1) := by decide +kernel
theorem dX6_rough_11 : decode cX6_rough 11 = .ok (.ifCond .eq 6, 3) := by decide +kernel
theorem dX6_rough_14 : decode cX6_rough 14 = .ok (.ldc 154, 2) := by decide +kernel
theorem dX6_rough_16 : decode cX6_rough 16 = .ok (.ireturn, 1) := by decide +kernel
theorem dX6_rough_17 : decode cX6_rough 17 = .ok (.iload_n 2, 1) := by decide +kernel
theorem dX6_rough_18 : decode cX6_rough 18 = .ok (.ifCond .lt 10, 3) := by decide +kernel
theorem dX6_rough_21 : decode cX6_rough 21 = .ok (.iload_n 2, 1) := by decide +kernel
theorem dX6_rough_22 : decode cX6_rough 22 = .ok (.sipush 320, 3) := by decide +kernel
theorem dX6_rough_25 : decode cX6_rough 25 = .ok (.if_icmp .le 6, 3) := by decide +kernel
theorem dX6_rough_28 : decode cX6_rough 28 = .ok (.ldc 75, 2) := by decide +kernel
theorem dX6_rough_30 : decode cX6_rough 30 = .ok (.ireturn, 1) := by decide +kernel
theorem dX6_rough_31 : decode cX6_rough 31 = .ok (.aload_n 0, 1) := by decide +kernel
theorem dX6_rough_32 : decode cX6_rough 32 = .ok (.getfield 63, 3) := by decide +kernel
theorem dX6_rough_35 : decode cX6_rough 35 = .ok (.iload_n 1, 1) := by decide +kernel
theorem dX6_rough_36 : decode cX6_rough 36 = .ok (.iload_n 2, 1) := by decide +kernel
theorem dX6_rough_37 : decode cX6_rough 37 = .ok (.invokevirtual 249, 3) := by decide +kernel
theorem dX6_rough_40 : decode cX6_rough 40 = .ok (.ireturn, 1) := by decide +kernel
theorem dX6_span_0 : decode cX6_span 0 = .ok (.aload_n 0, 1) := by decide +kernel
theorem dX6_span_1 : decode cX6_span 1 = .ok (.getfield 19, 3) := by decide +kernel
theorem dX6_span_4 : decode cX6_span 4 = .ok (.iload_n 1, 1) := by decide +kernel
theorem dX6_span_5 : decode cX6_span 5 = .ok (.invokevirtual 151, 3) := by decide +kernel
theorem dX6_span_8 : decode cX6_span 8 = .ok (.ifCond .ne 6, 3) := by decide +kernel
theorem dX6_span_11 : decode cX6_span 11 = .ok (.ldc 154, 2) := by decide +kernel
theorem dX6_span_13 : decode cX6_span 13 = .ok (.ireturn, 1) := by decide +kernel
theorem dX6_span_14 : decode cX6_span 14 = .ok (.iload_n 2, 1) := by decide +kernel
theorem dX6_span_15 : decode cX6_span 15 = .ok (.ifCond .lt 8, 3) := by decide +kernel
theorem dX6_span_18 : decode cX6_span 18 = .ok (.iload_n 2, 1) := by decide +kernel
theorem dX6_span_19 : decode cX6_span 19 = .ok (.iconst 1, 1) := by decide +kernel
theorem dX6_span_20 : decode cX6_span 20 = .ok (.if_icmp .le 6, 3) := by decide +kernel
theorem dX6_span_23 : decode cX6_span 23 = .ok (.ldc 75, 2) := by decide +kernel
theorem dX6_span_25 : decode cX6_span 25 = .ok (.ireturn, 1) := by decide +kernel
theorem dX6_span_26 : decode cX6_span 26 = .ok (.aload_n 0, 1) := by decide +kernel
theorem dX6_span_27 : decode cX6_span 27 = .ok (.iload_n 1, 1) := by decide +kernel
theorem dX6_span_28 : decode cX6_span 28 = .ok (.invokevirtual 256, 3) := by decide +kernel
theorem dX6_span_31 : decode cX6_span 31 = .ok (.istore_n 3, 1) := by decide +kernel
theorem dX6_span_32 : decode cX6_span 32 = .ok (.aload_n 0, 1) := by decide +kernel
theorem dX6_span_33 : decode cX6_span 33 = .ok (.iload_n 1, 1) := by decide +kernel
theorem dX6_span_34 : decode cX6_span 34 = .ok (.invokevirtual 259, 3) := by decide +kernel
theorem dX6_span_37 : decode cX6_span 37 = .ok (.istore 4, 2) := by decide +kernel
theorem dX6_span_39 : decode cX6_span 39 = .ok (.iload_n 3, 1) := by decide +kernel
theorem dX6_span_40 : decode cX6_span 40 = .ok (.iload 4, 2) := by decide +kernel
theorem dX6_span_42 : decode cX6_span 42 = .ok (.if_icmp .le 5, 3) := by decide +kernel
theorem dX6_span_45 : decode cX6_span 45 = .ok (.iconst (-1), 1) := by decide +kernel
theorem dX6_span_46 : decode cX6_span 46 = .ok (.ireturn, 1) := by decide +kernel
theorem dX6_span_47 : decode cX6_span 47 = .ok (.iload_n 2, 1) := by decide +kernel
theorem dX6_span_48 : decode cX6_span 48 = .ok (.ifCond .ne 7, 3) := by decide +kernel
theorem dX6_span_51 : decode cX6_span 51 = .ok (.iload_n 3, 1) := by decide +kernel
theorem dX6_span_52 : decode cX6_span 52 = .ok (.goto 5, 3) := by decide +kernel
theorem dX6_span_55 : decode cX6_span 55 = .ok (.iload 4, 2) := by decide +kernel
theorem dX6_span_57 : decode cX6_span 57 = .ok (.ireturn, 1) := by decide +kernel
theorem dX6_uncounted_0 : decode cX6_uncounted 0 = .ok (.iconst 0, 1) := by decide +kernel
theorem dX6_uncounted_1 : decode cX6_uncounted 1 = .ok (.istore_n 1, 1) := by decide +kernel
theorem dX6_uncounted_2 : decode cX6_uncounted 2 = .ok (.iconst 0, 1) := by decide +kernel
theorem dX6_uncounted_3 : decode cX6_uncounted 3 = .ok (.istore_n 2, 1) := by decide +kernel
theorem dX6_uncounted_4 : decode cX6_uncounted 4 = .ok (.iload_n 2, 1) := by decide +kernel
theorem dX6_uncounted_5 : decode cX6_uncounted 5 = .ok (.aload_n 0, 1) := by decide +kernel
theorem dX6_uncounted_6 : decode cX6_uncounted 6 = .ok (.getfield 19, 3) := by decide +kernel
theorem dX6_uncounted_9 : decode cX6_uncounted 9 = .ok (.getfield 105, 3) := by decide +kernel
theorem dX6_uncounted_12 : decode cX6_uncounted 12 = .ok (.if_icmp .ge 28, 3) := by decide +kernel
theorem dX6_uncounted_15 : decode cX6_uncounted 15 = .ok (.aload_n 0, 1) := by decide +kernel
theorem dX6_uncounted_16 : decode cX6_uncounted 16 = .ok (.iload_n 2, 1) := by decide +kernel
theorem dX6_uncounted_17 : decode cX6_uncounted 17 = .ok (.invokevirtual 256, 3) := by decide +kernel
theorem dX6_uncounted_20 : decode cX6_uncounted 20 = .ok (.aload_n 0, 1) := by decide +kernel
theorem dX6_uncounted_21 : decode cX6_uncounted 21 = .ok (.iload_n 2, 1) := by decide +kernel
theorem dX6_uncounted_22 : decode cX6_uncounted 22 = .ok (.invokevirtual 259, 3) := by decide +kernel
theorem dX6_uncounted_25 : decode cX6_uncounted 25 = .ok (.if_icmp .eq 9, 3) := by decide +kernel
theorem dX6_uncounted_28 : decode cX6_uncounted 28 = .ok (.iload_n 1, 1) := by decide +kernel
theorem dX6_uncounted_29 : decode cX6_uncounted 29 = .ok (.iconst 1, 1) := by decide +kernel
theorem dX6_uncounted_30 : decode cX6_uncounted 30 = .ok (.iload_n 2, 1) := by decide +kernel
theorem dX6_uncounted_31 : decode cX6_uncounted 31 = .ok (.ishl, 1) := by decide +kernel
theorem dX6_uncounted_32 : decode cX6_uncounted 32 = .ok (.ior, 1) := by decide +kernel
theorem dX6_uncounted_33 : decode cX6_uncounted 33 = .ok (.istore_n 1, 1) := by decide +kernel
theorem dX6_uncounted_34 : decode cX6_uncounted 34 = .ok (.iinc 2 1, 3) := by decide +kernel
theorem dX6_uncounted_37 : decode cX6_uncounted 37 = .ok (.goto (-33), 3) := by decide +kernel
theorem dX6_uncounted_40 : decode cX6_uncounted 40 = .ok (.iload_n 1, 1) := by decide +kernel
theorem dX6_uncounted_41 : decode cX6_uncounted 41 = .ok (.ireturn, 1) := by decide +kernel
theorem dX6_write_0 : decode cX6_write 0 = .ok (.aload_n 0, 1) := by decide +kernel
theorem dX6_write_1 : decode cX6_write 1 = .ok (.getfield 19, 3) := by decide +kernel
theorem dX6_write_4 : decode cX6_write 4 = .ok (.iload_n 1, 1) := by decide +kernel
theorem dX6_write_5 : decode cX6_write 5 = .ok (.invokevirtual 201, 3) := by decide +kernel
theorem dX6_write_8 : decode cX6_write 8 = .ok (.ifCond .ne 6, 3) := by decide +kernel
theorem dX6_write_11 : decode cX6_write 11 = .ok (.ldc 154, 2) := by decide +kernel
theorem dX6_write_13 : decode cX6_write 13 = .ok (.ireturn, 1) := by decide +kernel
theorem dX6_write_14 : decode cX6_write 14 = .ok (.iload_n 2, 1) := by decide +kernel
theorem dX6_write_15 : decode cX6_write 15 = .ok (.ifCond .lt 10, 3) := by decide +kernel
theorem dX6_write_18 : decode cX6_write 18 = .ok (.iload_n 2, 1) := by decide +kernel
theorem dX6_write_19 : decode cX6_write 19 = .ok (.sipush 320, 3) := by decide +kernel
theorem dX6_write_22 : decode cX6_write 22 = .ok (.if_icmp .le 6, 3) := by decide +kernel
theorem dX6_write_25 : decode cX6_write 25 = .ok (.ldc 75, 2) := by decide +kernel
theorem dX6_write_27 : decode cX6_write 27 = .ok (.ireturn, 1) := by decide +kernel
theorem dX6_write_28 : decode cX6_write 28 = .ok (.aload_n 0, 1) := by decide +kernel
theorem dX6_write_29 : decode cX6_write 29 = .ok (.getfield 66, 3) := by decide +kernel
theorem dX6_write_32 : decode cX6_write 32 = .ok (.iload_n 1, 1) := by decide +kernel
theorem dX6_write_33 : decode cX6_write 33 = .ok (.iload_n 2, 1) := by decide +kernel
theorem dX6_write_34 : decode cX6_write 34 = .ok (.invokevirtual 249, 3) := by decide +kernel
theorem dX6_write_37 : decode cX6_write 37 = .ok (.ireturn, 1) := by decide +kernel
theorem dX6_tear_0 : decode cX6_tear 0 = .ok (.aload_n 0, 1) := by decide +kernel
theorem dX6_tear_1 : decode cX6_tear 1 = .ok (.getfield 59, 3) := by decide +kernel
theorem dX6_tear_4 : decode cX6_tear 4 = .ok (.getfield 147, 3) := by decide +kernel
theorem dX6_tear_7 : decode cX6_tear 7 = .ok (.aload_n 0, 1) := by decide +kernel
theorem dX6_tear_8 : decode cX6_tear 8 = .ok (.getfield 63, 3) := by decide +kernel
theorem dX6_tear_11 : decode cX6_tear 11 = .ok (.getfield 147, 3) := by decide +kernel
theorem dX6_tear_14 : decode cX6_tear 14 = .ok (.iadd, 1) := by decide +kernel
theorem dX6_tear_15 : decode cX6_tear 15 = .ok (.aload_n 0, 1) := by decide +kernel
theorem dX6_tear_16 : decode cX6_tear 16 = .ok (.getfield 66, 3) := by decide +kernel
theorem dX6_tear_19 : decode cX6_tear 19 = .ok (.getfield 147, 3) := by decide +kernel
theorem dX6_tear_22 : decode cX6_tear 22 = .ok (.iadd, 1) := by decide +kernel
theorem dX6_tear_23 : decode cX6_tear 23 = .ok (.istore_n 1, 1) := by decide +kernel
theorem dX6_tear_24 : decode cX6_tear 24 = .ok (.aload_n 0, 1) := by decide +kernel
theorem dX6_tear_25 : decode cX6_tear 25 = .ok (.invokevirtual 102, 3) := by decide +kernel
theorem dX6_tear_28 : decode cX6_tear 28 = .ok (.iload_n 1, 1) := by decide +kernel
theorem dX6_tear_29 : decode cX6_tear 29 = .ok (.ireturn, 1) := by decide +kernel
theorem dX6_judge_0 : decode cX6_judge 0 = .ok (.iconst 0, 1) := by decide +kernel
theorem dX6_judge_1 : decode cX6_judge 1 = .ok (.istore_n 1, 1) := by decide +kernel
theorem dX6_judge_2 : decode cX6_judge 2 = .ok (.iload_n 1, 1) := by decide +kernel
theorem dX6_judge_3 : decode cX6_judge 3 = .ok (.aload_n 0, 1) := by decide +kernel
theorem dX6_judge_4 : decode cX6_judge 4 = .ok (.getfield 66, 3) := by decide +kernel
theorem dX6_judge_7 : decode cX6_judge 7 = .ok (.getfield 147, 3) := by decide +kernel
theorem dX6_judge_10 : decode cX6_judge 10 = .ok (.if_icmp .ge 40, 3) := by decide +kernel
theorem dX6_judge_13 : decode cX6_judge 13 = .ok (.aload_n 0, 1) := by decide +kernel
theorem dX6_judge_14 : decode cX6_judge 14 = .ok (.aload_n 0, 1) := by decide +kernel
theorem dX6_judge_15 : decode cX6_judge 15 = .ok (.getfield 29, 3) := by decide +kernel
theorem dX6_judge_18 : decode cX6_judge 18 = .ok (.aload_n 0, 1) := by decide +kernel
theorem dX6_judge_19 : decode cX6_judge 19 = .ok (.getfield 66, 3) := by decide +kernel
theorem dX6_judge_22 : decode cX6_judge 22 = .ok (.getfield 262, 3) := by decide +kernel
theorem dX6_judge_25 : decode cX6_judge 25 = .ok (.iload_n 1, 1) := by decide +kernel
theorem dX6_judge_26 : decode cX6_judge 26 = .ok (.iaload, 1) := by decide +kernel
theorem dX6_judge_27 : decode cX6_judge 27 = .ok (.invokevirtual 210, 3) := by decide +kernel
theorem dX6_judge_30 : decode cX6_judge 30 = .ok (.aload_n 0, 1) := by decide +kernel
theorem dX6_judge_31 : decode cX6_judge 31 = .ok (.getfield 66, 3) := by decide +kernel
theorem dX6_judge_34 : decode cX6_judge 34 = .ok (.getfield 265, 3) := by decide +kernel
theorem dX6_judge_37 : decode cX6_judge 37 = .ok (.iload_n 1, 1) := by decide +kernel
theorem dX6_judge_38 : decode cX6_judge 38 = .ok (.iaload, 1) := by decide +kernel
theorem dX6_judge_39 : decode cX6_judge 39 = .ok (.if_icmp .eq 5, 3) := by decide +kernel
theorem dX6_judge_42 : decode cX6_judge 42 = .ok (.iload_n 1, 1) := by decide +kernel
theorem dX6_judge_43 : decode cX6_judge 43 = .ok (.ireturn, 1) := by decide +kernel
theorem dX6_judge_44 : decode cX6_judge 44 = .ok (.iinc 1 1, 3) := by decide +kernel
theorem dX6_judge_47 : decode cX6_judge 47 = .ok (.goto (-45), 3) := by decide +kernel
theorem dX6_judge_50 : decode cX6_judge 50 = .ok (.iconst (-1), 1) := by decide +kernel
theorem dX6_judge_51 : decode cX6_judge 51 = .ok (.ireturn, 1) := by decide +kernel
theorem dX6_seed_0 : decode cX6_seed 0 = .ok (.iload_n 1, 1) := by decide +kernel
theorem dX6_seed_1 : decode cX6_seed 1 = .ok (.ifCond .ge 6, 3) := by decide +kernel
theorem dX6_seed_4 : decode cX6_seed 4 = .ok (.ldc 75, 2) := by decide +kernel
theorem dX6_seed_6 : decode cX6_seed 6 = .ok (.ireturn, 1) := by decide +kernel
theorem dX6_seed_7 : decode cX6_seed 7 = .ok (.aload_n 0, 1) := by decide +kernel
theorem dX6_seed_8 : decode cX6_seed 8 = .ok (.getfield 268, 3) := by decide +kernel
theorem dX6_seed_11 : decode cX6_seed 11 = .ok (.istore_n 2, 1) := by decide +kernel
theorem dX6_seed_12 : decode cX6_seed 12 = .ok (.aload_n 0, 1) := by decide +kernel
theorem dX6_seed_13 : decode cX6_seed 13 = .ok (.iload_n 1, 1) := by decide +kernel
theorem dX6_seed_14 : decode cX6_seed 14 = .ok (.putfield 268, 3) := by decide +kernel
theorem dX6_seed_17 : decode cX6_seed 17 = .ok (.iload_n 2, 1) := by decide +kernel
theorem dX6_seed_18 : decode cX6_seed 18 = .ok (.ireturn, 1) := by decide +kernel
theorem dX6_keep_0 : decode cX6_keep 0 = .ok (.iload_n 1, 1) := by decide +kernel
theorem dX6_keep_1 : decode cX6_keep 1 = .ok (.ifCond .lt 8, 3) := by decide +kernel
theorem dX6_keep_4 : decode cX6_keep 4 = .ok (.iload_n 1, 1) := by decide +kernel
theorem dX6_keep_5 : decode cX6_keep 5 = .ok (.iconst 2, 1) := by decide +kernel
theorem dX6_keep_6 : decode cX6_keep 6 = .ok (.if_icmp .lt 6, 3) := by decide +kernel
theorem dX6_keep_9 : decode cX6_keep 9 = .ok (.ldc 154, 2) := by decide +kernel
theorem dX6_keep_11 : decode cX6_keep 11 = .ok (.ireturn, 1) := by decide +kernel
theorem dX6_keep_12 : decode cX6_keep 12 = .ok (.aload_n 0, 1) := by decide +kernel
theorem dX6_keep_13 : decode cX6_keep 13 = .ok (.getfield 48, 3) := by decide +kernel
theorem dX6_keep_16 : decode cX6_keep 16 = .ok (.iload_n 1, 1) := by decide +kernel
theorem dX6_keep_17 : decode cX6_keep 17 = .ok (.aload_n 0, 1) := by decide +kernel
theorem dX6_keep_18 : decode cX6_keep 18 = .ok (.getfield 29, 3) := by decide +kernel
theorem dX6_keep_21 : decode cX6_keep 21 = .ok (.invokevirtual 271, 3) := by decide +kernel
theorem dX6_keep_24 : decode cX6_keep 24 = .ok (.aload_n 0, 1) := by decide +kernel
theorem dX6_keep_25 : decode cX6_keep 25 = .ok (.getfield 52, 3) := by decide +kernel
theorem dX6_keep_28 : decode cX6_keep 28 = .ok (.iload_n 1, 1) := by decide +kernel
theorem dX6_keep_29 : decode cX6_keep 29 = .ok (.aload_n 0, 1) := by decide +kernel
theorem dX6_keep_30 : decode cX6_keep 30 = .ok (.getfield 268, 3) := by decide +kernel
theorem dX6_keep_33 : decode cX6_keep 33 = .ok (.iastore, 1) := by decide +kernel
theorem dX6_keep_34 : decode cX6_keep 34 = .ok (.aload_n 0, 1) := by decide +kernel
theorem dX6_keep_35 : decode cX6_keep 35 = .ok (.dup, 1) := by decide +kernel
theorem dX6_keep_36 : decode cX6_keep 36 = .ok (.getfield 99, 3) := by decide +kernel
theorem dX6_keep_39 : decode cX6_keep 39 = .ok (.iconst 1, 1) := by decide +kernel
theorem dX6_keep_40 : decode cX6_keep 40 = .ok (.iload_n 1, 1) := by decide +kernel
theorem dX6_keep_41 : decode cX6_keep 41 = .ok (.ishl, 1) := by decide +kernel
theorem dX6_keep_42 : decode cX6_keep 42 = .ok (.ior, 1) := by decide +kernel
theorem dX6_keep_43 : decode cX6_keep 43 = .ok (.putfield 99, 3) := by decide +kernel
theorem dX6_keep_46 : decode cX6_keep 46 = .ok (.aload_n 0, 1) := by decide +kernel
theorem dX6_keep_47 : decode cX6_keep 47 = .ok (.getfield 39, 3) := by decide +kernel
theorem dX6_keep_50 : decode cX6_keep 50 = .ok (.invokevirtual 96, 3) := by decide +kernel
theorem dX6_keep_53 : decode cX6_keep 53 = .ok (.iconst 1, 1) := by decide +kernel
theorem dX6_keep_54 : decode cX6_keep 54 = .ok (.ireturn, 1) := by decide +kernel
theorem dX6_goBack_0 : decode cX6_goBack 0 = .ok (.iload_n 1, 1) := by decide +kernel
theorem dX6_goBack_1 : decode cX6_goBack 1 = .ok (.ifCond .lt 8, 3) := by decide +kernel
theorem dX6_goBack_4 : decode cX6_goBack 4 = .ok (.iload_n 1, 1) := by decide +kernel
theorem dX6_goBack_5 : decode cX6_goBack 5 = .ok (.iconst 2, 1) := by decide +kernel
theorem dX6_goBack_6 : decode cX6_goBack 6 = .ok (.if_icmp .lt 6, 3) := by decide +kernel
theorem dX6_goBack_9 : decode cX6_goBack 9 = .ok (.ldc 154, 2) := by decide +kernel
theorem dX6_goBack_11 : decode cX6_goBack 11 = .ok (.ireturn, 1) := by decide +kernel
theorem dX6_goBack_12 : decode cX6_goBack 12 = .ok (.aload_n 0, 1) := by decide +kernel
theorem dX6_goBack_13 : decode cX6_goBack 13 = .ok (.getfield 99, 3) := by decide +kernel
theorem dX6_goBack_16 : decode cX6_goBack 16 = .ok (.iload_n 1, 1) := by decide +kernel
theorem dX6_goBack_17 : decode cX6_goBack 17 = .ok (.ishr, 1) := by decide +kernel
theorem dX6_goBack_18 : decode cX6_goBack 18 = .ok (.iconst 1, 1) := by decide +kernel
theorem dX6_goBack_19 : decode cX6_goBack 19 = .ok (.iand, 1) := by decide +kernel
theorem dX6_goBack_20 : decode cX6_goBack 20 = .ok (.ifCond .ne 6, 3) := by decide +kernel
theorem dX6_goBack_23 : decode cX6_goBack 23 = .ok (.ldc 185, 2) := by decide +kernel
theorem dX6_goBack_25 : decode cX6_goBack 25 = .ok (.ireturn, 1) := by decide +kernel
theorem dX6_goBack_26 : decode cX6_goBack 26 = .ok (.aload_n 0, 1) := by decide +kernel
theorem dX6_goBack_27 : decode cX6_goBack 27 = .ok (.getfield 48, 3) := by decide +kernel
theorem dX6_goBack_30 : decode cX6_goBack 30 = .ok (.iload_n 1, 1) := by decide +kernel
theorem dX6_goBack_31 : decode cX6_goBack 31 = .ok (.aload_n 0, 1) := by decide +kernel
theorem dX6_goBack_32 : decode cX6_goBack 32 = .ok (.getfield 29, 3) := by decide +kernel
theorem dX6_goBack_35 : decode cX6_goBack 35 = .ok (.invokevirtual 275, 3) := by decide +kernel
theorem dX6_goBack_38 : decode cX6_goBack 38 = .ok (.aload_n 0, 1) := by decide +kernel
theorem dX6_goBack_39 : decode cX6_goBack 39 = .ok (.aload_n 0, 1) := by decide +kernel
theorem dX6_goBack_40 : decode cX6_goBack 40 = .ok (.getfield 52, 3) := by decide +kernel
theorem dX6_goBack_43 : decode cX6_goBack 43 = .ok (.iload_n 1, 1) := by decide +kernel
theorem dX6_goBack_44 : decode cX6_goBack 44 = .ok (.iaload, 1) := by decide +kernel
theorem dX6_goBack_45 : decode cX6_goBack 45 = .ok (.putfield 268, 3) := by decide +kernel
theorem dX6_goBack_48 : decode cX6_goBack 48 = .ok (.aload_n 0, 1) := by decide +kernel
theorem dX6_goBack_49 : decode cX6_goBack 49 = .ok (.getfield 39, 3) := by decide +kernel
theorem dX6_goBack_52 : decode cX6_goBack 52 = .ok (.invokevirtual 96, 3) := by decide +kernel
theorem dX6_goBack_55 : decode cX6_goBack 55 = .ok (.iconst 1, 1) := by decide +kernel
theorem dX6_goBack_56 : decode cX6_goBack 56 = .ok (.ireturn, 1) := by decide +kernel
theorem dX6_refusalOfYears_0 : decode cX6_refusalOfYears 0 = .ok (.iload_n 1, 1) := by decide +kernel
theorem dX6_refusalOfYears_1 : decode cX6_refusalOfYears 1 = .ok (.iconst 1, 1) := by decide +kernel
theorem dX6_refusalOfYears_2 : decode cX6_refusalOfYears 2 = .ok (.if_icmp .lt 9, 3) := by decide +kernel
theorem dX6_refusalOfYears_5 : decode cX6_refusalOfYears 5 = .ok (.iload_n 1, 1) := by decide +kernel
theorem dX6_refusalOfYears_6 : decode cX6_refusalOfYears 6 = .ok (.bipush 99, 2) := by decide +kernel
theorem dX6_refusalOfYears_8 : decode cX6_refusalOfYears 8 = .ok (.if_icmp .le 6, 3) := by decide +kernel
theorem dX6_refusalOfYears_11 : decode cX6_refusalOfYears 11 = .ok (.ldc 75, 2) := by decide +kernel
theorem dX6_refusalOfYears_13 : decode cX6_refusalOfYears 13 = .ok (.ireturn, 1) := by decide +kernel
theorem dX6_refusalOfYears_14 : decode cX6_refusalOfYears 14 = .ok (.aload_n 0, 1) := by decide +kernel
theorem dX6_refusalOfYears_15 : decode cX6_refusalOfYears 15 = .ok (.getfield 19, 3) := by decide +kernel
theorem dX6_refusalOfYears_18 : decode cX6_refusalOfYears 18 = .ok (.getfield 111, 3) := by decide +kernel
theorem dX6_refusalOfYears_21 : decode cX6_refusalOfYears 21 = .ok (.ifCond .ne 6, 3) := by decide +kernel
theorem dX6_refusalOfYears_24 : decode cX6_refusalOfYears 24 = .ok (.ldc 185, 2) := by decide +kernel
theorem dX6_refusalOfYears_26 : decode cX6_refusalOfYears 26 = .ok (.ireturn, 1) := by decide +kernel
theorem dX6_refusalOfYears_27 : decode cX6_refusalOfYears 27 = .ok (.aload_n 0, 1) := by decide +kernel
theorem dX6_refusalOfYears_28 : decode cX6_refusalOfYears 28 = .ok (.getfield 29, 3) := by decide +kernel
theorem dX6_refusalOfYears_31 : decode cX6_refusalOfYears 31 = .ok (.getfield 120, 3) := by decide +kernel
theorem dX6_refusalOfYears_34 : decode cX6_refusalOfYears 34 = .ok (.sipush 9000, 3) := by decide +kernel
theorem dX6_refusalOfYears_37 : decode cX6_refusalOfYears 37 = .ok (.if_icmp .le 8, 3) := by decide +kernel
theorem dX6_refusalOfYears_40 : decode cX6_refusalOfYears 40 = .ok (.ldc 84, 2) := by decide +kernel
theorem dX6_refusalOfYears_42 : decode cX6_refusalOfYears 42 = .ok (.goto 4, 3) := by decide +kernel
theorem dX6_refusalOfYears_45 : decode cX6_refusalOfYears 45 = .ok (.iconst 0, 1) := by decide +kernel
theorem dX6_refusalOfYears_46 : decode cX6_refusalOfYears 46 = .ok (.ireturn, 1) := by decide +kernel
theorem dX6_drawRain_0 : decode cX6_drawRain 0 = .ok (.aload_n 0, 1) := by decide +kernel
theorem dX6_drawRain_1 : decode cX6_drawRain 1 = .ok (.aload_n 0, 1) := by decide +kernel
theorem dX6_drawRain_2 : decode cX6_drawRain 2 = .ok (.getfield 268, 3) := by decide +kernel
theorem dX6_drawRain_5 : decode cX6_drawRain 5 = .ok (.ldc_w 278, 3) := by decide +kernel
theorem dX6_drawRain_8 : decode cX6_drawRain 8 = .ok (.imul, 1) := by decide +kernel
theorem dX6_drawRain_9 : decode cX6_drawRain 9 = .ok (.sipush 12345, 3) := by decide +kernel
theorem dX6_drawRain_12 : decode cX6_drawRain 12 = .ok (.iadd, 1) := by decide +kernel
theorem dX6_drawRain_13 : decode cX6_drawRain 13 = .ok (.ldc_w 279, 3) := by decide +kernel
theorem dX6_drawRain_16 : decode cX6_drawRain 16 = .ok (.iand, 1) := by decide +kernel
theorem dX6_drawRain_17 : decode cX6_drawRain 17 = .ok (.putfield 268, 3) := by decide +kernel
theorem dX6_drawRain_20 : decode cX6_drawRain 20 = .ok (.aload_n 0, 1) := by decide +kernel
theorem dX6_drawRain_21 : decode cX6_drawRain 21 = .ok (.getfield 268, 3) := by decide +kernel
theorem dX6_drawRain_24 : decode cX6_drawRain 24 = .ok (.ldc_w 280, 3) := by decide +kernel
theorem dX6_drawRain_27 : decode cX6_drawRain 27 = .ok (.idiv, 1) := by decide +kernel
theorem dX6_drawRain_28 : decode cX6_drawRain 28 = .ok (.bipush 10, 2) := by decide +kernel
theorem dX6_drawRain_30 : decode cX6_drawRain 30 = .ok (.irem, 1) := by decide +kernel
theorem dX6_drawRain_31 : decode cX6_drawRain 31 = .ok (.ireturn, 1) := by decide +kernel
theorem dX6_forgetEntries_0 : decode cX6_forgetEntries 0 = .ok (.aload_n 0, 1) := by decide +kernel
theorem dX6_forgetEntries_1 : decode cX6_forgetEntries 1 = .ok (.getfield 59, 3) := by decide +kernel
theorem dX6_forgetEntries_4 : decode cX6_forgetEntries 4 = .ok (.iconst 0, 1) := by decide +kernel
theorem dX6_forgetEntries_5 : decode cX6_forgetEntries 5 = .ok (.putfield 147, 3) := by decide +kernel
theorem dX6_forgetEntries_8 : decode cX6_forgetEntries 8 = .ok (.aload_n 0, 1) := by decide +kernel
theorem dX6_forgetEntries_9 : decode cX6_forgetEntries 9 = .ok (.getfield 63, 3) := by decide +kernel
theorem dX6_forgetEntries_12 : decode cX6_forgetEntries 12 = .ok (.iconst 0, 1) := by decide +kernel
theorem dX6_forgetEntries_13 : decode cX6_forgetEntries 13 = .ok (.putfield 147, 3) := by decide +kernel
theorem dX6_forgetEntries_16 : decode cX6_forgetEntries 16 = .ok (.aload_n 0, 1) := by decide +kernel
theorem dX6_forgetEntries_17 : decode cX6_forgetEntries 17 = .ok (.getfield 66, 3) := by decide +kernel
theorem dX6_forgetEntries_20 : decode cX6_forgetEntries 20 = .ok (.iconst 0, 1) := by decide +kernel
theorem dX6_forgetEntries_21 : decode cX6_forgetEntries 21 = .ok (.putfield 147, 3) := by decide +kernel
theorem dX6_forgetEntries_24 : decode cX6_forgetEntries 24 = .ok (.return_, 1) := by decide +kernel
theorem dX6_canCarry_0 : decode cX6_canCarry 0 = .ok (.aload_n 0, 1) := by decide +kernel
theorem dX6_canCarry_1 : decode cX6_canCarry 1 = .ok (.getfield 29, 3) := by decide +kernel
theorem dX6_canCarry_4 : decode cX6_canCarry 4 = .ok (.getfield 130, 3) := by decide +kernel
theorem dX6_canCarry_7 : decode cX6_canCarry 7 = .ok (.iload_n 1, 1) := by decide +kernel
theorem dX6_canCarry_8 : decode cX6_canCarry 8 = .ok (.iaload, 1) := by decide +kernel
theorem dX6_canCarry_9 : decode cX6_canCarry 9 = .ok (.iload_n 3, 1) := by decide +kernel
theorem dX6_canCarry_10 : decode cX6_canCarry 10 = .ok (.if_icmp .lt 30, 3) := by decide +kernel
theorem dX6_canCarry_13 : decode cX6_canCarry 13 = .ok (.aload_n 0, 1) := by decide +kernel
theorem dX6_canCarry_14 : decode cX6_canCarry 14 = .ok (.getfield 29, 3) := by decide +kernel
theorem dX6_canCarry_17 : decode cX6_canCarry 17 = .ok (.getfield 130, 3) := by decide +kernel
theorem dX6_canCarry_20 : decode cX6_canCarry 20 = .ok (.iload_n 2, 1) := by decide +kernel
theorem dX6_canCarry_21 : decode cX6_canCarry 21 = .ok (.iaload, 1) := by decide +kernel
theorem dX6_canCarry_22 : decode cX6_canCarry 22 = .ok (.iload_n 3, 1) := by decide +kernel
theorem dX6_canCarry_23 : decode cX6_canCarry 23 = .ok (.iadd, 1) := by decide +kernel
theorem dX6_canCarry_24 : decode cX6_canCarry 24 = .ok (.aload_n 0, 1) := by decide +kernel
theorem dX6_canCarry_25 : decode cX6_canCarry 25 = .ok (.getfield 19, 3) := by decide +kernel
theorem dX6_canCarry_28 : decode cX6_canCarry 28 = .ok (.getfield 158, 3) := by decide +kernel
theorem dX6_canCarry_31 : decode cX6_canCarry 31 = .ok (.iload_n 2, 1) := by decide +kernel
theorem dX6_canCarry_32 : decode cX6_canCarry 32 = .ok (.iaload, 1) := by decide +kernel
theorem dX6_canCarry_33 : decode cX6_canCarry 33 = .ok (.if_icmp .gt 7, 3) := by decide +kernel
theorem dX6_canCarry_36 : decode cX6_canCarry 36 = .ok (.iconst 1, 1) := by decide +kernel
theorem dX6_canCarry_37 : decode cX6_canCarry 37 = .ok (.goto 4, 3) := by decide +kernel
theorem dX6_canCarry_40 : decode cX6_canCarry 40 = .ok (.iconst 0, 1) := by decide +kernel
theorem dX6_canCarry_41 : decode cX6_canCarry 41 = .ok (.ireturn, 1) := by decide +kernel
theorem dX6_sumOver_0 : decode cX6_sumOver 0 = .ok (.iconst 0, 1) := by decide +kernel
theorem dX6_sumOver_1 : decode cX6_sumOver 1 = .ok (.istore_n 2, 1) := by decide +kernel
theorem dX6_sumOver_2 : decode cX6_sumOver 2 = .ok (.iconst 0, 1) := by decide +kernel
theorem dX6_sumOver_3 : decode cX6_sumOver 3 = .ok (.istore_n 3, 1) := by decide +kernel
theorem dX6_sumOver_4 : decode cX6_sumOver 4 = .ok (.iload_n 3, 1) := by decide +kernel
theorem dX6_sumOver_5 : decode cX6_sumOver 5 = .ok (.aload_n 0, 1) := by decide +kernel
theorem dX6_sumOver_6 : decode cX6_sumOver 6 = .ok (.arraylength, 1) := by decide +kernel
theorem dX6_sumOver_7 : decode cX6_sumOver 7 = .ok (.if_icmp .ge 23, 3) := by decide +kernel
theorem dX6_sumOver_10 : decode cX6_sumOver 10 = .ok (.iload_n 1, 1) := by decide +kernel
theorem dX6_sumOver_11 : decode cX6_sumOver 11 = .ok (.iload_n 3, 1) := by decide +kernel
theorem dX6_sumOver_12 : decode cX6_sumOver 12 = .ok (.ishr, 1) := by decide +kernel
theorem dX6_sumOver_13 : decode cX6_sumOver 13 = .ok (.iconst 1, 1) := by decide +kernel
theorem dX6_sumOver_14 : decode cX6_sumOver 14 = .ok (.iand, 1) := by decide +kernel
theorem dX6_sumOver_15 : decode cX6_sumOver 15 = .ok (.ifCond .eq 9, 3) := by decide +kernel
theorem dX6_sumOver_18 : decode cX6_sumOver 18 = .ok (.iload_n 2, 1) := by decide +kernel
theorem dX6_sumOver_19 : decode cX6_sumOver 19 = .ok (.aload_n 0, 1) := by decide +kernel
theorem dX6_sumOver_20 : decode cX6_sumOver 20 = .ok (.iload_n 3, 1) := by decide +kernel
theorem dX6_sumOver_21 : decode cX6_sumOver 21 = .ok (.iaload, 1) := by decide +kernel
theorem dX6_sumOver_22 : decode cX6_sumOver 22 = .ok (.iadd, 1) := by decide +kernel
theorem dX6_sumOver_23 : decode cX6_sumOver 23 = .ok (.istore_n 2, 1) := by decide +kernel
theorem dX6_sumOver_24 : decode cX6_sumOver 24 = .ok (.iinc 3 1, 3) := by decide +kernel
theorem dX6_sumOver_27 : decode cX6_sumOver 27 = .ok (.goto (-23), 3) := by decide +kernel
theorem dX6_sumOver_30 : decode cX6_sumOver 30 = .ok (.iload_n 2, 1) := by decide +kernel
theorem dX6_sumOver_31 : decode cX6_sumOver 31 = .ok (.ireturn, 1) := by decide +kernel
theorem dX6_soulsOf_0 : decode cX6_soulsOf 0 = .ok (.aload_n 1, 1) := by decide +kernel
theorem dX6_soulsOf_1 : decode cX6_soulsOf 1 = .ok (.getfield 130, 3) := by decide +kernel
theorem dX6_soulsOf_4 : decode cX6_soulsOf 4 = .ok (.aload_n 0, 1) := by decide +kernel
theorem dX6_soulsOf_5 : decode cX6_soulsOf 5 = .ok (.getfield 19, 3) := by decide +kernel
theorem dX6_soulsOf_8 : decode cX6_soulsOf 8 = .ok (.iload_n 2, 1) := by decide +kernel
theorem dX6_soulsOf_9 : decode cX6_soulsOf 9 = .ok (.invokevirtual 220, 3) := by decide +kernel
theorem dX6_soulsOf_12 : decode cX6_soulsOf 12 = .ok (.invokestatic 137, 3) := by decide +kernel
theorem dX6_soulsOf_15 : decode cX6_soulsOf 15 = .ok (.ireturn, 1) := by decide +kernel
theorem dX6_votesOf_0 : decode cX6_votesOf 0 = .ok (.aload_n 0, 1) := by decide +kernel
theorem dX6_votesOf_1 : decode cX6_votesOf 1 = .ok (.getfield 29, 3) := by decide +kernel
theorem dX6_votesOf_4 : decode cX6_votesOf 4 = .ok (.getfield 144, 3) := by decide +kernel
theorem dX6_votesOf_7 : decode cX6_votesOf 7 = .ok (.aload_n 0, 1) := by decide +kernel
theorem dX6_votesOf_8 : decode cX6_votesOf 8 = .ok (.getfield 19, 3) := by decide +kernel
theorem dX6_votesOf_11 : decode cX6_votesOf 11 = .ok (.iload_n 1, 1) := by decide +kernel
theorem dX6_votesOf_12 : decode cX6_votesOf 12 = .ok (.invokevirtual 220, 3) := by decide +kernel
theorem dX6_votesOf_15 : decode cX6_votesOf 15 = .ok (.invokestatic 137, 3) := by decide +kernel
theorem dX6_votesOf_18 : decode cX6_votesOf 18 = .ok (.ireturn, 1) := by decide +kernel
theorem dX6_passTrialYear_0 : decode cX6_passTrialYear 0 = .ok (.aload_n 0, 1) := by decide +kernel
theorem dX6_passTrialYear_1 : decode cX6_passTrialYear 1 = .ok (.getfield 33, 3) := by decide +kernel
theorem dX6_passTrialYear_4 : decode cX6_passTrialYear 4 = .ok (.aload_n 0, 1) := by decide +kernel
theorem dX6_passTrialYear_5 : decode cX6_passTrialYear 5 = .ok (.getfield 19, 3) := by decide +kernel
theorem dX6_passTrialYear_8 : decode cX6_passTrialYear 8 = .ok (.aload_n 0, 1) := by decide +kernel
theorem dX6_passTrialYear_9 : decode cX6_passTrialYear 9 = .ok (.getfield 19, 3) := by decide +kernel
theorem dX6_passTrialYear_12 : decode cX6_passTrialYear 12 = .ok (.aload_n 0, 1) := by decide +kernel
theorem dX6_passTrialYear_13 : decode cX6_passTrialYear 13 = .ok (.getfield 33, 3) := by decide +kernel
theorem dX6_passTrialYear_16 : decode cX6_passTrialYear 16 = .ok (.getfield 120, 3) := by decide +kernel
theorem dX6_passTrialYear_19 : decode cX6_passTrialYear 19 = .ok (.invokevirtual 123, 3) := by decide +kernel
theorem dX6_passTrialYear_22 : decode cX6_passTrialYear 22 = .ok (.invokevirtual 177, 3) := by decide +kernel
theorem dX6_passTrialYear_25 : decode cX6_passTrialYear 25 = .ok (.return_, 1) := by decide +kernel
theorem dX6_trialSeats_0 : decode cX6_trialSeats 0 = .ok (.aload_n 0, 1) := by decide +kernel
theorem dX6_trialSeats_1 : decode cX6_trialSeats 1 = .ok (.getfield 19, 3) := by decide +kernel
theorem dX6_trialSeats_4 : decode cX6_trialSeats 4 = .ok (.aload_n 0, 1) := by decide +kernel
theorem dX6_trialSeats_5 : decode cX6_trialSeats 5 = .ok (.aload_n 0, 1) := by decide +kernel
theorem dX6_trialSeats_6 : decode cX6_trialSeats 6 = .ok (.getfield 33, 3) := by decide +kernel
theorem dX6_trialSeats_9 : decode cX6_trialSeats 9 = .ok (.iload_n 1, 1) := by decide +kernel
theorem dX6_trialSeats_10 : decode cX6_trialSeats 10 = .ok (.invokevirtual 210, 3) := by decide +kernel
theorem dX6_trialSeats_13 : decode cX6_trialSeats 13 = .ok (.invokevirtual 214, 3) := by decide +kernel
theorem dX6_trialSeats_16 : decode cX6_trialSeats 16 = .ok (.ireturn, 1) := by decide +kernel
theorem dX6_leavingServes_0 : decode cX6_leavingServes 0 = .ok (.aload_n 0, 1) := by decide +kernel
theorem dX6_leavingServes_1 : decode cX6_leavingServes 1 = .ok (.getfield 19, 3) := by decide +kernel
theorem dX6_leavingServes_4 : decode cX6_leavingServes 4 = .ok (.iload_n 1, 1) := by decide +kernel
theorem dX6_leavingServes_5 : decode cX6_leavingServes 5 = .ok (.invokevirtual 220, 3) := by decide +kernel
theorem dX6_leavingServes_8 : decode cX6_leavingServes 8 = .ok (.istore 5, 2) := by decide +kernel
theorem dX6_leavingServes_10 : decode cX6_leavingServes 10 = .ok (.aload_n 0, 1) := by decide +kernel
theorem dX6_leavingServes_11 : decode cX6_leavingServes 11 = .ok (.getfield 33, 3) := by decide +kernel
theorem dX6_leavingServes_14 : decode cX6_leavingServes 14 = .ok (.aload_n 0, 1) := by decide +kernel
theorem dX6_leavingServes_15 : decode cX6_leavingServes 15 = .ok (.getfield 29, 3) := by decide +kernel
theorem dX6_leavingServes_18 : decode cX6_leavingServes 18 = .ok (.invokevirtual 204, 3) := by decide +kernel
theorem dX6_leavingServes_21 : decode cX6_leavingServes 21 = .ok (.aload_n 0, 1) := by decide +kernel
theorem dX6_leavingServes_22 : decode cX6_leavingServes 22 = .ok (.getfield 33, 3) := by decide +kernel
theorem dX6_leavingServes_25 : decode cX6_leavingServes 25 = .ok (.aload_n 0, 1) := by decide +kernel
theorem dX6_leavingServes_26 : decode cX6_leavingServes 26 = .ok (.getfield 33, 3) := by decide +kernel
theorem dX6_leavingServes_29 : decode cX6_leavingServes 29 = .ok (.getfield 127, 3) := by decide +kernel
theorem dX6_leavingServes_32 : decode cX6_leavingServes 32 = .ok (.iload 5, 2) := by decide +kernel
theorem dX6_leavingServes_34 : decode cX6_leavingServes 34 = .ok (.iconst (-1), 1) := by decide +kernel
theorem dX6_leavingServes_35 : decode cX6_leavingServes 35 = .ok (.ixor, 1) := by decide +kernel
theorem dX6_leavingServes_36 : decode cX6_leavingServes 36 = .ok (.iand, 1) := by decide +kernel
theorem dX6_leavingServes_37 : decode cX6_leavingServes 37 = .ok (.iload 5, 2) := by decide +kernel
theorem dX6_leavingServes_39 : decode cX6_leavingServes 39 = .ok (.iload_n 2, 1) := by decide +kernel
theorem dX6_leavingServes_40 : decode cX6_leavingServes 40 = .ok (.iconst (-1), 1) := by decide +kernel
theorem dX6_leavingServes_41 : decode cX6_leavingServes 41 = .ok (.ixor, 1) := by decide +kernel
theorem dX6_leavingServes_42 : decode cX6_leavingServes 42 = .ok (.iand, 1) := by decide +kernel
theorem dX6_leavingServes_43 : decode cX6_leavingServes 43 = .ok (.ior, 1) := by decide +kernel
theorem dX6_leavingServes_44 : decode cX6_leavingServes 44 = .ok (.putfield 127, 3) := by decide +kernel
theorem dX6_leavingServes_47 : decode cX6_leavingServes 47 = .ok (.aload_n 0, 1) := by decide +kernel
theorem dX6_leavingServes_48 : decode cX6_leavingServes 48 = .ok (.invokevirtual 207, 3) := by decide +kernel
theorem dX6_leavingServes_51 : decode cX6_leavingServes 51 = .ok (.aload_n 0, 1) := by decide +kernel
theorem dX6_leavingServes_52 : decode cX6_leavingServes 52 = .ok (.iload_n 1, 1) := by decide +kernel
theorem dX6_leavingServes_53 : decode cX6_leavingServes 53 = .ok (.invokevirtual 281, 3) := by decide +kernel
theorem dX6_leavingServes_56 : decode cX6_leavingServes 56 = .ok (.iload_n 3, 1) := by decide +kernel
theorem dX6_leavingServes_57 : decode cX6_leavingServes 57 = .ok (.if_icmp .lt 28, 3) := by decide +kernel
theorem dX6_leavingServes_60 : decode cX6_leavingServes 60 = .ok (.aload_n 0, 1) := by decide +kernel
theorem dX6_leavingServes_61 : decode cX6_leavingServes 61 = .ok (.getfield 19, 3) := by decide +kernel
theorem dX6_leavingServes_64 : decode cX6_leavingServes 64 = .ok (.aload_n 0, 1) := by decide +kernel
theorem dX6_leavingServes_65 : decode cX6_leavingServes 65 = .ok (.aload_n 0, 1) := by decide +kernel
theorem dX6_leavingServes_66 : decode cX6_leavingServes 66 = .ok (.getfield 33, 3) := by decide +kernel
theorem dX6_leavingServes_69 : decode cX6_leavingServes 69 = .ok (.iload_n 1, 1) := by decide +kernel
theorem dX6_leavingServes_70 : decode cX6_leavingServes 70 = .ok (.invokevirtual 210, 3) := by decide +kernel
theorem dX6_leavingServes_73 : decode cX6_leavingServes 73 = .ok (.invokevirtual 217, 3) := by decide +kernel
theorem dX6_leavingServes_76 : decode cX6_leavingServes 76 = .ok (.iload 4, 2) := by decide +kernel
theorem dX6_leavingServes_78 : decode cX6_leavingServes 78 = .ok (.if_icmp .gt 7, 3) := by decide +kernel
theorem dX6_leavingServes_81 : decode cX6_leavingServes 81 = .ok (.iconst 1, 1) := by decide +kernel
theorem dX6_leavingServes_82 : decode cX6_leavingServes 82 = .ok (.goto 4, 3) := by decide +kernel
theorem dX6_leavingServes_85 : decode cX6_leavingServes 85 = .ok (.iconst 0, 1) := by decide +kernel
theorem dX6_leavingServes_86 : decode cX6_leavingServes 86 = .ok (.ireturn, 1) := by decide +kernel
theorem dX6_playAllPairs_0 : decode cX6_playAllPairs 0 = .ok (.iconst 0, 1) := by decide +kernel
theorem dX6_playAllPairs_1 : decode cX6_playAllPairs 1 = .ok (.istore_n 3, 1) := by decide +kernel
theorem dX6_playAllPairs_2 : decode cX6_playAllPairs 2 = .ok (.iload_n 3, 1) := by decide +kernel
theorem dX6_playAllPairs_3 : decode cX6_playAllPairs 3 = .ok (.iconst 3, 1) := by decide +kernel
theorem dX6_playAllPairs_4 : decode cX6_playAllPairs 4 = .ok (.if_icmp .ge 87, 3) := by decide +kernel
theorem dX6_playAllPairs_7 : decode cX6_playAllPairs 7 = .ok (.iconst 0, 1) := by decide +kernel
theorem dX6_playAllPairs_8 : decode cX6_playAllPairs 8 = .ok (.istore 4, 2) := by decide +kernel
theorem dX6_playAllPairs_10 : decode cX6_playAllPairs 10 = .ok (.iload 4, 2) := by decide +kernel
theorem dX6_playAllPairs_12 : decode cX6_playAllPairs 12 = .ok (.iconst 3, 1) := by decide +kernel
theorem dX6_playAllPairs_13 : decode cX6_playAllPairs 13 = .ok (.if_icmp .ge 72, 3) := by decide +kernel
theorem dX6_playAllPairs_16 : decode cX6_playAllPairs 16 = .ok (.aload_n 0, 1) := by decide +kernel
theorem dX6_playAllPairs_17 : decode cX6_playAllPairs 17 = .ok (.getfield 33, 3) := by decide +kernel
theorem dX6_playAllPairs_20 : decode cX6_playAllPairs 20 = .ok (.aload_n 0, 1) := by decide +kernel
theorem dX6_playAllPairs_21 : decode cX6_playAllPairs 21 = .ok (.getfield 29, 3) := by decide +kernel
theorem dX6_playAllPairs_24 : decode cX6_playAllPairs 24 = .ok (.invokevirtual 204, 3) := by decide +kernel
theorem dX6_playAllPairs_27 : decode cX6_playAllPairs 27 = .ok (.aload_n 0, 1) := by decide +kernel
theorem dX6_playAllPairs_28 : decode cX6_playAllPairs 28 = .ok (.iload_n 1, 1) := by decide +kernel
theorem dX6_playAllPairs_29 : decode cX6_playAllPairs 29 = .ok (.iload_n 3, 1) := by decide +kernel
theorem dX6_playAllPairs_30 : decode cX6_playAllPairs 30 = .ok (.invokevirtual 284, 3) := by decide +kernel
theorem dX6_playAllPairs_33 : decode cX6_playAllPairs 33 = .ok (.aload_n 0, 1) := by decide +kernel
theorem dX6_playAllPairs_34 : decode cX6_playAllPairs 34 = .ok (.iload_n 2, 1) := by decide +kernel
theorem dX6_playAllPairs_35 : decode cX6_playAllPairs 35 = .ok (.iload 4, 2) := by decide +kernel
theorem dX6_playAllPairs_37 : decode cX6_playAllPairs 37 = .ok (.invokevirtual 284, 3) := by decide +kernel
theorem dX6_playAllPairs_40 : decode cX6_playAllPairs 40 = .ok (.aload_n 0, 1) := by decide +kernel
theorem dX6_playAllPairs_41 : decode cX6_playAllPairs 41 = .ok (.iload_n 2, 1) := by decide +kernel
theorem dX6_playAllPairs_42 : decode cX6_playAllPairs 42 = .ok (.iload_n 3, 1) := by decide +kernel
theorem dX6_playAllPairs_43 : decode cX6_playAllPairs 43 = .ok (.invokevirtual 287, 3) := by decide +kernel
theorem dX6_playAllPairs_46 : decode cX6_playAllPairs 46 = .ok (.aload_n 0, 1) := by decide +kernel
theorem dX6_playAllPairs_47 : decode cX6_playAllPairs 47 = .ok (.iload_n 1, 1) := by decide +kernel
theorem dX6_playAllPairs_48 : decode cX6_playAllPairs 48 = .ok (.iload 4, 2) := by decide +kernel
theorem dX6_playAllPairs_50 : decode cX6_playAllPairs 50 = .ok (.invokevirtual 287, 3) := by decide +kernel
theorem dX6_playAllPairs_53 : decode cX6_playAllPairs 53 = .ok (.aload_n 0, 1) := by decide +kernel
theorem dX6_playAllPairs_54 : decode cX6_playAllPairs 54 = .ok (.invokevirtual 207, 3) := by decide +kernel
theorem dX6_playAllPairs_57 : decode cX6_playAllPairs 57 = .ok (.aload_n 0, 1) := by decide +kernel
theorem dX6_playAllPairs_58 : decode cX6_playAllPairs 58 = .ok (.getfield 72, 3) := by decide +kernel
theorem dX6_playAllPairs_61 : decode cX6_playAllPairs 61 = .ok (.iload_n 3, 1) := by decide +kernel
theorem dX6_playAllPairs_62 : decode cX6_playAllPairs 62 = .ok (.iconst 3, 1) := by decide +kernel
theorem dX6_playAllPairs_63 : decode cX6_playAllPairs 63 = .ok (.imul, 1) := by decide +kernel
theorem dX6_playAllPairs_64 : decode cX6_playAllPairs 64 = .ok (.iload 4, 2) := by decide +kernel
theorem dX6_playAllPairs_66 : decode cX6_playAllPairs 66 = .ok (.iadd, 1) := by decide +kernel
theorem dX6_playAllPairs_67 : decode cX6_playAllPairs 67 = .ok (.aload_n 0, 1) := by decide +kernel
theorem dX6_playAllPairs_68 : decode cX6_playAllPairs 68 = .ok (.iload_n 1, 1) := by decide +kernel
theorem dX6_playAllPairs_69 : decode cX6_playAllPairs 69 = .ok (.invokevirtual 281, 3) := by decide +kernel
theorem dX6_playAllPairs_72 : decode cX6_playAllPairs 72 = .ok (.aload_n 0, 1) := by decide +kernel
theorem dX6_playAllPairs_73 : decode cX6_playAllPairs 73 = .ok (.iload_n 2, 1) := by decide +kernel
theorem dX6_playAllPairs_74 : decode cX6_playAllPairs 74 = .ok (.invokevirtual 281, 3) := by decide +kernel
theorem dX6_playAllPairs_77 : decode cX6_playAllPairs 77 = .ok (.isub, 1) := by decide +kernel
theorem dX6_playAllPairs_78 : decode cX6_playAllPairs 78 = .ok (.iastore, 1) := by decide +kernel
theorem dX6_playAllPairs_79 : decode cX6_playAllPairs 79 = .ok (.iinc 4 1, 3) := by decide +kernel
theorem dX6_playAllPairs_82 : decode cX6_playAllPairs 82 = .ok (.goto (-72), 3) := by decide +kernel
theorem dX6_playAllPairs_85 : decode cX6_playAllPairs 85 = .ok (.iinc 3 1, 3) := by decide +kernel
theorem dX6_playAllPairs_88 : decode cX6_playAllPairs 88 = .ok (.goto (-86), 3) := by decide +kernel
theorem dX6_playAllPairs_91 : decode cX6_playAllPairs 91 = .ok (.return_, 1) := by decide +kernel
theorem dX6_digPools_0 : decode cX6_digPools 0 = .ok (.iconst 0, 1) := by decide +kernel
theorem dX6_digPools_1 : decode cX6_digPools 1 = .ok (.istore_n 3, 1) := by decide +kernel
theorem dX6_digPools_2 : decode cX6_digPools 2 = .ok (.iload_n 3, 1) := by decide +kernel
theorem dX6_digPools_3 : decode cX6_digPools 3 = .ok (.aload_n 0, 1) := by decide +kernel
theorem dX6_digPools_4 : decode cX6_digPools 4 = .ok (.getfield 19, 3) := by decide +kernel
theorem dX6_digPools_7 : decode cX6_digPools 7 = .ok (.getfield 105, 3) := by decide +kernel
theorem dX6_digPools_10 : decode cX6_digPools 10 = .ok (.if_icmp .ge 36, 3) := by decide +kernel
theorem dX6_digPools_13 : decode cX6_digPools 13 = .ok (.iload_n 2, 1) := by decide +kernel
theorem dX6_digPools_14 : decode cX6_digPools 14 = .ok (.iconst 2, 1) := by decide +kernel
theorem dX6_digPools_15 : decode cX6_digPools 15 = .ok (.if_icmp .ne 25, 3) := by decide +kernel
theorem dX6_digPools_18 : decode cX6_digPools 18 = .ok (.aload_n 0, 1) := by decide +kernel
theorem dX6_digPools_19 : decode cX6_digPools 19 = .ok (.getfield 19, 3) := by decide +kernel
theorem dX6_digPools_22 : decode cX6_digPools 22 = .ok (.getfield 155, 3) := by decide +kernel
theorem dX6_digPools_25 : decode cX6_digPools 25 = .ok (.iload_n 3, 1) := by decide +kernel
theorem dX6_digPools_26 : decode cX6_digPools 26 = .ok (.iaload, 1) := by decide +kernel
theorem dX6_digPools_27 : decode cX6_digPools 27 = .ok (.iload_n 1, 1) := by decide +kernel
theorem dX6_digPools_28 : decode cX6_digPools 28 = .ok (.if_icmp .ne 12, 3) := by decide +kernel
theorem dX6_digPools_31 : decode cX6_digPools 31 = .ok (.aload_n 0, 1) := by decide +kernel
theorem dX6_digPools_32 : decode cX6_digPools 32 = .ok (.getfield 33, 3) := by decide +kernel
theorem dX6_digPools_35 : decode cX6_digPools 35 = .ok (.iload_n 3, 1) := by decide +kernel
theorem dX6_digPools_36 : decode cX6_digPools 36 = .ok (.iconst 2, 1) := by decide +kernel
theorem dX6_digPools_37 : decode cX6_digPools 37 = .ok (.invokevirtual 190, 3) := by decide +kernel
theorem dX6_digPools_40 : decode cX6_digPools 40 = .ok (.iinc 3 1, 3) := by decide +kernel
theorem dX6_digPools_43 : decode cX6_digPools 43 = .ok (.goto (-41), 3) := by decide +kernel
theorem dX6_digPools_46 : decode cX6_digPools 46 = .ok (.return_, 1) := by decide +kernel
theorem dX6_makeSmoke_0 : decode cX6_makeSmoke 0 = .ok (.iconst 0, 1) := by decide +kernel
theorem dX6_makeSmoke_1 : decode cX6_makeSmoke 1 = .ok (.istore_n 3, 1) := by decide +kernel
theorem dX6_makeSmoke_2 : decode cX6_makeSmoke 2 = .ok (.iload_n 3, 1) := by decide +kernel
theorem dX6_makeSmoke_3 : decode cX6_makeSmoke 3 = .ok (.aload_n 0, 1) := by decide +kernel
theorem dX6_makeSmoke_4 : decode cX6_makeSmoke 4 = .ok (.getfield 19, 3) := by decide +kernel
theorem dX6_makeSmoke_7 : decode cX6_makeSmoke 7 = .ok (.getfield 105, 3) := by decide +kernel
theorem dX6_makeSmoke_10 : decode cX6_makeSmoke 10 = .ok (.if_icmp .ge 40, 3) := by decide +kernel
theorem dX6_makeSmoke_13 : decode cX6_makeSmoke 13 = .ok (.iload_n 2, 1) := by decide +kernel
theorem dX6_makeSmoke_14 : decode cX6_makeSmoke 14 = .ok (.iconst 1, 1) := by decide +kernel
theorem dX6_makeSmoke_15 : decode cX6_makeSmoke 15 = .ok (.if_icmp .ne 29, 3) := by decide +kernel
theorem dX6_makeSmoke_18 : decode cX6_makeSmoke 18 = .ok (.aload_n 0, 1) := by decide +kernel
theorem dX6_makeSmoke_19 : decode cX6_makeSmoke 19 = .ok (.getfield 19, 3) := by decide +kernel
theorem dX6_makeSmoke_22 : decode cX6_makeSmoke 22 = .ok (.getfield 155, 3) := by decide +kernel
theorem dX6_makeSmoke_25 : decode cX6_makeSmoke 25 = .ok (.iload_n 3, 1) := by decide +kernel
theorem dX6_makeSmoke_26 : decode cX6_makeSmoke 26 = .ok (.iaload, 1) := by decide +kernel
theorem dX6_makeSmoke_27 : decode cX6_makeSmoke 27 = .ok (.iload_n 1, 1) := by decide +kernel
theorem dX6_makeSmoke_28 : decode cX6_makeSmoke 28 = .ok (.if_icmp .ne 16, 3) := by decide +kernel
theorem dX6_makeSmoke_31 : decode cX6_makeSmoke 31 = .ok (.aload_n 0, 1) := by decide +kernel
theorem dX6_makeSmoke_32 : decode cX6_makeSmoke 32 = .ok (.getfield 33, 3) := by decide +kernel
theorem dX6_makeSmoke_35 : decode cX6_makeSmoke 35 = .ok (.getfield 161, 3) := by decide +kernel
theorem dX6_makeSmoke_38 : decode cX6_makeSmoke 38 = .ok (.iload_n 3, 1) := by decide +kernel
theorem dX6_makeSmoke_39 : decode cX6_makeSmoke 39 = .ok (.dup2, 1) := by decide +kernel
theorem dX6_makeSmoke_40 : decode cX6_makeSmoke 40 = .ok (.iaload, 1) := by decide +kernel
theorem dX6_makeSmoke_41 : decode cX6_makeSmoke 41 = .ok (.iconst 2, 1) := by decide +kernel
theorem dX6_makeSmoke_42 : decode cX6_makeSmoke 42 = .ok (.iadd, 1) := by decide +kernel
theorem dX6_makeSmoke_43 : decode cX6_makeSmoke 43 = .ok (.iastore, 1) := by decide +kernel
theorem dX6_makeSmoke_44 : decode cX6_makeSmoke 44 = .ok (.iinc 3 1, 3) := by decide +kernel
theorem dX6_makeSmoke_47 : decode cX6_makeSmoke 47 = .ok (.goto (-45), 3) := by decide +kernel
theorem dX6_makeSmoke_50 : decode cX6_makeSmoke 50 = .ok (.return_, 1) := by decide +kernel
theorem dX6_nobodyWouldLeave_0 : decode cX6_nobodyWouldLeave 0 = .ok (.iconst 0, 1) := by decide +kernel
theorem dX6_nobodyWouldLeave_1 : decode cX6_nobodyWouldLeave 1 = .ok (.istore_n 3, 1) := by decide +kernel
theorem dX6_nobodyWouldLeave_2 : decode cX6_nobodyWouldLeave 2 = .ok (.iload_n 3, 1) := by decide +kernel
theorem dX6_nobodyWouldLeave_3 : decode cX6_nobodyWouldLeave 3 = .ok (.iconst 3, 1) := by decide +kernel
theorem dX6_nobodyWouldLeave_4 : decode cX6_nobodyWouldLeave 4 = .ok (.if_icmp .ge 65, 3) := by decide +kernel
theorem dX6_nobodyWouldLeave_7 : decode cX6_nobodyWouldLeave 7 = .ok (.aload_n 0, 1) := by decide +kernel
theorem dX6_nobodyWouldLeave_8 : decode cX6_nobodyWouldLeave 8 = .ok (.iload_n 3, 1) := by decide +kernel
theorem dX6_nobodyWouldLeave_9 : decode cX6_nobodyWouldLeave 9 = .ok (.iload_n 2, 1) := by decide +kernel
theorem dX6_nobodyWouldLeave_10 : decode cX6_nobodyWouldLeave 10 = .ok (.invokevirtual 290, 3) := by decide +kernel
theorem dX6_nobodyWouldLeave_13 : decode cX6_nobodyWouldLeave 13 = .ok (.aload_n 0, 1) := by decide +kernel
theorem dX6_nobodyWouldLeave_14 : decode cX6_nobodyWouldLeave 14 = .ok (.iload_n 1, 1) := by decide +kernel
theorem dX6_nobodyWouldLeave_15 : decode cX6_nobodyWouldLeave 15 = .ok (.iload_n 2, 1) := by decide +kernel
theorem dX6_nobodyWouldLeave_16 : decode cX6_nobodyWouldLeave 16 = .ok (.invokevirtual 290, 3) := by decide +kernel
theorem dX6_nobodyWouldLeave_19 : decode cX6_nobodyWouldLeave 19 = .ok (.if_icmp .le 7, 3) := by decide +kernel
theorem dX6_nobodyWouldLeave_22 : decode cX6_nobodyWouldLeave 22 = .ok (.iconst 1, 1) := by decide +kernel
theorem dX6_nobodyWouldLeave_23 : decode cX6_nobodyWouldLeave 23 = .ok (.goto 4, 3) := by decide +kernel
theorem dX6_nobodyWouldLeave_26 : decode cX6_nobodyWouldLeave 26 = .ok (.iconst 0, 1) := by decide +kernel
theorem dX6_nobodyWouldLeave_27 : decode cX6_nobodyWouldLeave 27 = .ok (.istore 4, 2) := by decide +kernel
theorem dX6_nobodyWouldLeave_29 : decode cX6_nobodyWouldLeave 29 = .ok (.aload_n 0, 1) := by decide +kernel
theorem dX6_nobodyWouldLeave_30 : decode cX6_nobodyWouldLeave 30 = .ok (.iload_n 1, 1) := by decide +kernel
theorem dX6_nobodyWouldLeave_31 : decode cX6_nobodyWouldLeave 31 = .ok (.iload_n 3, 1) := by decide +kernel
theorem dX6_nobodyWouldLeave_32 : decode cX6_nobodyWouldLeave 32 = .ok (.invokevirtual 293, 3) := by decide +kernel
theorem dX6_nobodyWouldLeave_35 : decode cX6_nobodyWouldLeave 35 = .ok (.aload_n 0, 1) := by decide +kernel
theorem dX6_nobodyWouldLeave_36 : decode cX6_nobodyWouldLeave 36 = .ok (.iload_n 1, 1) := by decide +kernel
theorem dX6_nobodyWouldLeave_37 : decode cX6_nobodyWouldLeave 37 = .ok (.iload_n 2, 1) := by decide +kernel
theorem dX6_nobodyWouldLeave_38 : decode cX6_nobodyWouldLeave 38 = .ok (.invokevirtual 293, 3) := by decide +kernel
theorem dX6_nobodyWouldLeave_41 : decode cX6_nobodyWouldLeave 41 = .ok (.if_icmp .le 7, 3) := by decide +kernel
theorem dX6_nobodyWouldLeave_44 : decode cX6_nobodyWouldLeave 44 = .ok (.iconst 1, 1) := by decide +kernel
theorem dX6_nobodyWouldLeave_45 : decode cX6_nobodyWouldLeave 45 = .ok (.goto 4, 3) := by decide +kernel
theorem dX6_nobodyWouldLeave_48 : decode cX6_nobodyWouldLeave 48 = .ok (.iconst 0, 1) := by decide +kernel
theorem dX6_nobodyWouldLeave_49 : decode cX6_nobodyWouldLeave 49 = .ok (.istore 5, 2) := by decide +kernel
theorem dX6_nobodyWouldLeave_51 : decode cX6_nobodyWouldLeave 51 = .ok (.iload 4, 2) := by decide +kernel
theorem dX6_nobodyWouldLeave_53 : decode cX6_nobodyWouldLeave 53 = .ok (.ifCond .ne 8, 3) := by decide +kernel
theorem dX6_nobodyWouldLeave_56 : decode cX6_nobodyWouldLeave 56 = .ok (.iload 5, 2) := by decide +kernel
theorem dX6_nobodyWouldLeave_58 : decode cX6_nobodyWouldLeave 58 = .ok (.ifCond .eq 5, 3) := by decide +kernel
theorem dX6_nobodyWouldLeave_61 : decode cX6_nobodyWouldLeave 61 = .ok (.iconst 0, 1) := by decide +kernel
theorem dX6_nobodyWouldLeave_62 : decode cX6_nobodyWouldLeave 62 = .ok (.ireturn, 1) := by decide +kernel
theorem dX6_nobodyWouldLeave_63 : decode cX6_nobodyWouldLeave 63 = .ok (.iinc 3 1, 3) := by decide +kernel
theorem dX6_nobodyWouldLeave_66 : decode cX6_nobodyWouldLeave 66 = .ok (.goto (-64), 3) := by decide +kernel
theorem dX6_nobodyWouldLeave_69 : decode cX6_nobodyWouldLeave 69 = .ok (.iconst 1, 1) := by decide +kernel
theorem dX6_nobodyWouldLeave_70 : decode cX6_nobodyWouldLeave 70 = .ok (.ireturn, 1) := by decide +kernel
theorem dX6_gainOfFirst_0 : decode cX6_gainOfFirst 0 = .ok (.aload_n 0, 1) := by decide +kernel
theorem dX6_gainOfFirst_1 : decode cX6_gainOfFirst 1 = .ok (.getfield 72, 3) := by decide +kernel
theorem dX6_gainOfFirst_4 : decode cX6_gainOfFirst 4 = .ok (.iload_n 1, 1) := by decide +kernel
theorem dX6_gainOfFirst_5 : decode cX6_gainOfFirst 5 = .ok (.iconst 3, 1) := by decide +kernel
theorem dX6_gainOfFirst_6 : decode cX6_gainOfFirst 6 = .ok (.imul, 1) := by decide +kernel
theorem dX6_gainOfFirst_7 : decode cX6_gainOfFirst 7 = .ok (.iload_n 2, 1) := by decide +kernel
theorem dX6_gainOfFirst_8 : decode cX6_gainOfFirst 8 = .ok (.iadd, 1) := by decide +kernel
theorem dX6_gainOfFirst_9 : decode cX6_gainOfFirst 9 = .ok (.iaload, 1) := by decide +kernel
theorem dX6_gainOfFirst_10 : decode cX6_gainOfFirst 10 = .ok (.iload_n 1, 1) := by decide +kernel
theorem dX6_gainOfFirst_11 : decode cX6_gainOfFirst 11 = .ok (.ifCond .ne 7, 3) := by decide +kernel
theorem dX6_gainOfFirst_14 : decode cX6_gainOfFirst 14 = .ok (.iconst 0, 1) := by decide +kernel
theorem dX6_gainOfFirst_15 : decode cX6_gainOfFirst 15 = .ok (.goto 4, 3) := by decide +kernel
theorem dX6_gainOfFirst_18 : decode cX6_gainOfFirst 18 = .ok (.iconst 1, 1) := by decide +kernel
theorem dX6_gainOfFirst_19 : decode cX6_gainOfFirst 19 = .ok (.isub, 1) := by decide +kernel
theorem dX6_gainOfFirst_20 : decode cX6_gainOfFirst 20 = .ok (.ireturn, 1) := by decide +kernel
theorem dX6_gainOfOther_0 : decode cX6_gainOfOther 0 = .ok (.aload_n 0, 1) := by decide +kernel
theorem dX6_gainOfOther_1 : decode cX6_gainOfOther 1 = .ok (.getfield 72, 3) := by decide +kernel
theorem dX6_gainOfOther_4 : decode cX6_gainOfOther 4 = .ok (.iload_n 1, 1) := by decide +kernel
theorem dX6_gainOfOther_5 : decode cX6_gainOfOther 5 = .ok (.iconst 3, 1) := by decide +kernel
theorem dX6_gainOfOther_6 : decode cX6_gainOfOther 6 = .ok (.imul, 1) := by decide +kernel
theorem dX6_gainOfOther_7 : decode cX6_gainOfOther 7 = .ok (.iload_n 2, 1) := by decide +kernel
theorem dX6_gainOfOther_8 : decode cX6_gainOfOther 8 = .ok (.iadd, 1) := by decide +kernel
theorem dX6_gainOfOther_9 : decode cX6_gainOfOther 9 = .ok (.iaload, 1) := by decide +kernel
theorem dX6_gainOfOther_10 : decode cX6_gainOfOther 10 = .ok (.ineg, 1) := by decide +kernel
theorem dX6_gainOfOther_11 : decode cX6_gainOfOther 11 = .ok (.iload_n 2, 1) := by decide +kernel
theorem dX6_gainOfOther_12 : decode cX6_gainOfOther 12 = .ok (.ifCond .ne 7, 3) := by decide +kernel
theorem dX6_gainOfOther_15 : decode cX6_gainOfOther 15 = .ok (.iconst 0, 1) := by decide +kernel
theorem dX6_gainOfOther_16 : decode cX6_gainOfOther 16 = .ok (.goto 4, 3) := by decide +kernel
theorem dX6_gainOfOther_19 : decode cX6_gainOfOther 19 = .ok (.iconst 1, 1) := by decide +kernel
theorem dX6_gainOfOther_20 : decode cX6_gainOfOther 20 = .ok (.isub, 1) := by decide +kernel
theorem dX6_gainOfOther_21 : decode cX6_gainOfOther 21 = .ok (.ireturn, 1) := by decide +kernel
theorem dX6_findLeastMud_0 : decode cX6_findLeastMud 0 = .ok (.aload_n 0, 1) := by decide +kernel
theorem dX6_findLeastMud_1 : decode cX6_findLeastMud 1 = .ok (.getfield 69, 3) := by decide +kernel
theorem dX6_findLeastMud_4 : decode cX6_findLeastMud 4 = .ok (.iconst 0, 1) := by decide +kernel
theorem dX6_findLeastMud_5 : decode cX6_findLeastMud 5 = .ok (.invokestatic 296, 3) := by decide +kernel
theorem dX6_findLeastMud_8 : decode cX6_findLeastMud 8 = .ok (.aload_n 0, 1) := by decide +kernel
theorem dX6_findLeastMud_9 : decode cX6_findLeastMud 9 = .ok (.iload_n 1, 1) := by decide +kernel
theorem dX6_findLeastMud_10 : decode cX6_findLeastMud 10 = .ok (.invokevirtual 302, 3) := by decide +kernel
theorem dX6_findLeastMud_13 : decode cX6_findLeastMud 13 = .ok (.iconst 1, 1) := by decide +kernel
theorem dX6_findLeastMud_14 : decode cX6_findLeastMud 14 = .ok (.iadd, 1) := by decide +kernel
theorem dX6_findLeastMud_15 : decode cX6_findLeastMud 15 = .ok (.istore_n 2, 1) := by decide +kernel
theorem dX6_findLeastMud_16 : decode cX6_findLeastMud 16 = .ok (.aload_n 0, 1) := by decide +kernel
theorem dX6_findLeastMud_17 : decode cX6_findLeastMud 17 = .ok (.getfield 69, 3) := by decide +kernel
theorem dX6_findLeastMud_20 : decode cX6_findLeastMud 20 = .ok (.iconst 5, 1) := by decide +kernel
theorem dX6_findLeastMud_21 : decode cX6_findLeastMud 21 = .ok (.invokestatic 296, 3) := by decide +kernel
theorem dX6_findLeastMud_24 : decode cX6_findLeastMud 24 = .ok (.aload_n 0, 1) := by decide +kernel
theorem dX6_findLeastMud_25 : decode cX6_findLeastMud 25 = .ok (.iload_n 1, 1) := by decide +kernel
theorem dX6_findLeastMud_26 : decode cX6_findLeastMud 26 = .ok (.invokevirtual 302, 3) := by decide +kernel
theorem dX6_findLeastMud_29 : decode cX6_findLeastMud 29 = .ok (.iload_n 2, 1) := by decide +kernel
theorem dX6_findLeastMud_30 : decode cX6_findLeastMud 30 = .ok (.if_icmp .ge 5, 3) := by decide +kernel
theorem dX6_findLeastMud_33 : decode cX6_findLeastMud 33 = .ok (.iconst (-1), 1) := by decide +kernel
theorem dX6_findLeastMud_34 : decode cX6_findLeastMud 34 = .ok (.ireturn, 1) := by decide +kernel
theorem dX6_findLeastMud_35 : decode cX6_findLeastMud 35 = .ok (.aload_n 0, 1) := by decide +kernel
theorem dX6_findLeastMud_36 : decode cX6_findLeastMud 36 = .ok (.getfield 69, 3) := by decide +kernel
theorem dX6_findLeastMud_39 : decode cX6_findLeastMud 39 = .ok (.iconst 0, 1) := by decide +kernel
theorem dX6_findLeastMud_40 : decode cX6_findLeastMud 40 = .ok (.invokestatic 296, 3) := by decide +kernel
theorem dX6_findLeastMud_43 : decode cX6_findLeastMud 43 = .ok (.iconst 1, 1) := by decide +kernel
theorem dX6_findLeastMud_44 : decode cX6_findLeastMud 44 = .ok (.istore_n 3, 1) := by decide +kernel
theorem dX6_findLeastMud_45 : decode cX6_findLeastMud 45 = .ok (.iload_n 3, 1) := by decide +kernel
theorem dX6_findLeastMud_46 : decode cX6_findLeastMud 46 = .ok (.iconst 5, 1) := by decide +kernel
theorem dX6_findLeastMud_47 : decode cX6_findLeastMud 47 = .ok (.if_icmp .gt 22, 3) := by decide +kernel
theorem dX6_findLeastMud_50 : decode cX6_findLeastMud 50 = .ok (.aload_n 0, 1) := by decide +kernel
theorem dX6_findLeastMud_51 : decode cX6_findLeastMud 51 = .ok (.iload_n 1, 1) := by decide +kernel
theorem dX6_findLeastMud_52 : decode cX6_findLeastMud 52 = .ok (.iconst 0, 1) := by decide +kernel
theorem dX6_findLeastMud_53 : decode cX6_findLeastMud 53 = .ok (.iload_n 3, 1) := by decide +kernel
theorem dX6_findLeastMud_54 : decode cX6_findLeastMud 54 = .ok (.iload_n 2, 1) := by decide +kernel
theorem dX6_findLeastMud_55 : decode cX6_findLeastMud 55 = .ok (.invokestatic 305, 3) := by decide +kernel
theorem dX6_findLeastMud_58 : decode cX6_findLeastMud 58 = .ok (.ifCond .eq 5, 3) := by decide +kernel
theorem dX6_findLeastMud_61 : decode cX6_findLeastMud 61 = .ok (.iload_n 3, 1) := by decide +kernel
theorem dX6_findLeastMud_62 : decode cX6_findLeastMud 62 = .ok (.ireturn, 1) := by decide +kernel
theorem dX6_findLeastMud_63 : decode cX6_findLeastMud 63 = .ok (.iinc 3 1, 3) := by decide +kernel
theorem dX6_findLeastMud_66 : decode cX6_findLeastMud 66 = .ok (.goto (-21), 3) := by decide +kernel
theorem dX6_findLeastMud_69 : decode cX6_findLeastMud 69 = .ok (.iconst (-1), 1) := by decide +kernel
theorem dX6_findLeastMud_70 : decode cX6_findLeastMud 70 = .ok (.ireturn, 1) := by decide +kernel
theorem dX6_sharesServe_0 : decode cX6_sharesServe 0 = .ok (.iload_n 3, 1) := by decide +kernel
theorem dX6_sharesServe_1 : decode cX6_sharesServe 1 = .ok (.ifCond .ne 19, 3) := by decide +kernel
theorem dX6_sharesServe_4 : decode cX6_sharesServe 4 = .ok (.aload_n 0, 1) := by decide +kernel
theorem dX6_sharesServe_5 : decode cX6_sharesServe 5 = .ok (.iload_n 1, 1) := by decide +kernel
theorem dX6_sharesServe_6 : decode cX6_sharesServe 6 = .ok (.invokevirtual 302, 3) := by decide +kernel
theorem dX6_sharesServe_9 : decode cX6_sharesServe 9 = .ok (.iload 4, 2) := by decide +kernel
theorem dX6_sharesServe_11 : decode cX6_sharesServe 11 = .ok (.if_icmp .lt 7, 3) := by decide +kernel
theorem dX6_sharesServe_14 : decode cX6_sharesServe 14 = .ok (.iconst 1, 1) := by decide +kernel
theorem dX6_sharesServe_15 : decode cX6_sharesServe 15 = .ok (.goto 4, 3) := by decide +kernel
theorem dX6_sharesServe_18 : decode cX6_sharesServe 18 = .ok (.iconst 0, 1) := by decide +kernel
theorem dX6_sharesServe_19 : decode cX6_sharesServe 19 = .ok (.ireturn, 1) := by decide +kernel
theorem dX6_sharesServe_20 : decode cX6_sharesServe 20 = .ok (.aload_n 0, 1) := by decide +kernel
theorem dX6_sharesServe_21 : decode cX6_sharesServe 21 = .ok (.getfield 19, 3) := by decide +kernel
theorem dX6_sharesServe_24 : decode cX6_sharesServe 24 = .ok (.iload_n 2, 1) := by decide +kernel
theorem dX6_sharesServe_25 : decode cX6_sharesServe 25 = .ok (.invokevirtual 151, 3) := by decide +kernel
theorem dX6_sharesServe_28 : decode cX6_sharesServe 28 = .ok (.ifCond .ne 5, 3) := by decide +kernel
theorem dX6_sharesServe_31 : decode cX6_sharesServe 31 = .ok (.iconst 0, 1) := by decide +kernel
theorem dX6_sharesServe_32 : decode cX6_sharesServe 32 = .ok (.ireturn, 1) := by decide +kernel
theorem dX6_sharesServe_33 : decode cX6_sharesServe 33 = .ok (.iload_n 3, 1) := by decide +kernel
theorem dX6_sharesServe_34 : decode cX6_sharesServe 34 = .ok (.aload_n 0, 1) := by decide +kernel
theorem dX6_sharesServe_35 : decode cX6_sharesServe 35 = .ok (.iload_n 1, 1) := by decide +kernel
theorem dX6_sharesServe_36 : decode cX6_sharesServe 36 = .ok (.iload_n 2, 1) := by decide +kernel
theorem dX6_sharesServe_37 : decode cX6_sharesServe 37 = .ok (.invokevirtual 309, 3) := by decide +kernel
theorem dX6_sharesServe_40 : decode cX6_sharesServe 40 = .ok (.invokestatic 312, 3) := by decide +kernel
theorem dX6_sharesServe_43 : decode cX6_sharesServe 43 = .ok (.istore 5, 2) := by decide +kernel
theorem dX6_sharesServe_45 : decode cX6_sharesServe 45 = .ok (.iconst 0, 1) := by decide +kernel
theorem dX6_sharesServe_46 : decode cX6_sharesServe 46 = .ok (.istore 6, 2) := by decide +kernel
theorem dX6_sharesServe_48 : decode cX6_sharesServe 48 = .ok (.iload 6, 2) := by decide +kernel
theorem dX6_sharesServe_50 : decode cX6_sharesServe 50 = .ok (.iload 5, 2) := by decide +kernel
theorem dX6_sharesServe_52 : decode cX6_sharesServe 52 = .ok (.if_icmp .gt 36, 3) := by decide +kernel
theorem dX6_sharesServe_55 : decode cX6_sharesServe 55 = .ok (.aload_n 0, 1) := by decide +kernel
theorem dX6_sharesServe_56 : decode cX6_sharesServe 56 = .ok (.getfield 69, 3) := by decide +kernel
theorem dX6_sharesServe_59 : decode cX6_sharesServe 59 = .ok (.iload_n 2, 1) := by decide +kernel
theorem dX6_sharesServe_60 : decode cX6_sharesServe 60 = .ok (.iload 6, 2) := by decide +kernel
theorem dX6_sharesServe_62 : decode cX6_sharesServe 62 = .ok (.iastore, 1) := by decide +kernel
theorem dX6_sharesServe_63 : decode cX6_sharesServe 63 = .ok (.aload_n 0, 1) := by decide +kernel
theorem dX6_sharesServe_64 : decode cX6_sharesServe 64 = .ok (.iload_n 1, 1) := by decide +kernel
theorem dX6_sharesServe_65 : decode cX6_sharesServe 65 = .ok (.iload_n 2, 1) := by decide +kernel
theorem dX6_sharesServe_66 : decode cX6_sharesServe 66 = .ok (.iconst 1, 1) := by decide +kernel
theorem dX6_sharesServe_67 : decode cX6_sharesServe 67 = .ok (.iadd, 1) := by decide +kernel
theorem dX6_sharesServe_68 : decode cX6_sharesServe 68 = .ok (.iload_n 3, 1) := by decide +kernel
theorem dX6_sharesServe_69 : decode cX6_sharesServe 69 = .ok (.iload 6, 2) := by decide +kernel
theorem dX6_sharesServe_71 : decode cX6_sharesServe 71 = .ok (.isub, 1) := by decide +kernel
theorem dX6_sharesServe_72 : decode cX6_sharesServe 72 = .ok (.iload 4, 2) := by decide +kernel
theorem dX6_sharesServe_74 : decode cX6_sharesServe 74 = .ok (.invokestatic 305, 3) := by decide +kernel
theorem dX6_sharesServe_77 : decode cX6_sharesServe 77 = .ok (.ifCond .eq 5, 3) := by decide +kernel
theorem dX6_sharesServe_80 : decode cX6_sharesServe 80 = .ok (.iconst 1, 1) := by decide +kernel
theorem dX6_sharesServe_81 : decode cX6_sharesServe 81 = .ok (.ireturn, 1) := by decide +kernel
theorem dX6_sharesServe_82 : decode cX6_sharesServe 82 = .ok (.iinc 6 1, 3) := by decide +kernel
theorem dX6_sharesServe_85 : decode cX6_sharesServe 85 = .ok (.goto (-37), 3) := by decide +kernel
theorem dX6_sharesServe_88 : decode cX6_sharesServe 88 = .ok (.aload_n 0, 1) := by decide +kernel
theorem dX6_sharesServe_89 : decode cX6_sharesServe 89 = .ok (.getfield 69, 3) := by decide +kernel
theorem dX6_sharesServe_92 : decode cX6_sharesServe 92 = .ok (.iload_n 2, 1) := by decide +kernel
theorem dX6_sharesServe_93 : decode cX6_sharesServe 93 = .ok (.iconst 0, 1) := by decide +kernel
theorem dX6_sharesServe_94 : decode cX6_sharesServe 94 = .ok (.iastore, 1) := by decide +kernel
theorem dX6_sharesServe_95 : decode cX6_sharesServe 95 = .ok (.iconst 0, 1) := by decide +kernel
theorem dX6_sharesServe_96 : decode cX6_sharesServe 96 = .ok (.ireturn, 1) := by decide +kernel
theorem dX6_usefulMud_0 : decode cX6_usefulMud 0 = .ok (.aload_n 0, 1) := by decide +kernel
theorem dX6_usefulMud_1 : decode cX6_usefulMud 1 = .ok (.getfield 29, 3) := by decide +kernel
theorem dX6_usefulMud_4 : decode cX6_usefulMud 4 = .ok (.iload_n 2, 1) := by decide +kernel
theorem dX6_usefulMud_5 : decode cX6_usefulMud 5 = .ok (.invokevirtual 167, 3) := by decide +kernel
theorem dX6_usefulMud_8 : decode cX6_usefulMud 8 = .ok (.ifCond .ne 20, 3) := by decide +kernel
theorem dX6_usefulMud_11 : decode cX6_usefulMud 11 = .ok (.aload_n 0, 1) := by decide +kernel
theorem dX6_usefulMud_12 : decode cX6_usefulMud 12 = .ok (.getfield 19, 3) := by decide +kernel
theorem dX6_usefulMud_15 : decode cX6_usefulMud 15 = .ok (.getfield 164, 3) := by decide +kernel
theorem dX6_usefulMud_18 : decode cX6_usefulMud 18 = .ok (.iload_n 2, 1) := by decide +kernel
theorem dX6_usefulMud_19 : decode cX6_usefulMud 19 = .ok (.iaload, 1) := by decide +kernel
theorem dX6_usefulMud_20 : decode cX6_usefulMud 20 = .ok (.iconst 2, 1) := by decide +kernel
theorem dX6_usefulMud_21 : decode cX6_usefulMud 21 = .ok (.if_icmp .eq 7, 3) := by decide +kernel
theorem dX6_usefulMud_24 : decode cX6_usefulMud 24 = .ok (.iconst 1, 1) := by decide +kernel
theorem dX6_usefulMud_25 : decode cX6_usefulMud 25 = .ok (.goto 4, 3) := by decide +kernel
theorem dX6_usefulMud_28 : decode cX6_usefulMud 28 = .ok (.iconst 0, 1) := by decide +kernel
theorem dX6_usefulMud_29 : decode cX6_usefulMud 29 = .ok (.istore_n 3, 1) := by decide +kernel
theorem dX6_usefulMud_30 : decode cX6_usefulMud 30 = .ok (.aload_n 0, 1) := by decide +kernel
theorem dX6_usefulMud_31 : decode cX6_usefulMud 31 = .ok (.getfield 19, 3) := by decide +kernel
theorem dX6_usefulMud_34 : decode cX6_usefulMud 34 = .ok (.getfield 155, 3) := by decide +kernel
theorem dX6_usefulMud_37 : decode cX6_usefulMud 37 = .ok (.iload_n 2, 1) := by decide +kernel
theorem dX6_usefulMud_38 : decode cX6_usefulMud 38 = .ok (.iaload, 1) := by decide +kernel
theorem dX6_usefulMud_39 : decode cX6_usefulMud 39 = .ok (.iload_n 1, 1) := by decide +kernel
theorem dX6_usefulMud_40 : decode cX6_usefulMud 40 = .ok (.if_icmp .ne 19, 3) := by decide +kernel
theorem dX6_usefulMud_43 : decode cX6_usefulMud 43 = .ok (.iload_n 3, 1) := by decide +kernel
theorem dX6_usefulMud_44 : decode cX6_usefulMud 44 = .ok (.ifCond .eq 15, 3) := by decide +kernel
theorem dX6_usefulMud_47 : decode cX6_usefulMud 47 = .ok (.aload_n 0, 1) := by decide +kernel
theorem dX6_usefulMud_48 : decode cX6_usefulMud 48 = .ok (.getfield 29, 3) := by decide +kernel
theorem dX6_usefulMud_51 : decode cX6_usefulMud 51 = .ok (.getfield 161, 3) := by decide +kernel
theorem dX6_usefulMud_54 : decode cX6_usefulMud 54 = .ok (.iload_n 2, 1) := by decide +kernel
theorem dX6_usefulMud_55 : decode cX6_usefulMud 55 = .ok (.iaload, 1) := by decide +kernel
theorem dX6_usefulMud_56 : decode cX6_usefulMud 56 = .ok (.goto 4, 3) := by decide +kernel
theorem dX6_usefulMud_59 : decode cX6_usefulMud 59 = .ok (.iconst 0, 1) := by decide +kernel
theorem dX6_usefulMud_60 : decode cX6_usefulMud 60 = .ok (.ireturn, 1) := by decide +kernel
theorem dX6_seatsWithMud_0 : decode cX6_seatsWithMud 0 = .ok (.aload_n 0, 1) := by decide +kernel
theorem dX6_seatsWithMud_1 : decode cX6_seatsWithMud 1 = .ok (.getfield 33, 3) := by decide +kernel
theorem dX6_seatsWithMud_4 : decode cX6_seatsWithMud 4 = .ok (.aload_n 0, 1) := by decide +kernel
theorem dX6_seatsWithMud_5 : decode cX6_seatsWithMud 5 = .ok (.getfield 29, 3) := by decide +kernel
theorem dX6_seatsWithMud_8 : decode cX6_seatsWithMud 8 = .ok (.invokevirtual 204, 3) := by decide +kernel
theorem dX6_seatsWithMud_11 : decode cX6_seatsWithMud 11 = .ok (.iconst 0, 1) := by decide +kernel
theorem dX6_seatsWithMud_12 : decode cX6_seatsWithMud 12 = .ok (.istore_n 2, 1) := by decide +kernel
theorem dX6_seatsWithMud_13 : decode cX6_seatsWithMud 13 = .ok (.iload_n 2, 1) := by decide +kernel
theorem dX6_seatsWithMud_14 : decode cX6_seatsWithMud 14 = .ok (.aload_n 0, 1) := by decide +kernel
theorem dX6_seatsWithMud_15 : decode cX6_seatsWithMud 15 = .ok (.getfield 19, 3) := by decide +kernel
theorem dX6_seatsWithMud_18 : decode cX6_seatsWithMud 18 = .ok (.getfield 105, 3) := by decide +kernel
theorem dX6_seatsWithMud_21 : decode cX6_seatsWithMud 21 = .ok (.if_icmp .ge 36, 3) := by decide +kernel
theorem dX6_seatsWithMud_24 : decode cX6_seatsWithMud 24 = .ok (.aload_n 0, 1) := by decide +kernel
theorem dX6_seatsWithMud_25 : decode cX6_seatsWithMud 25 = .ok (.getfield 19, 3) := by decide +kernel
theorem dX6_seatsWithMud_28 : decode cX6_seatsWithMud 28 = .ok (.getfield 155, 3) := by decide +kernel
theorem dX6_seatsWithMud_31 : decode cX6_seatsWithMud 31 = .ok (.iload_n 2, 1) := by decide +kernel
theorem dX6_seatsWithMud_32 : decode cX6_seatsWithMud 32 = .ok (.iaload, 1) := by decide +kernel
theorem dX6_seatsWithMud_33 : decode cX6_seatsWithMud 33 = .ok (.iload_n 1, 1) := by decide +kernel
theorem dX6_seatsWithMud_34 : decode cX6_seatsWithMud 34 = .ok (.if_icmp .ne 17, 3) := by decide +kernel
theorem dX6_seatsWithMud_37 : decode cX6_seatsWithMud 37 = .ok (.aload_n 0, 1) := by decide +kernel
theorem dX6_seatsWithMud_38 : decode cX6_seatsWithMud 38 = .ok (.getfield 33, 3) := by decide +kernel
theorem dX6_seatsWithMud_41 : decode cX6_seatsWithMud 41 = .ok (.iload_n 2, 1) := by decide +kernel
theorem dX6_seatsWithMud_42 : decode cX6_seatsWithMud 42 = .ok (.aload_n 0, 1) := by decide +kernel
theorem dX6_seatsWithMud_43 : decode cX6_seatsWithMud 43 = .ok (.getfield 69, 3) := by decide +kernel
theorem dX6_seatsWithMud_46 : decode cX6_seatsWithMud 46 = .ok (.iload_n 2, 1) := by decide +kernel
theorem dX6_seatsWithMud_47 : decode cX6_seatsWithMud 47 = .ok (.iaload, 1) := by decide +kernel
theorem dX6_seatsWithMud_48 : decode cX6_seatsWithMud 48 = .ok (.invokevirtual 190, 3) := by decide +kernel
theorem dX6_seatsWithMud_51 : decode cX6_seatsWithMud 51 = .ok (.iinc 2 1, 3) := by decide +kernel
theorem dX6_seatsWithMud_54 : decode cX6_seatsWithMud 54 = .ok (.goto (-41), 3) := by decide +kernel
theorem dX6_seatsWithMud_57 : decode cX6_seatsWithMud 57 = .ok (.aload_n 0, 1) := by decide +kernel
theorem dX6_seatsWithMud_58 : decode cX6_seatsWithMud 58 = .ok (.invokevirtual 207, 3) := by decide +kernel
theorem dX6_seatsWithMud_61 : decode cX6_seatsWithMud 61 = .ok (.aload_n 0, 1) := by decide +kernel
theorem dX6_seatsWithMud_62 : decode cX6_seatsWithMud 62 = .ok (.iload_n 1, 1) := by decide +kernel
theorem dX6_seatsWithMud_63 : decode cX6_seatsWithMud 63 = .ok (.invokevirtual 281, 3) := by decide +kernel
theorem dX6_seatsWithMud_66 : decode cX6_seatsWithMud 66 = .ok (.ireturn, 1) := by decide +kernel
theorem dX6_wouldExplain_0 : decode cX6_wouldExplain 0 = .ok (.iload_n 1, 1) := by decide +kernel
theorem dX6_wouldExplain_1 : decode cX6_wouldExplain 1 = .ok (.iload_n 2, 1) := by decide +kernel
theorem dX6_wouldExplain_2 : decode cX6_wouldExplain 2 = .ok (.if_icmp .eq 13, 3) := by decide +kernel
theorem dX6_wouldExplain_5 : decode cX6_wouldExplain 5 = .ok (.aload_n 0, 1) := by decide +kernel
theorem dX6_wouldExplain_6 : decode cX6_wouldExplain 6 = .ok (.iload_n 1, 1) := by decide +kernel
theorem dX6_wouldExplain_7 : decode cX6_wouldExplain 7 = .ok (.iload_n 2, 1) := by decide +kernel
theorem dX6_wouldExplain_8 : decode cX6_wouldExplain 8 = .ok (.iload_n 3, 1) := by decide +kernel
theorem dX6_wouldExplain_9 : decode cX6_wouldExplain 9 = .ok (.invokevirtual 181, 3) := by decide +kernel
theorem dX6_wouldExplain_12 : decode cX6_wouldExplain 12 = .ok (.ifCond .ne 5, 3) := by decide +kernel
theorem dX6_wouldExplain_15 : decode cX6_wouldExplain 15 = .ok (.iconst 0, 1) := by decide +kernel
theorem dX6_wouldExplain_16 : decode cX6_wouldExplain 16 = .ok (.ireturn, 1) := by decide +kernel
theorem dX6_wouldExplain_17 : decode cX6_wouldExplain 17 = .ok (.aload_n 0, 1) := by decide +kernel
theorem dX6_wouldExplain_18 : decode cX6_wouldExplain 18 = .ok (.getfield 33, 3) := by decide +kernel
theorem dX6_wouldExplain_21 : decode cX6_wouldExplain 21 = .ok (.aload_n 0, 1) := by decide +kernel
theorem dX6_wouldExplain_22 : decode cX6_wouldExplain 22 = .ok (.getfield 29, 3) := by decide +kernel
theorem dX6_wouldExplain_25 : decode cX6_wouldExplain 25 = .ok (.invokevirtual 204, 3) := by decide +kernel
theorem dX6_wouldExplain_28 : decode cX6_wouldExplain 28 = .ok (.aload_n 0, 1) := by decide +kernel
theorem dX6_wouldExplain_29 : decode cX6_wouldExplain 29 = .ok (.getfield 33, 3) := by decide +kernel
theorem dX6_wouldExplain_32 : decode cX6_wouldExplain 32 = .ok (.iload_n 1, 1) := by decide +kernel
theorem dX6_wouldExplain_33 : decode cX6_wouldExplain 33 = .ok (.iload_n 2, 1) := by decide +kernel
theorem dX6_wouldExplain_34 : decode cX6_wouldExplain 34 = .ok (.iload_n 3, 1) := by decide +kernel
theorem dX6_wouldExplain_35 : decode cX6_wouldExplain 35 = .ok (.invokevirtual 186, 3) := by decide +kernel
theorem dX6_wouldExplain_38 : decode cX6_wouldExplain 38 = .ok (.aload_n 0, 1) := by decide +kernel
theorem dX6_wouldExplain_39 : decode cX6_wouldExplain 39 = .ok (.invokevirtual 207, 3) := by decide +kernel
theorem dX6_wouldExplain_42 : decode cX6_wouldExplain 42 = .ok (.iconst 0, 1) := by decide +kernel
theorem dX6_wouldExplain_43 : decode cX6_wouldExplain 43 = .ok (.istore 4, 2) := by decide +kernel
theorem dX6_wouldExplain_45 : decode cX6_wouldExplain 45 = .ok (.iload 4, 2) := by decide +kernel
theorem dX6_wouldExplain_47 : decode cX6_wouldExplain 47 = .ok (.aload_n 0, 1) := by decide +kernel
theorem dX6_wouldExplain_48 : decode cX6_wouldExplain 48 = .ok (.getfield 59, 3) := by decide +kernel
theorem dX6_wouldExplain_51 : decode cX6_wouldExplain 51 = .ok (.getfield 147, 3) := by decide +kernel
theorem dX6_wouldExplain_54 : decode cX6_wouldExplain 54 = .ok (.if_icmp .ge 42, 3) := by decide +kernel
theorem dX6_wouldExplain_57 : decode cX6_wouldExplain 57 = .ok (.aload_n 0, 1) := by decide +kernel
theorem dX6_wouldExplain_58 : decode cX6_wouldExplain 58 = .ok (.getfield 33, 3) := by decide +kernel
theorem dX6_wouldExplain_61 : decode cX6_wouldExplain 61 = .ok (.getfield 130, 3) := by decide +kernel
theorem dX6_wouldExplain_64 : decode cX6_wouldExplain 64 = .ok (.aload_n 0, 1) := by decide +kernel
theorem dX6_wouldExplain_65 : decode cX6_wouldExplain 65 = .ok (.getfield 59, 3) := by decide +kernel
theorem dX6_wouldExplain_68 : decode cX6_wouldExplain 68 = .ok (.getfield 262, 3) := by decide +kernel
theorem dX6_wouldExplain_71 : decode cX6_wouldExplain 71 = .ok (.iload 4, 2) := by decide +kernel
theorem dX6_wouldExplain_73 : decode cX6_wouldExplain 73 = .ok (.iaload, 1) := by decide +kernel
theorem dX6_wouldExplain_74 : decode cX6_wouldExplain 74 = .ok (.iaload, 1) := by decide +kernel
theorem dX6_wouldExplain_75 : decode cX6_wouldExplain 75 = .ok (.aload_n 0, 1) := by decide +kernel
theorem dX6_wouldExplain_76 : decode cX6_wouldExplain 76 = .ok (.getfield 59, 3) := by decide +kernel
theorem dX6_wouldExplain_79 : decode cX6_wouldExplain 79 = .ok (.getfield 265, 3) := by decide +kernel
theorem dX6_wouldExplain_82 : decode cX6_wouldExplain 82 = .ok (.iload 4, 2) := by decide +kernel
theorem dX6_wouldExplain_84 : decode cX6_wouldExplain 84 = .ok (.iaload, 1) := by decide +kernel
theorem dX6_wouldExplain_85 : decode cX6_wouldExplain 85 = .ok (.if_icmp .eq 5, 3) := by decide +kernel
theorem dX6_wouldExplain_88 : decode cX6_wouldExplain 88 = .ok (.iconst 0, 1) := by decide +kernel
theorem dX6_wouldExplain_89 : decode cX6_wouldExplain 89 = .ok (.ireturn, 1) := by decide +kernel
theorem dX6_wouldExplain_90 : decode cX6_wouldExplain 90 = .ok (.iinc 4 1, 3) := by decide +kernel
theorem dX6_wouldExplain_93 : decode cX6_wouldExplain 93 = .ok (.goto (-48), 3) := by decide +kernel
theorem dX6_wouldExplain_96 : decode cX6_wouldExplain 96 = .ok (.iconst 1, 1) := by decide +kernel
theorem dX6_wouldExplain_97 : decode cX6_wouldExplain 97 = .ok (.ireturn, 1) := by decide +kernel
theorem dX6_leastIn_0 : decode cX6_leastIn 0 = .ok (.iconst 0, 1) := by decide +kernel
theorem dX6_leastIn_1 : decode cX6_leastIn 1 = .ok (.istore_n 2, 1) := by decide +kernel
theorem dX6_leastIn_2 : decode cX6_leastIn 2 = .ok (.iconst 0, 1) := by decide +kernel
theorem dX6_leastIn_3 : decode cX6_leastIn 3 = .ok (.istore_n 3, 1) := by decide +kernel
theorem dX6_leastIn_4 : decode cX6_leastIn 4 = .ok (.iload_n 3, 1) := by decide +kernel
theorem dX6_leastIn_5 : decode cX6_leastIn 5 = .ok (.aload_n 0, 1) := by decide +kernel
theorem dX6_leastIn_6 : decode cX6_leastIn 6 = .ok (.getfield 63, 3) := by decide +kernel
theorem dX6_leastIn_9 : decode cX6_leastIn 9 = .ok (.getfield 147, 3) := by decide +kernel
theorem dX6_leastIn_12 : decode cX6_leastIn 12 = .ok (.if_icmp .ge 66, 3) := by decide +kernel
theorem dX6_leastIn_15 : decode cX6_leastIn 15 = .ok (.aload_n 0, 1) := by decide +kernel
theorem dX6_leastIn_16 : decode cX6_leastIn 16 = .ok (.getfield 63, 3) := by decide +kernel
theorem dX6_leastIn_19 : decode cX6_leastIn 19 = .ok (.getfield 262, 3) := by decide +kernel
theorem dX6_leastIn_22 : decode cX6_leastIn 22 = .ok (.iload_n 3, 1) := by decide +kernel
theorem dX6_leastIn_23 : decode cX6_leastIn 23 = .ok (.iaload, 1) := by decide +kernel
theorem dX6_leastIn_24 : decode cX6_leastIn 24 = .ok (.istore 4, 2) := by decide +kernel
theorem dX6_leastIn_26 : decode cX6_leastIn 26 = .ok (.iload 4, 2) := by decide +kernel
theorem dX6_leastIn_28 : decode cX6_leastIn 28 = .ok (.iload_n 1, 1) := by decide +kernel
theorem dX6_leastIn_29 : decode cX6_leastIn 29 = .ok (.ishr, 1) := by decide +kernel
theorem dX6_leastIn_30 : decode cX6_leastIn 30 = .ok (.iconst 1, 1) := by decide +kernel
theorem dX6_leastIn_31 : decode cX6_leastIn 31 = .ok (.iand, 1) := by decide +kernel
theorem dX6_leastIn_32 : decode cX6_leastIn 32 = .ok (.ifCond .eq 40, 3) := by decide +kernel
theorem dX6_leastIn_35 : decode cX6_leastIn 35 = .ok (.aload_n 0, 1) := by decide +kernel
theorem dX6_leastIn_36 : decode cX6_leastIn 36 = .ok (.getfield 19, 3) := by decide +kernel
theorem dX6_leastIn_39 : decode cX6_leastIn 39 = .ok (.getfield 158, 3) := by decide +kernel
theorem dX6_leastIn_42 : decode cX6_leastIn 42 = .ok (.iload 4, 2) := by decide +kernel
theorem dX6_leastIn_44 : decode cX6_leastIn 44 = .ok (.iconst 1, 1) := by decide +kernel
theorem dX6_leastIn_45 : decode cX6_leastIn 45 = .ok (.iload_n 1, 1) := by decide +kernel
theorem dX6_leastIn_46 : decode cX6_leastIn 46 = .ok (.ishl, 1) := by decide +kernel
theorem dX6_leastIn_47 : decode cX6_leastIn 47 = .ok (.iconst (-1), 1) := by decide +kernel
theorem dX6_leastIn_48 : decode cX6_leastIn 48 = .ok (.ixor, 1) := by decide +kernel
theorem dX6_leastIn_49 : decode cX6_leastIn 49 = .ok (.iand, 1) := by decide +kernel
theorem dX6_leastIn_50 : decode cX6_leastIn 50 = .ok (.invokestatic 137, 3) := by decide +kernel
theorem dX6_leastIn_53 : decode cX6_leastIn 53 = .ok (.istore 5, 2) := by decide +kernel
theorem dX6_leastIn_55 : decode cX6_leastIn 55 = .ok (.iload_n 2, 1) := by decide +kernel
theorem dX6_leastIn_56 : decode cX6_leastIn 56 = .ok (.aload_n 0, 1) := by decide +kernel
theorem dX6_leastIn_57 : decode cX6_leastIn 57 = .ok (.getfield 63, 3) := by decide +kernel
theorem dX6_leastIn_60 : decode cX6_leastIn 60 = .ok (.getfield 265, 3) := by decide +kernel
theorem dX6_leastIn_63 : decode cX6_leastIn 63 = .ok (.iload_n 3, 1) := by decide +kernel
theorem dX6_leastIn_64 : decode cX6_leastIn 64 = .ok (.iaload, 1) := by decide +kernel
theorem dX6_leastIn_65 : decode cX6_leastIn 65 = .ok (.iload 5, 2) := by decide +kernel
theorem dX6_leastIn_67 : decode cX6_leastIn 67 = .ok (.isub, 1) := by decide +kernel
theorem dX6_leastIn_68 : decode cX6_leastIn 68 = .ok (.invokestatic 317, 3) := by decide +kernel
theorem dX6_leastIn_71 : decode cX6_leastIn 71 = .ok (.istore_n 2, 1) := by decide +kernel
theorem dX6_leastIn_72 : decode cX6_leastIn 72 = .ok (.iinc 3 1, 3) := by decide +kernel
theorem dX6_leastIn_75 : decode cX6_leastIn 75 = .ok (.goto (-71), 3) := by decide +kernel
theorem dX6_leastIn_78 : decode cX6_leastIn 78 = .ok (.iload_n 2, 1) := by decide +kernel
theorem dX6_leastIn_79 : decode cX6_leastIn 79 = .ok (.ireturn, 1) := by decide +kernel
theorem dX6_mostIn_0 : decode cX6_mostIn 0 = .ok (.aload_n 0, 1) := by decide +kernel
theorem dX6_mostIn_1 : decode cX6_mostIn 1 = .ok (.getfield 19, 3) := by decide +kernel
theorem dX6_mostIn_4 : decode cX6_mostIn 4 = .ok (.getfield 158, 3) := by decide +kernel
theorem dX6_mostIn_7 : decode cX6_mostIn 7 = .ok (.iload_n 1, 1) := by decide +kernel
theorem dX6_mostIn_8 : decode cX6_mostIn 8 = .ok (.iaload, 1) := by decide +kernel
theorem dX6_mostIn_9 : decode cX6_mostIn 9 = .ok (.istore_n 2, 1) := by decide +kernel
theorem dX6_mostIn_10 : decode cX6_mostIn 10 = .ok (.iconst 0, 1) := by decide +kernel
theorem dX6_mostIn_11 : decode cX6_mostIn 11 = .ok (.istore_n 3, 1) := by decide +kernel
theorem dX6_mostIn_12 : decode cX6_mostIn 12 = .ok (.iload_n 3, 1) := by decide +kernel
theorem dX6_mostIn_13 : decode cX6_mostIn 13 = .ok (.aload_n 0, 1) := by decide +kernel
theorem dX6_mostIn_14 : decode cX6_mostIn 14 = .ok (.getfield 63, 3) := by decide +kernel
theorem dX6_mostIn_17 : decode cX6_mostIn 17 = .ok (.getfield 147, 3) := by decide +kernel
theorem dX6_mostIn_20 : decode cX6_mostIn 20 = .ok (.if_icmp .ge 39, 3) := by decide +kernel
theorem dX6_mostIn_23 : decode cX6_mostIn 23 = .ok (.aload_n 0, 1) := by decide +kernel
theorem dX6_mostIn_24 : decode cX6_mostIn 24 = .ok (.getfield 63, 3) := by decide +kernel
theorem dX6_mostIn_27 : decode cX6_mostIn 27 = .ok (.getfield 262, 3) := by decide +kernel
theorem dX6_mostIn_30 : decode cX6_mostIn 30 = .ok (.iload_n 3, 1) := by decide +kernel
theorem dX6_mostIn_31 : decode cX6_mostIn 31 = .ok (.iaload, 1) := by decide +kernel
theorem dX6_mostIn_32 : decode cX6_mostIn 32 = .ok (.iload_n 1, 1) := by decide +kernel
theorem dX6_mostIn_33 : decode cX6_mostIn 33 = .ok (.ishr, 1) := by decide +kernel
theorem dX6_mostIn_34 : decode cX6_mostIn 34 = .ok (.iconst 1, 1) := by decide +kernel
theorem dX6_mostIn_35 : decode cX6_mostIn 35 = .ok (.iand, 1) := by decide +kernel
theorem dX6_mostIn_36 : decode cX6_mostIn 36 = .ok (.ifCond .eq 17, 3) := by decide +kernel
theorem dX6_mostIn_39 : decode cX6_mostIn 39 = .ok (.iload_n 2, 1) := by decide +kernel
theorem dX6_mostIn_40 : decode cX6_mostIn 40 = .ok (.aload_n 0, 1) := by decide +kernel
theorem dX6_mostIn_41 : decode cX6_mostIn 41 = .ok (.getfield 63, 3) := by decide +kernel
theorem dX6_mostIn_44 : decode cX6_mostIn 44 = .ok (.getfield 265, 3) := by decide +kernel
theorem dX6_mostIn_47 : decode cX6_mostIn 47 = .ok (.iload_n 3, 1) := by decide +kernel
theorem dX6_mostIn_48 : decode cX6_mostIn 48 = .ok (.iaload, 1) := by decide +kernel
theorem dX6_mostIn_49 : decode cX6_mostIn 49 = .ok (.invokestatic 312, 3) := by decide +kernel
theorem dX6_mostIn_52 : decode cX6_mostIn 52 = .ok (.istore_n 2, 1) := by decide +kernel
theorem dX6_mostIn_53 : decode cX6_mostIn 53 = .ok (.iinc 3 1, 3) := by decide +kernel
theorem dX6_mostIn_56 : decode cX6_mostIn 56 = .ok (.goto (-44), 3) := by decide +kernel
theorem dX6_mostIn_59 : decode cX6_mostIn 59 = .ok (.iload_n 2, 1) := by decide +kernel
theorem dX6_mostIn_60 : decode cX6_mostIn 60 = .ok (.ireturn, 1) := by decide +kernel
theorem dX7_init_0 : decode cX7_init 0 = .ok (.aload_n 0, 1) := by decide +kernel
theorem dX7_init_1 : decode cX7_init 1 = .ok (.invokespecial 1, 3) := by decide +kernel
theorem dX7_init_4 : decode cX7_init 4 = .ok (.aload_n 0, 1) := by decide +kernel
theorem dX7_init_5 : decode cX7_init 5 = .ok (.bipush 8, 2) := by decide +kernel
theorem dX7_init_7 : decode cX7_init 7 = .ok (.newarray .int, 2) := by decide +kernel
theorem dX7_init_9 : decode cX7_init 9 = .ok (.putfield 7, 3) := by decide +kernel
theorem dX7_init_12 : decode cX7_init 12 = .ok (.aload_n 0, 1) := by decide +kernel
theorem dX7_init_13 : decode cX7_init 13 = .ok (.bipush 8, 2) := by decide +kernel
theorem dX7_init_15 : decode cX7_init 15 = .ok (.newarray .int, 2) := by decide +kernel
theorem dX7_init_17 : decode cX7_init 17 = .ok (.putfield 13, 3) := by decide +kernel
theorem dX7_init_20 : decode cX7_init 20 = .ok (.aload_n 0, 1) := by decide +kernel
theorem dX7_init_21 : decode cX7_init 21 = .ok (.bipush 8, 2) := by decide +kernel
theorem dX7_init_23 : decode cX7_init 23 = .ok (.newarray .int, 2) := by decide +kernel
theorem dX7_init_25 : decode cX7_init 25 = .ok (.putfield 16, 3) := by decide +kernel
theorem dX7_init_28 : decode cX7_init 28 = .ok (.aload_n 0, 1) := by decide +kernel
theorem dX7_init_29 : decode cX7_init 29 = .ok (.iconst 1, 1) := by decide +kernel
theorem dX7_init_30 : decode cX7_init 30 = .ok (.putfield 19, 3) := by decide +kernel
theorem dX7_init_33 : decode cX7_init 33 = .ok (.aload_n 0, 1) := by decide +kernel
theorem dX7_init_34 : decode cX7_init 34 = .ok (.bipush 8, 2) := by decide +kernel
theorem dX7_init_36 : decode cX7_init 36 = .ok (.newarray .int, 2) := by decide +kernel
theorem dX7_init_38 : decode cX7_init 38 = .ok (.putfield 23, 3) := by decide +kernel
theorem dX7_init_41 : decode cX7_init 41 = .ok (.aload_n 0, 1) := by decide +kernel
theorem dX7_init_42 : decode cX7_init 42 = .ok (.bipush 27, 2) := by decide +kernel
theorem dX7_init_44 : decode cX7_init 44 = .ok (.newarray .int, 2) := by decide +kernel
theorem dX7_init_46 : decode cX7_init 46 = .ok (.putfield 26, 3) := by decide +kernel
theorem dX7_init_49 : decode cX7_init 49 = .ok (.aload_n 0, 1) := by decide +kernel
theorem dX7_init_50 : decode cX7_init 50 = .ok (.sipush 240, 3) := by decide +kernel
theorem dX7_init_53 : decode cX7_init 53 = .ok (.newarray .int, 2) := by decide +kernel
theorem dX7_init_55 : decode cX7_init 55 = .ok (.putfield 29, 3) := by decide +kernel
theorem dX7_init_58 : decode cX7_init 58 = .ok (.aload_n 0, 1) := by decide +kernel
theorem dX7_init_59 : decode cX7_init 59 = .ok (.iconst (-1), 1) := by decide +kernel
theorem dX7_init_60 : decode cX7_init 60 = .ok (.putfield 32, 3) := by decide +kernel
theorem dX7_init_63 : decode cX7_init 63 = .ok (.aload_n 0, 1) := by decide +kernel
theorem dX7_init_64 : decode cX7_init 64 = .ok (.iconst 3, 1) := by decide +kernel
theorem dX7_init_65 : decode cX7_init 65 = .ok (.newarray .int, 2) := by decide +kernel
theorem dX7_init_67 : decode cX7_init 67 = .ok (.putfield 35, 3) := by decide +kernel
theorem dX7_init_70 : decode cX7_init 70 = .ok (.aload_n 0, 1) := by decide +kernel
theorem dX7_init_71 : decode cX7_init 71 = .ok (.bipush 8, 2) := by decide +kernel
theorem dX7_init_73 : decode cX7_init 73 = .ok (.newarray .int, 2) := by decide +kernel
theorem dX7_init_75 : decode cX7_init 75 = .ok (.putfield 38, 3) := by decide +kernel
theorem dX7_init_78 : decode cX7_init 78 = .ok (.aload_n 0, 1) := by decide +kernel
theorem dX7_init_79 : decode cX7_init 79 = .ok (.bipush 8, 2) := by decide +kernel
theorem dX7_init_81 : decode cX7_init 81 = .ok (.newarray .int, 2) := by decide +kernel
theorem dX7_init_83 : decode cX7_init 83 = .ok (.putfield 41, 3) := by decide +kernel
theorem dX7_init_86 : decode cX7_init 86 = .ok (.aload_n 0, 1) := by decide +kernel
theorem dX7_init_87 : decode cX7_init 87 = .ok (.bipush 8, 2) := by decide +kernel
theorem dX7_init_89 : decode cX7_init 89 = .ok (.newarray .int, 2) := by decide +kernel
theorem dX7_init_91 : decode cX7_init 91 = .ok (.putfield 44, 3) := by decide +kernel
theorem dX7_init_94 : decode cX7_init 94 = .ok (.aload_n 0, 1) := by decide +kernel
theorem dX7_init_95 : decode cX7_init 95 = .ok (.bipush 8, 2) := by decide +kernel
theorem dX7_init_97 : decode cX7_init 97 = .ok (.newarray .int, 2) := by decide +kernel
theorem dX7_init_99 : decode cX7_init 99 = .ok (.putfield 47, 3) := by decide +kernel
theorem dX7_init_102 : decode cX7_init 102 = .ok (.aload_n 0, 1) := by decide +kernel
theorem dX7_init_103 : decode cX7_init 103 = .ok (.bipush 8, 2) := by decide +kernel
theorem dX7_init_105 : decode cX7_init 105 = .ok (.newarray .int, 2) := by decide +kernel
theorem dX7_init_107 : decode cX7_init 107 = .ok (.putfield 50, 3) := by decide +kernel
theorem dX7_init_110 : decode cX7_init 110 = .ok (.aload_n 0, 1) := by decide +kernel
theorem dX7_init_111 : decode cX7_init 111 = .ok (.bipush 8, 2) := by decide +kernel
theorem dX7_init_113 : decode cX7_init 113 = .ok (.newarray .int, 2) := by decide +kernel
theorem dX7_init_115 : decode cX7_init 115 = .ok (.putfield 53, 3) := by decide +kernel
theorem dX7_init_118 : decode cX7_init 118 = .ok (.aload_n 0, 1) := by decide +kernel
theorem dX7_init_119 : decode cX7_init 119 = .ok (.iconst 4, 1) := by decide +kernel
theorem dX7_init_120 : decode cX7_init 120 = .ok (.newarray .int, 2) := by decide +kernel
theorem dX7_init_122 : decode cX7_init 122 = .ok (.putfield 56, 3) := by decide +kernel
theorem dX7_init_125 : decode cX7_init 125 = .ok (.aload_n 0, 1) := by decide +kernel
theorem dX7_init_126 : decode cX7_init 126 = .ok (.sipush 540, 3) := by decide +kernel
theorem dX7_init_129 : decode cX7_init 129 = .ok (.newarray .int, 2) := by decide +kernel
theorem dX7_init_131 : decode cX7_init 131 = .ok (.putfield 59, 3) := by decide +kernel
theorem dX7_init_134 : decode cX7_init 134 = .ok (.aload_n 0, 1) := by decide +kernel
theorem dX7_init_135 : decode cX7_init 135 = .ok (.bipush 27, 2) := by decide +kernel
theorem dX7_init_137 : decode cX7_init 137 = .ok (.newarray .int, 2) := by decide +kernel
theorem dX7_init_139 : decode cX7_init 139 = .ok (.putfield 62, 3) := by decide +kernel
theorem dX7_init_142 : decode cX7_init 142 = .ok (.aload_n 0, 1) := by decide +kernel
theorem dX7_init_143 : decode cX7_init 143 = .ok (.bipush 9, 2) := by decide +kernel
theorem dX7_init_145 : decode cX7_init 145 = .ok (.newarray .int, 2) := by decide +kernel
theorem dX7_init_147 : decode cX7_init 147 = .ok (.putfield 65, 3) := by decide +kernel
theorem dX7_init_150 : decode cX7_init 150 = .ok (.aload_n 0, 1) := by decide +kernel
theorem dX7_init_151 : decode cX7_init 151 = .ok (.bipush 8, 2) := by decide +kernel
theorem dX7_init_153 : decode cX7_init 153 = .ok (.newarray .int, 2) := by decide +kernel
theorem dX7_init_155 : decode cX7_init 155 = .ok (.putfield 68, 3) := by decide +kernel
theorem dX7_init_158 : decode cX7_init 158 = .ok (.aload_n 0, 1) := by decide +kernel
theorem dX7_init_159 : decode cX7_init 159 = .ok (.bipush 8, 2) := by decide +kernel
theorem dX7_init_161 : decode cX7_init 161 = .ok (.newarray .int, 2) := by decide +kernel
theorem dX7_init_163 : decode cX7_init 163 = .ok (.putfield 71, 3) := by decide +kernel
theorem dX7_init_166 : decode cX7_init 166 = .ok (.aload_n 0, 1) := by decide +kernel
theorem dX7_init_167 : decode cX7_init 167 = .ok (.bipush 8, 2) := by decide +kernel
theorem dX7_init_169 : decode cX7_init 169 = .ok (.newarray .int, 2) := by decide +kernel
theorem dX7_init_171 : decode cX7_init 171 = .ok (.putfield 74, 3) := by decide +kernel
theorem dX7_init_174 : decode cX7_init 174 = .ok (.aload_n 0, 1) := by decide +kernel
theorem dX7_init_175 : decode cX7_init 175 = .ok (.bipush 8, 2) := by decide +kernel
theorem dX7_init_177 : decode cX7_init 177 = .ok (.newarray .int, 2) := by decide +kernel
theorem dX7_init_179 : decode cX7_init 179 = .ok (.putfield 77, 3) := by decide +kernel
theorem dX7_init_182 : decode cX7_init 182 = .ok (.aload_n 0, 1) := by decide +kernel
theorem dX7_init_183 : decode cX7_init 183 = .ok (.bipush 8, 2) := by decide +kernel
theorem dX7_init_185 : decode cX7_init 185 = .ok (.newarray .int, 2) := by decide +kernel
theorem dX7_init_187 : decode cX7_init 187 = .ok (.putfield 80, 3) := by decide +kernel
theorem dX7_init_190 : decode cX7_init 190 = .ok (.aload_n 0, 1) := by decide +kernel
theorem dX7_init_191 : decode cX7_init 191 = .ok (.bipush 15, 2) := by decide +kernel
theorem dX7_init_193 : decode cX7_init 193 = .ok (.newarray .int, 2) := by decide +kernel
theorem dX7_init_195 : decode cX7_init 195 = .ok (.putfield 83, 3) := by decide +kernel
theorem dX7_init_198 : decode cX7_init 198 = .ok (.aload_n 0, 1) := by decide +kernel
theorem dX7_init_199 : decode cX7_init 199 = .ok (.bipush 15, 2) := by decide +kernel
theorem dX7_init_201 : decode cX7_init 201 = .ok (.newarray .int, 2) := by decide +kernel
theorem dX7_init_203 : decode cX7_init 203 = .ok (.putfield 86, 3) := by decide +kernel
theorem dX7_init_206 : decode cX7_init 206 = .ok (.aload_n 0, 1) := by decide +kernel
theorem dX7_init_207 : decode cX7_init 207 = .ok (.bipush 56, 2) := by decide +kernel
theorem dX7_init_209 : decode cX7_init 209 = .ok (.newarray .int, 2) := by decide +kernel
theorem dX7_init_211 : decode cX7_init 211 = .ok (.putfield 89, 3) := by decide +kernel
theorem dX7_init_214 : decode cX7_init 214 = .ok (.aload_n 0, 1) := by decide +kernel
theorem dX7_init_215 : decode cX7_init 215 = .ok (.iconst 2, 1) := by decide +kernel
theorem dX7_init_216 : decode cX7_init 216 = .ok (.newarray .boolean, 2) := by decide +kernel
theorem dX7_init_218 : decode cX7_init 218 = .ok (.putfield 92, 3) := by decide +kernel
theorem dX7_init_221 : decode cX7_init 221 = .ok (.aload_n 0, 1) := by decide +kernel
theorem dX7_init_222 : decode cX7_init 222 = .ok (.getfield 23, 3) := by decide +kernel
theorem dX7_init_225 : decode cX7_init 225 = .ok (.iconst 0, 1) := by decide +kernel
theorem dX7_init_226 : decode cX7_init 226 = .ok (.iconst 5, 1) := by decide +kernel
theorem dX7_init_227 : decode cX7_init 227 = .ok (.iastore, 1) := by decide +kernel
theorem dX7_init_228 : decode cX7_init 228 = .ok (.return_, 1) := by decide +kernel
theorem dX7_in_0 : decode cX7_in 0 = .ok (.lload_n 0, 1) := by decide +kernel
theorem dX7_in_1 : decode cX7_in 1 = .ok (.lload_n 2, 1) := by decide +kernel
theorem dX7_in_2 : decode cX7_in 2 = .ok (.lcmp, 1) := by decide +kernel
theorem dX7_in_3 : decode cX7_in 3 = .ok (.ifCond .lt 14, 3) := by decide +kernel
theorem dX7_in_6 : decode cX7_in 6 = .ok (.lload_n 0, 1) := by decide +kernel
theorem dX7_in_7 : decode cX7_in 7 = .ok (.lload 4, 2) := by decide +kernel
theorem dX7_in_9 : decode cX7_in 9 = .ok (.lcmp, 1) := by decide +kernel
theorem dX7_in_10 : decode cX7_in 10 = .ok (.ifCond .gt 7, 3) := by decide +kernel
theorem dX7_in_13 : decode cX7_in 13 = .ok (.iconst 1, 1) := by decide +kernel
theorem dX7_in_14 : decode cX7_in 14 = .ok (.goto 4, 3) := by decide +kernel
theorem dX7_in_17 : decode cX7_in 17 = .ok (.iconst 0, 1) := by decide +kernel
theorem dX7_in_18 : decode cX7_in 18 = .ok (.ireturn, 1) := by decide +kernel
theorem dX7_has_0 : decode cX7_has 0 = .ok (.iload_n 0, 1) := by decide +kernel
theorem dX7_has_1 : decode cX7_has 1 = .ok (.iload_n 1, 1) := by decide +kernel
theorem dX7_has_2 : decode cX7_has 2 = .ok (.ishr, 1) := by decide +kernel
theorem dX7_has_3 : decode cX7_has 3 = .ok (.iconst 1, 1) := by decide +kernel
theorem dX7_has_4 : decode cX7_has 4 = .ok (.iand, 1) := by decide +kernel
theorem dX7_has_5 : decode cX7_has 5 = .ok (.iconst 1, 1) := by decide +kernel
theorem dX7_has_6 : decode cX7_has 6 = .ok (.if_icmp .ne 7, 3) := by decide +kernel
theorem dX7_has_9 : decode cX7_has 9 = .ok (.iconst 1, 1) := by decide +kernel
theorem dX7_has_10 : decode cX7_has 10 = .ok (.goto 4, 3) := by decide +kernel
theorem dX7_has_13 : decode cX7_has 13 = .ok (.iconst 0, 1) := by decide +kernel
theorem dX7_has_14 : decode cX7_has 14 = .ok (.ireturn, 1) := by decide +kernel
theorem dX7_bits_0 : decode cX7_bits 0 = .ok (.iconst 0, 1) := by decide +kernel
theorem dX7_bits_1 : decode cX7_bits 1 = .ok (.istore_n 1, 1) := by decide +kernel
theorem dX7_bits_2 : decode cX7_bits 2 = .ok (.iconst 0, 1) := by decide +kernel
theorem dX7_bits_3 : decode cX7_bits 3 = .ok (.istore_n 2, 1) := by decide +kernel
theorem dX7_bits_4 : decode cX7_bits 4 = .ok (.iload_n 2, 1) := by decide +kernel
theorem dX7_bits_5 : decode cX7_bits 5 = .ok (.bipush 8, 2) := by decide +kernel
theorem dX7_bits_7 : decode cX7_bits 7 = .ok (.if_icmp .ge 17, 3) := by decide +kernel
theorem dX7_bits_10 : decode cX7_bits 10 = .ok (.iload_n 1, 1) := by decide +kernel
theorem dX7_bits_11 : decode cX7_bits 11 = .ok (.iload_n 0, 1) := by decide +kernel
theorem dX7_bits_12 : decode cX7_bits 12 = .ok (.iload_n 2, 1) := by decide +kernel
theorem dX7_bits_13 : decode cX7_bits 13 = .ok (.ishr, 1) := by decide +kernel
theorem dX7_bits_14 : decode cX7_bits 14 = .ok (.iconst 1, 1) := by decide +kernel
theorem dX7_bits_15 : decode cX7_bits 15 = .ok (.iand, 1) := by decide +kernel
theorem dX7_bits_16 : decode cX7_bits 16 = .ok (.iadd, 1) := by decide +kernel
theorem dX7_bits_17 : decode cX7_bits 17 = .ok (.istore_n 1, 1) := by decide +kernel
theorem dX7_bits_18 : decode cX7_bits 18 = .ok (.iinc 2 1, 3) := by decide +kernel
theorem dX7_bits_21 : decode cX7_bits 21 = .ok (.goto (-17), 3) := by decide +kernel
theorem dX7_bits_24 : decode cX7_bits 24 = .ok (.iload_n 1, 1) := by decide +kernel
theorem dX7_bits_25 : decode cX7_bits 25 = .ok (.ireturn, 1) := by decide +kernel
theorem dX7_atMost_0 : decode cX7_atMost 0 = .ok (.iload_n 0, 1) := by decide +kernel
theorem dX7_atMost_1 : decode cX7_atMost 1 = .ok (.iload_n 1, 1) := by decide +kernel
theorem dX7_atMost_2 : decode cX7_atMost 2 = .ok (.if_icmp .ge 7, 3) := by decide +kernel
theorem dX7_atMost_5 : decode cX7_atMost 5 = .ok (.iload_n 0, 1) := by decide +kernel
theorem dX7_atMost_6 : decode cX7_atMost 6 = .ok (.goto 4, 3) := by decide +kernel
theorem dX7_atMost_9 : decode cX7_atMost 9 = .ok (.iload_n 1, 1) := by decide +kernel
theorem dX7_atMost_10 : decode cX7_atMost 10 = .ok (.ireturn, 1) := by decide +kernel
theorem dX7_isBarn_0 : decode cX7_isBarn 0 = .ok (.iload_n 1, 1) := by decide +kernel
theorem dX7_isBarn_1 : decode cX7_isBarn 1 = .ok (.i2l, 1) := by decide +kernel
theorem dX7_isBarn_2 : decode cX7_isBarn 2 = .ok (.lconst 0, 1) := by decide +kernel
theorem dX7_isBarn_3 : decode cX7_isBarn 3 = .ok (.aload_n 0, 1) := by decide +kernel
theorem dX7_isBarn_4 : decode cX7_isBarn 4 = .ok (.getfield 96, 3) := by decide +kernel
theorem dX7_isBarn_7 : decode cX7_isBarn 7 = .ok (.iconst 1, 1) := by decide +kernel
theorem dX7_isBarn_8 : decode cX7_isBarn 8 = .ok (.isub, 1) := by decide +kernel
theorem dX7_isBarn_9 : decode cX7_isBarn 9 = .ok (.i2l, 1) := by decide +kernel
theorem dX7_isBarn_10 : decode cX7_isBarn 10 = .ok (.invokestatic 99, 3) := by decide +kernel
theorem dX7_isBarn_13 : decode cX7_isBarn 13 = .ok (.ireturn, 1) := by decide +kernel
theorem dX7_isCounty_0 : decode cX7_isCounty 0 = .ok (.iload_n 1, 1) := by decide +kernel
theorem dX7_isCounty_1 : decode cX7_isCounty 1 = .ok (.i2l, 1) := by decide +kernel
theorem dX7_isCounty_2 : decode cX7_isCounty 2 = .ok (.lconst 0, 1) := by decide +kernel
theorem dX7_isCounty_3 : decode cX7_isCounty 3 = .ok (.aload_n 0, 1) := by decide +kernel
theorem dX7_isCounty_4 : decode cX7_isCounty 4 = .ok (.getfield 103, 3) := by decide +kernel
theorem dX7_isCounty_7 : decode cX7_isCounty 7 = .ok (.iconst 1, 1) := by decide +kernel
theorem dX7_isCounty_8 : decode cX7_isCounty 8 = .ok (.isub, 1) := by decide +kernel
theorem dX7_isCounty_9 : decode cX7_isCounty 9 = .ok (.i2l, 1) := by decide +kernel
theorem dX7_isCounty_10 : decode cX7_isCounty 10 = .ok (.invokestatic 99, 3) := by decide +kernel
theorem dX7_isCounty_13 : decode cX7_isCounty 13 = .ok (.ireturn, 1) := by decide +kernel
theorem dX7_feed_0 : decode cX7_feed 0 = .ok (.iload_n 1, 1) := by decide +kernel
theorem dX7_feed_1 : decode cX7_feed 1 = .ok (.i2l, 1) := by decide +kernel
theorem dX7_feed_2 : decode cX7_feed 2 = .ok (.lconst 0, 1) := by decide +kernel
theorem dX7_feed_3 : decode cX7_feed 3 = .ok (.ldc2_w 106, 3) := by decide +kernel
theorem dX7_feed_6 : decode cX7_feed 6 = .ok (.invokestatic 99, 3) := by decide +kernel
theorem dX7_feed_9 : decode cX7_feed 9 = .ok (.ifCond .ne 6, 3) := by decide +kernel
theorem dX7_feed_12 : decode cX7_feed 12 = .ok (.ldc 108, 2) := by decide +kernel
theorem dX7_feed_14 : decode cX7_feed 14 = .ok (.ireturn, 1) := by decide +kernel
theorem dX7_feed_15 : decode cX7_feed 15 = .ok (.aload_n 0, 1) := by decide +kernel
theorem dX7_feed_16 : decode cX7_feed 16 = .ok (.getfield 109, 3) := by decide +kernel
theorem dX7_feed_19 : decode cX7_feed 19 = .ok (.sipush 240, 3) := by decide +kernel
theorem dX7_feed_22 : decode cX7_feed 22 = .ok (.if_icmp .ne 6, 3) := by decide +kernel
theorem dX7_feed_25 : decode cX7_feed 25 = .ok (.ldc 112, 2) := by decide +kernel
theorem dX7_feed_27 : decode cX7_feed 27 = .ok (.ireturn, 1) := by decide +kernel
theorem dX7_feed_28 : decode cX7_feed 28 = .ok (.aload_n 0, 1) := by decide +kernel
theorem dX7_feed_29 : decode cX7_feed 29 = .ok (.getfield 29, 3) := by decide +kernel
theorem dX7_feed_32 : decode cX7_feed 32 = .ok (.aload_n 0, 1) := by decide +kernel
theorem dX7_feed_33 : decode cX7_feed 33 = .ok (.getfield 109, 3) := by decide +kernel
theorem dX7_feed_36 : decode cX7_feed 36 = .ok (.iload_n 1, 1) := by decide +kernel
theorem dX7_feed_37 : decode cX7_feed 37 = .ok (.iastore, 1) := by decide +kernel
theorem dX7_feed_38 : decode cX7_feed 38 = .ok (.aload_n 0, 1) := by decide +kernel
theorem dX7_feed_39 : decode cX7_feed 39 = .ok (.dup, 1) := by decide +kernel
theorem dX7_feed_40 : decode cX7_feed 40 = .ok (.getfield 109, 3) := by decide +kernel
theorem dX7_feed_43 : decode cX7_feed 43 = .ok (.iconst 1, 1) := by decide +kernel
theorem dX7_feed_44 : decode cX7_feed 44 = .ok (.iadd, 1) := by decide +kernel
theorem dX7_feed_45 : decode cX7_feed 45 = .ok (.putfield 109, 3) := by decide +kernel
theorem dX7_feed_48 : decode cX7_feed 48 = .ok (.aload_n 0, 1) := by decide +kernel
theorem dX7_feed_49 : decode cX7_feed 49 = .ok (.getfield 109, 3) := by decide +kernel
theorem dX7_feed_52 : decode cX7_feed 52 = .ok (.ireturn, 1) := by decide +kernel
theorem dX7_here_0 : decode cX7_here 0 = .ok (.aload_n 0, 1) := by decide +kernel
theorem dX7_here_1 : decode cX7_here 1 = .ok (.getfield 113, 3) := by decide +kernel
theorem dX7_here_4 : decode cX7_here 4 = .ok (.aload_n 0, 1) := by decide +kernel
theorem dX7_here_5 : decode cX7_here 5 = .ok (.getfield 109, 3) := by decide +kernel
theorem dX7_here_8 : decode cX7_here 8 = .ok (.if_icmp .ge 30, 3) := by decide +kernel
theorem dX7_here_11 : decode cX7_here 11 = .ok (.aload_n 0, 1) := by decide +kernel
theorem dX7_here_12 : decode cX7_here 12 = .ok (.getfield 29, 3) := by decide +kernel
theorem dX7_here_15 : decode cX7_here 15 = .ok (.aload_n 0, 1) := by decide +kernel
theorem dX7_here_16 : decode cX7_here 16 = .ok (.getfield 113, 3) := by decide +kernel
theorem dX7_here_19 : decode cX7_here 19 = .ok (.iaload, 1) := by decide +kernel
theorem dX7_here_20 : decode cX7_here 20 = .ok (.bipush 32, 2) := by decide +kernel
theorem dX7_here_22 : decode cX7_here 22 = .ok (.if_icmp .ne 16, 3) := by decide +kernel
theorem dX7_here_25 : decode cX7_here 25 = .ok (.aload_n 0, 1) := by decide +kernel
theorem dX7_here_26 : decode cX7_here 26 = .ok (.dup, 1) := by decide +kernel
theorem dX7_here_27 : decode cX7_here 27 = .ok (.getfield 113, 3) := by decide +kernel
theorem dX7_here_30 : decode cX7_here 30 = .ok (.iconst 1, 1) := by decide +kernel
theorem dX7_here_31 : decode cX7_here 31 = .ok (.iadd, 1) := by decide +kernel
theorem dX7_here_32 : decode cX7_here 32 = .ok (.putfield 113, 3) := by decide +kernel
theorem dX7_here_35 : decode cX7_here 35 = .ok (.goto (-35), 3) := by decide +kernel
theorem dX7_here_38 : decode cX7_here 38 = .ok (.aload_n 0, 1) := by decide +kernel
theorem dX7_here_39 : decode cX7_here 39 = .ok (.getfield 113, 3) := by decide +kernel
theorem dX7_here_42 : decode cX7_here 42 = .ok (.aload_n 0, 1) := by decide +kernel
theorem dX7_here_43 : decode cX7_here 43 = .ok (.getfield 109, 3) := by decide +kernel
theorem dX7_here_46 : decode cX7_here 46 = .ok (.if_icmp .ge 15, 3) := by decide +kernel
theorem dX7_here_49 : decode cX7_here 49 = .ok (.aload_n 0, 1) := by decide +kernel
theorem dX7_here_50 : decode cX7_here 50 = .ok (.getfield 29, 3) := by decide +kernel
theorem dX7_here_53 : decode cX7_here 53 = .ok (.aload_n 0, 1) := by decide +kernel
theorem dX7_here_54 : decode cX7_here 54 = .ok (.getfield 113, 3) := by decide +kernel
theorem dX7_here_57 : decode cX7_here 57 = .ok (.iaload, 1) := by decide +kernel
theorem dX7_here_58 : decode cX7_here 58 = .ok (.goto 4, 3) := by decide +kernel
theorem dX7_here_61 : decode cX7_here 61 = .ok (.iconst (-1), 1) := by decide +kernel
theorem dX7_here_62 : decode cX7_here 62 = .ok (.ireturn, 1) := by decide +kernel
theorem dX7_fails_0 : decode cX7_fails 0 = .ok (.aload_n 0, 1) := by decide +kernel
theorem dX7_fails_1 : decode cX7_fails 1 = .ok (.iload_n 2, 1) := by decide +kernel
theorem dX7_fails_2 : decode cX7_fails 2 = .ok (.putfield 32, 3) := by decide +kernel
theorem dX7_fails_5 : decode cX7_fails 5 = .ok (.iload_n 1, 1) := by decide +kernel
theorem dX7_fails_6 : decode cX7_fails 6 = .ok (.ireturn, 1) := by decide +kernel
theorem dX7_takeNumber_0 : decode cX7_takeNumber 0 = .ok (.aload_n 0, 1) := by decide +kernel
theorem dX7_takeNumber_1 : decode cX7_takeNumber 1 = .ok (.invokevirtual 116, 3) := by decide +kernel
theorem dX7_takeNumber_4 : decode cX7_takeNumber 4 = .ok (.istore_n 3, 1) := by decide +kernel
theorem dX7_takeNumber_5 : decode cX7_takeNumber 5 = .ok (.iload_n 3, 1) := by decide +kernel
theorem dX7_takeNumber_6 : decode cX7_takeNumber 6 = .ok (.i2l, 1) := by decide +kernel
theorem dX7_takeNumber_7 : decode cX7_takeNumber 7 = .ok (.ldc2_w 120, 3) := by decide +kernel
theorem dX7_takeNumber_10 : decode cX7_takeNumber 10 = .ok (.ldc2_w 122, 3) := by decide +kernel
theorem dX7_takeNumber_13 : decode cX7_takeNumber 13 = .ok (.invokestatic 99, 3) := by decide +kernel
theorem dX7_takeNumber_16 : decode cX7_takeNumber 16 = .ok (.ifCond .ne 13, 3) := by decide +kernel
theorem dX7_takeNumber_19 : decode cX7_takeNumber 19 = .ok (.aload_n 0, 1) := by decide +kernel
theorem dX7_takeNumber_20 : decode cX7_takeNumber 20 = .ok (.iconst 1, 1) := by decide +kernel
theorem dX7_takeNumber_21 : decode cX7_takeNumber 21 = .ok (.aload_n 0, 1) := by decide +kernel
theorem dX7_takeNumber_22 : decode cX7_takeNumber 22 = .ok (.getfield 113, 3) := by decide +kernel
theorem dX7_takeNumber_25 : decode cX7_takeNumber 25 = .ok (.invokevirtual 124, 3) := by decide +kernel
theorem dX7_takeNumber_28 : decode cX7_takeNumber 28 = .ok (.ireturn, 1) := by decide +kernel
theorem dX7_takeNumber_29 : decode cX7_takeNumber 29 = .ok (.aload_n 0, 1) := by decide +kernel
theorem dX7_takeNumber_30 : decode cX7_takeNumber 30 = .ok (.aload_n 0, 1) := by decide +kernel
theorem dX7_takeNumber_31 : decode cX7_takeNumber 31 = .ok (.getfield 113, 3) := by decide +kernel
theorem dX7_takeNumber_34 : decode cX7_takeNumber 34 = .ok (.putfield 128, 3) := by decide +kernel
theorem dX7_takeNumber_37 : decode cX7_takeNumber 37 = .ok (.aload_n 0, 1) := by decide +kernel
theorem dX7_takeNumber_38 : decode cX7_takeNumber 38 = .ok (.iconst 0, 1) := by decide +kernel
theorem dX7_takeNumber_39 : decode cX7_takeNumber 39 = .ok (.putfield 131, 3) := by decide +kernel
theorem dX7_takeNumber_42 : decode cX7_takeNumber 42 = .ok (.aload_n 0, 1) := by decide +kernel
theorem dX7_takeNumber_43 : decode cX7_takeNumber 43 = .ok (.getfield 113, 3) := by decide +kernel
theorem dX7_takeNumber_46 : decode cX7_takeNumber 46 = .ok (.aload_n 0, 1) := by decide +kernel
theorem dX7_takeNumber_47 : decode cX7_takeNumber 47 = .ok (.getfield 109, 3) := by decide +kernel
theorem dX7_takeNumber_50 : decode cX7_takeNumber 50 = .ok (.if_icmp .ge 79, 3) := by decide +kernel
theorem dX7_takeNumber_53 : decode cX7_takeNumber 53 = .ok (.aload_n 0, 1) := by decide +kernel
theorem dX7_takeNumber_54 : decode cX7_takeNumber 54 = .ok (.getfield 29, 3) := by decide +kernel
theorem dX7_takeNumber_57 : decode cX7_takeNumber 57 = .ok (.aload_n 0, 1) := by decide +kernel
theorem dX7_takeNumber_58 : decode cX7_takeNumber 58 = .ok (.getfield 113, 3) := by decide +kernel
theorem dX7_takeNumber_61 : decode cX7_takeNumber 61 = .ok (.iaload, 1) := by decide +kernel
theorem dX7_takeNumber_62 : decode cX7_takeNumber 62 = .ok (.i2l, 1) := by decide +kernel
theorem dX7_takeNumber_63 : decode cX7_takeNumber 63 = .ok (.ldc2_w 120, 3) := by decide +kernel
theorem dX7_takeNumber_66 : decode cX7_takeNumber 66 = .ok (.ldc2_w 122, 3) := by decide +kernel
theorem dX7_takeNumber_69 : decode cX7_takeNumber 69 = .ok (.invokestatic 99, 3) := by decide +kernel
theorem dX7_takeNumber_72 : decode cX7_takeNumber 72 = .ok (.ifCond .eq 57, 3) := by decide +kernel
theorem dX7_takeNumber_75 : decode cX7_takeNumber 75 = .ok (.aload_n 0, 1) := by decide +kernel
theorem dX7_takeNumber_76 : decode cX7_takeNumber 76 = .ok (.aload_n 0, 1) := by decide +kernel
theorem dX7_takeNumber_77 : decode cX7_takeNumber 77 = .ok (.getfield 131, 3) := by decide +kernel
theorem dX7_takeNumber_80 : decode cX7_takeNumber 80 = .ok (.sipush 10000, 3) := by decide +kernel
theorem dX7_takeNumber_83 : decode cX7_takeNumber 83 = .ok (.if_icmp .le 10, 3) := by decide +kernel
theorem dX7_takeNumber_86 : decode cX7_takeNumber 86 = .ok (.aload_n 0, 1) := by decide +kernel
theorem dX7_takeNumber_87 : decode cX7_takeNumber 87 = .ok (.getfield 131, 3) := by decide +kernel
theorem dX7_takeNumber_90 : decode cX7_takeNumber 90 = .ok (.goto 23, 3) := by decide +kernel
theorem dX7_takeNumber_93 : decode cX7_takeNumber 93 = .ok (.bipush 10, 2) := by decide +kernel
theorem dX7_takeNumber_95 : decode cX7_takeNumber 95 = .ok (.aload_n 0, 1) := by decide +kernel
theorem dX7_takeNumber_96 : decode cX7_takeNumber 96 = .ok (.getfield 131, 3) := by decide +kernel
theorem dX7_takeNumber_99 : decode cX7_takeNumber 99 = .ok (.imul, 1) := by decide +kernel
theorem dX7_takeNumber_100 : decode cX7_takeNumber 100 = .ok (.aload_n 0, 1) := by decide +kernel
theorem dX7_takeNumber_101 : decode cX7_takeNumber 101 = .ok (.getfield 29, 3) := by decide +kernel
theorem dX7_takeNumber_104 : decode cX7_takeNumber 104 = .ok (.aload_n 0, 1) := by decide +kernel
theorem dX7_takeNumber_105 : decode cX7_takeNumber 105 = .ok (.getfield 113, 3) := by decide +kernel
theorem dX7_takeNumber_108 : decode cX7_takeNumber 108 = .ok (.iaload, 1) := by decide +kernel
theorem dX7_takeNumber_109 : decode cX7_takeNumber 109 = .ok (.iadd, 1) := by decide +kernel
theorem dX7_takeNumber_110 : decode cX7_takeNumber 110 = .ok (.bipush 48, 2) := by decide +kernel
theorem dX7_takeNumber_112 : decode cX7_takeNumber 112 = .ok (.isub, 1) := by decide +kernel
theorem dX7_takeNumber_113 : decode cX7_takeNumber 113 = .ok (.putfield 131, 3) := by decide +kernel
theorem dX7_takeNumber_116 : decode cX7_takeNumber 116 = .ok (.aload_n 0, 1) := by decide +kernel
theorem dX7_takeNumber_117 : decode cX7_takeNumber 117 = .ok (.dup, 1) := by decide +kernel
theorem dX7_takeNumber_118 : decode cX7_takeNumber 118 = .ok (.getfield 113, 3) := by decide +kernel
theorem dX7_takeNumber_121 : decode cX7_takeNumber 121 = .ok (.iconst 1, 1) := by decide +kernel
theorem dX7_takeNumber_122 : decode cX7_takeNumber 122 = .ok (.iadd, 1) := by decide +kernel
theorem dX7_takeNumber_123 : decode cX7_takeNumber 123 = .ok (.putfield 113, 3) := by decide +kernel
theorem dX7_takeNumber_126 : decode cX7_takeNumber 126 = .ok (.goto (-84), 3) := by decide +kernel
theorem dX7_takeNumber_129 : decode cX7_takeNumber 129 = .ok (.aload_n 0, 1) := by decide +kernel
theorem dX7_takeNumber_130 : decode cX7_takeNumber 130 = .ok (.getfield 113, 3) := by decide +kernel
theorem dX7_takeNumber_133 : decode cX7_takeNumber 133 = .ok (.aload_n 0, 1) := by decide +kernel
theorem dX7_takeNumber_134 : decode cX7_takeNumber 134 = .ok (.getfield 128, 3) := by decide +kernel
theorem dX7_takeNumber_137 : decode cX7_takeNumber 137 = .ok (.isub, 1) := by decide +kernel
theorem dX7_takeNumber_138 : decode cX7_takeNumber 138 = .ok (.iconst 3, 1) := by decide +kernel
theorem dX7_takeNumber_139 : decode cX7_takeNumber 139 = .ok (.if_icmp .gt 18, 3) := by decide +kernel
theorem dX7_takeNumber_142 : decode cX7_takeNumber 142 = .ok (.aload_n 0, 1) := by decide +kernel
theorem dX7_takeNumber_143 : decode cX7_takeNumber 143 = .ok (.getfield 131, 3) := by decide +kernel
theorem dX7_takeNumber_146 : decode cX7_takeNumber 146 = .ok (.i2l, 1) := by decide +kernel
theorem dX7_takeNumber_147 : decode cX7_takeNumber 147 = .ok (.iload_n 1, 1) := by decide +kernel
theorem dX7_takeNumber_148 : decode cX7_takeNumber 148 = .ok (.i2l, 1) := by decide +kernel
theorem dX7_takeNumber_149 : decode cX7_takeNumber 149 = .ok (.iload_n 2, 1) := by decide +kernel
theorem dX7_takeNumber_150 : decode cX7_takeNumber 150 = .ok (.i2l, 1) := by decide +kernel
theorem dX7_takeNumber_151 : decode cX7_takeNumber 151 = .ok (.invokestatic 99, 3) := by decide +kernel
theorem dX7_takeNumber_154 : decode cX7_takeNumber 154 = .ok (.ifCond .ne 15, 3) := by decide +kernel
theorem dX7_takeNumber_157 : decode cX7_takeNumber 157 = .ok (.aload_n 0, 1) := by decide +kernel
theorem dX7_takeNumber_158 : decode cX7_takeNumber 158 = .ok (.iconst 2, 1) := by decide +kernel
theorem dX7_takeNumber_159 : decode cX7_takeNumber 159 = .ok (.aload_n 0, 1) := by decide +kernel
theorem dX7_takeNumber_160 : decode cX7_takeNumber 160 = .ok (.getfield 128, 3) := by decide +kernel
theorem dX7_takeNumber_163 : decode cX7_takeNumber 163 = .ok (.invokevirtual 124, 3) := by decide +kernel
theorem dX7_takeNumber_166 : decode cX7_takeNumber 166 = .ok (.goto 4, 3) := by decide +kernel
theorem dX7_takeNumber_169 : decode cX7_takeNumber 169 = .ok (.iconst 0, 1) := by decide +kernel
theorem dX7_takeNumber_170 : decode cX7_takeNumber 170 = .ok (.ireturn, 1) := by decide +kernel
theorem dX7_into_0 : decode cX7_into 0 = .ok (.aload_n 0, 1) := by decide +kernel
theorem dX7_into_1 : decode cX7_into 1 = .ok (.iload_n 3, 1) := by decide +kernel
theorem dX7_into_2 : decode cX7_into 2 = .ok (.iload 4, 2) := by decide +kernel
theorem dX7_into_4 : decode cX7_into 4 = .ok (.invokevirtual 134, 3) := by decide +kernel
theorem dX7_into_7 : decode cX7_into 7 = .ok (.istore 5, 2) := by decide +kernel
theorem dX7_into_9 : decode cX7_into 9 = .ok (.aload_n 1, 1) := by decide +kernel
theorem dX7_into_10 : decode cX7_into 10 = .ok (.iload_n 2, 1) := by decide +kernel
theorem dX7_into_11 : decode cX7_into 11 = .ok (.aload_n 0, 1) := by decide +kernel
theorem dX7_into_12 : decode cX7_into 12 = .ok (.getfield 131, 3) := by decide +kernel
theorem dX7_into_15 : decode cX7_into 15 = .ok (.iastore, 1) := by decide +kernel
theorem dX7_into_16 : decode cX7_into 16 = .ok (.iload 5, 2) := by decide +kernel
theorem dX7_into_18 : decode cX7_into 18 = .ok (.ireturn, 1) := by decide +kernel
theorem dX7_takeTreaty_0 : decode cX7_takeTreaty 0 = .ok (.aload_n 0, 1) := by decide +kernel
theorem dX7_takeTreaty_1 : decode cX7_takeTreaty 1 = .ok (.aload_n 0, 1) := by decide +kernel
theorem dX7_takeTreaty_2 : decode cX7_takeTreaty 2 = .ok (.getfield 35, 3) := by decide +kernel
theorem dX7_takeTreaty_5 : decode cX7_takeTreaty 5 = .ok (.iconst 0, 1) := by decide +kernel
theorem dX7_takeTreaty_6 : decode cX7_takeTreaty 6 = .ok (.iconst 1, 1) := by decide +kernel
theorem dX7_takeTreaty_7 : decode cX7_takeTreaty 7 = .ok (.iconst 4, 1) := by decide +kernel
theorem dX7_takeTreaty_8 : decode cX7_takeTreaty 8 = .ok (.invokevirtual 137, 3) := by decide +kernel
theorem dX7_takeTreaty_11 : decode cX7_takeTreaty 11 = .ok (.istore_n 1, 1) := by decide +kernel
theorem dX7_takeTreaty_12 : decode cX7_takeTreaty 12 = .ok (.iload_n 1, 1) := by decide +kernel
theorem dX7_takeTreaty_13 : decode cX7_takeTreaty 13 = .ok (.ifCond .le 7, 3) := by decide +kernel
theorem dX7_takeTreaty_16 : decode cX7_takeTreaty 16 = .ok (.iload_n 1, 1) := by decide +kernel
theorem dX7_takeTreaty_17 : decode cX7_takeTreaty 17 = .ok (.goto 15, 3) := by decide +kernel
theorem dX7_takeTreaty_20 : decode cX7_takeTreaty 20 = .ok (.aload_n 0, 1) := by decide +kernel
theorem dX7_takeTreaty_21 : decode cX7_takeTreaty 21 = .ok (.aload_n 0, 1) := by decide +kernel
theorem dX7_takeTreaty_22 : decode cX7_takeTreaty 22 = .ok (.getfield 35, 3) := by decide +kernel
theorem dX7_takeTreaty_25 : decode cX7_takeTreaty 25 = .ok (.iconst 1, 1) := by decide +kernel
theorem dX7_takeTreaty_26 : decode cX7_takeTreaty 26 = .ok (.iconst 1, 1) := by decide +kernel
theorem dX7_takeTreaty_27 : decode cX7_takeTreaty 27 = .ok (.bipush 30, 2) := by decide +kernel
theorem dX7_takeTreaty_29 : decode cX7_takeTreaty 29 = .ok (.invokevirtual 137, 3) := by decide +kernel
theorem dX7_takeTreaty_32 : decode cX7_takeTreaty 32 = .ok (.istore_n 1, 1) := by decide +kernel
theorem dX7_takeTreaty_33 : decode cX7_takeTreaty 33 = .ok (.iload_n 1, 1) := by decide +kernel
theorem dX7_takeTreaty_34 : decode cX7_takeTreaty 34 = .ok (.ifCond .le 7, 3) := by decide +kernel
theorem dX7_takeTreaty_37 : decode cX7_takeTreaty 37 = .ok (.iload_n 1, 1) := by decide +kernel
theorem dX7_takeTreaty_38 : decode cX7_takeTreaty 38 = .ok (.goto 15, 3) := by decide +kernel
theorem dX7_takeTreaty_41 : decode cX7_takeTreaty 41 = .ok (.aload_n 0, 1) := by decide +kernel
theorem dX7_takeTreaty_42 : decode cX7_takeTreaty 42 = .ok (.aload_n 0, 1) := by decide +kernel
theorem dX7_takeTreaty_43 : decode cX7_takeTreaty 43 = .ok (.getfield 35, 3) := by decide +kernel
theorem dX7_takeTreaty_46 : decode cX7_takeTreaty 46 = .ok (.iconst 2, 1) := by decide +kernel
theorem dX7_takeTreaty_47 : decode cX7_takeTreaty 47 = .ok (.iconst 1, 1) := by decide +kernel
theorem dX7_takeTreaty_48 : decode cX7_takeTreaty 48 = .ok (.bipush 30, 2) := by decide +kernel
theorem dX7_takeTreaty_50 : decode cX7_takeTreaty 50 = .ok (.invokevirtual 137, 3) := by decide +kernel
theorem dX7_takeTreaty_53 : decode cX7_takeTreaty 53 = .ok (.ireturn, 1) := by decide +kernel
theorem dX7_takeBarn_0 : decode cX7_takeBarn 0 = .ok (.aload_n 0, 1) := by decide +kernel
theorem dX7_takeBarn_1 : decode cX7_takeBarn 1 = .ok (.getfield 141, 3) := by decide +kernel
theorem dX7_takeBarn_4 : decode cX7_takeBarn 4 = .ok (.istore_n 1, 1) := by decide +kernel
theorem dX7_takeBarn_5 : decode cX7_takeBarn 5 = .ok (.aload_n 0, 1) := by decide +kernel
theorem dX7_takeBarn_6 : decode cX7_takeBarn 6 = .ok (.dup, 1) := by decide +kernel
theorem dX7_takeBarn_7 : decode cX7_takeBarn 7 = .ok (.getfield 141, 3) := by decide +kernel
theorem dX7_takeBarn_10 : decode cX7_takeBarn 10 = .ok (.iconst 1, 1) := by decide +kernel
theorem dX7_takeBarn_11 : decode cX7_takeBarn 11 = .ok (.iadd, 1) := by decide +kernel
theorem dX7_takeBarn_12 : decode cX7_takeBarn 12 = .ok (.putfield 141, 3) := by decide +kernel
theorem dX7_takeBarn_15 : decode cX7_takeBarn 15 = .ok (.aload_n 0, 1) := by decide +kernel
theorem dX7_takeBarn_16 : decode cX7_takeBarn 16 = .ok (.aload_n 0, 1) := by decide +kernel
theorem dX7_takeBarn_17 : decode cX7_takeBarn 17 = .ok (.getfield 38, 3) := by decide +kernel
theorem dX7_takeBarn_20 : decode cX7_takeBarn 20 = .ok (.iload_n 1, 1) := by decide +kernel
theorem dX7_takeBarn_21 : decode cX7_takeBarn 21 = .ok (.iconst 0, 1) := by decide +kernel
theorem dX7_takeBarn_22 : decode cX7_takeBarn 22 = .ok (.aload_n 0, 1) := by decide +kernel
theorem dX7_takeBarn_23 : decode cX7_takeBarn 23 = .ok (.getfield 35, 3) := by decide +kernel
theorem dX7_takeBarn_26 : decode cX7_takeBarn 26 = .ok (.iconst 0, 1) := by decide +kernel
theorem dX7_takeBarn_27 : decode cX7_takeBarn 27 = .ok (.iaload, 1) := by decide +kernel
theorem dX7_takeBarn_28 : decode cX7_takeBarn 28 = .ok (.iconst 1, 1) := by decide +kernel
theorem dX7_takeBarn_29 : decode cX7_takeBarn 29 = .ok (.isub, 1) := by decide +kernel
theorem dX7_takeBarn_30 : decode cX7_takeBarn 30 = .ok (.invokevirtual 137, 3) := by decide +kernel
theorem dX7_takeBarn_33 : decode cX7_takeBarn 33 = .ok (.istore_n 2, 1) := by decide +kernel
theorem dX7_takeBarn_34 : decode cX7_takeBarn 34 = .ok (.iload_n 2, 1) := by decide +kernel
theorem dX7_takeBarn_35 : decode cX7_takeBarn 35 = .ok (.ifCond .le 7, 3) := by decide +kernel
theorem dX7_takeBarn_38 : decode cX7_takeBarn 38 = .ok (.iload_n 2, 1) := by decide +kernel
theorem dX7_takeBarn_39 : decode cX7_takeBarn 39 = .ok (.goto 15, 3) := by decide +kernel
theorem dX7_takeBarn_42 : decode cX7_takeBarn 42 = .ok (.aload_n 0, 1) := by decide +kernel
theorem dX7_takeBarn_43 : decode cX7_takeBarn 43 = .ok (.aload_n 0, 1) := by decide +kernel
theorem dX7_takeBarn_44 : decode cX7_takeBarn 44 = .ok (.getfield 41, 3) := by decide +kernel
theorem dX7_takeBarn_47 : decode cX7_takeBarn 47 = .ok (.iload_n 1, 1) := by decide +kernel
theorem dX7_takeBarn_48 : decode cX7_takeBarn 48 = .ok (.iconst 0, 1) := by decide +kernel
theorem dX7_takeBarn_49 : decode cX7_takeBarn 49 = .ok (.bipush 40, 2) := by decide +kernel
theorem dX7_takeBarn_51 : decode cX7_takeBarn 51 = .ok (.invokevirtual 137, 3) := by decide +kernel
theorem dX7_takeBarn_54 : decode cX7_takeBarn 54 = .ok (.istore_n 2, 1) := by decide +kernel
theorem dX7_takeBarn_55 : decode cX7_takeBarn 55 = .ok (.iload_n 2, 1) := by decide +kernel
theorem dX7_takeBarn_56 : decode cX7_takeBarn 56 = .ok (.ifCond .le 7, 3) := by decide +kernel
theorem dX7_takeBarn_59 : decode cX7_takeBarn 59 = .ok (.iload_n 2, 1) := by decide +kernel
theorem dX7_takeBarn_60 : decode cX7_takeBarn 60 = .ok (.goto 15, 3) := by decide +kernel
theorem dX7_takeBarn_63 : decode cX7_takeBarn 63 = .ok (.aload_n 0, 1) := by decide +kernel
theorem dX7_takeBarn_64 : decode cX7_takeBarn 64 = .ok (.aload_n 0, 1) := by decide +kernel
theorem dX7_takeBarn_65 : decode cX7_takeBarn 65 = .ok (.getfield 44, 3) := by decide +kernel
theorem dX7_takeBarn_68 : decode cX7_takeBarn 68 = .ok (.iload_n 1, 1) := by decide +kernel
theorem dX7_takeBarn_69 : decode cX7_takeBarn 69 = .ok (.iconst 0, 1) := by decide +kernel
theorem dX7_takeBarn_70 : decode cX7_takeBarn 70 = .ok (.bipush 40, 2) := by decide +kernel
theorem dX7_takeBarn_72 : decode cX7_takeBarn 72 = .ok (.invokevirtual 137, 3) := by decide +kernel
theorem dX7_takeBarn_75 : decode cX7_takeBarn 75 = .ok (.istore_n 2, 1) := by decide +kernel
theorem dX7_takeBarn_76 : decode cX7_takeBarn 76 = .ok (.iload_n 2, 1) := by decide +kernel
theorem dX7_takeBarn_77 : decode cX7_takeBarn 77 = .ok (.ifCond .ne 28, 3) := by decide +kernel
theorem dX7_takeBarn_80 : decode cX7_takeBarn 80 = .ok (.aload_n 0, 1) := by decide +kernel
theorem dX7_takeBarn_81 : decode cX7_takeBarn 81 = .ok (.getfield 44, 3) := by decide +kernel
theorem dX7_takeBarn_84 : decode cX7_takeBarn 84 = .ok (.iload_n 1, 1) := by decide +kernel
theorem dX7_takeBarn_85 : decode cX7_takeBarn 85 = .ok (.iaload, 1) := by decide +kernel
theorem dX7_takeBarn_86 : decode cX7_takeBarn 86 = .ok (.aload_n 0, 1) := by decide +kernel
theorem dX7_takeBarn_87 : decode cX7_takeBarn 87 = .ok (.getfield 41, 3) := by decide +kernel
theorem dX7_takeBarn_90 : decode cX7_takeBarn 90 = .ok (.iload_n 1, 1) := by decide +kernel
theorem dX7_takeBarn_91 : decode cX7_takeBarn 91 = .ok (.iaload, 1) := by decide +kernel
theorem dX7_takeBarn_92 : decode cX7_takeBarn 92 = .ok (.if_icmp .le 13, 3) := by decide +kernel
theorem dX7_takeBarn_95 : decode cX7_takeBarn 95 = .ok (.aload_n 0, 1) := by decide +kernel
theorem dX7_takeBarn_96 : decode cX7_takeBarn 96 = .ok (.iconst 4, 1) := by decide +kernel
theorem dX7_takeBarn_97 : decode cX7_takeBarn 97 = .ok (.aload_n 0, 1) := by decide +kernel
theorem dX7_takeBarn_98 : decode cX7_takeBarn 98 = .ok (.getfield 128, 3) := by decide +kernel
theorem dX7_takeBarn_101 : decode cX7_takeBarn 101 = .ok (.invokevirtual 124, 3) := by decide +kernel
theorem dX7_takeBarn_104 : decode cX7_takeBarn 104 = .ok (.ireturn, 1) := by decide +kernel
theorem dX7_takeBarn_105 : decode cX7_takeBarn 105 = .ok (.iload_n 2, 1) := by decide +kernel
theorem dX7_takeBarn_106 : decode cX7_takeBarn 106 = .ok (.ifCond .le 7, 3) := by decide +kernel
theorem dX7_takeBarn_109 : decode cX7_takeBarn 109 = .ok (.iload_n 2, 1) := by decide +kernel
theorem dX7_takeBarn_110 : decode cX7_takeBarn 110 = .ok (.goto 15, 3) := by decide +kernel
theorem dX7_takeBarn_113 : decode cX7_takeBarn 113 = .ok (.aload_n 0, 1) := by decide +kernel
theorem dX7_takeBarn_114 : decode cX7_takeBarn 114 = .ok (.aload_n 0, 1) := by decide +kernel
theorem dX7_takeBarn_115 : decode cX7_takeBarn 115 = .ok (.getfield 47, 3) := by decide +kernel
theorem dX7_takeBarn_118 : decode cX7_takeBarn 118 = .ok (.iload_n 1, 1) := by decide +kernel
theorem dX7_takeBarn_119 : decode cX7_takeBarn 119 = .ok (.iconst 0, 1) := by decide +kernel
theorem dX7_takeBarn_120 : decode cX7_takeBarn 120 = .ok (.bipush 9, 2) := by decide +kernel
theorem dX7_takeBarn_122 : decode cX7_takeBarn 122 = .ok (.invokevirtual 137, 3) := by decide +kernel
theorem dX7_takeBarn_125 : decode cX7_takeBarn 125 = .ok (.istore_n 2, 1) := by decide +kernel
theorem dX7_takeBarn_126 : decode cX7_takeBarn 126 = .ok (.iload_n 2, 1) := by decide +kernel
theorem dX7_takeBarn_127 : decode cX7_takeBarn 127 = .ok (.ifCond .le 7, 3) := by decide +kernel
theorem dX7_takeBarn_130 : decode cX7_takeBarn 130 = .ok (.iload_n 2, 1) := by decide +kernel
theorem dX7_takeBarn_131 : decode cX7_takeBarn 131 = .ok (.goto 14, 3) := by decide +kernel
theorem dX7_takeBarn_134 : decode cX7_takeBarn 134 = .ok (.aload_n 0, 1) := by decide +kernel
theorem dX7_takeBarn_135 : decode cX7_takeBarn 135 = .ok (.aload_n 0, 1) := by decide +kernel
theorem dX7_takeBarn_136 : decode cX7_takeBarn 136 = .ok (.getfield 50, 3) := by decide +kernel
theorem dX7_takeBarn_139 : decode cX7_takeBarn 139 = .ok (.iload_n 1, 1) := by decide +kernel
theorem dX7_takeBarn_140 : decode cX7_takeBarn 140 = .ok (.iconst 0, 1) := by decide +kernel
theorem dX7_takeBarn_141 : decode cX7_takeBarn 141 = .ok (.iconst 3, 1) := by decide +kernel
theorem dX7_takeBarn_142 : decode cX7_takeBarn 142 = .ok (.invokevirtual 137, 3) := by decide +kernel
theorem dX7_takeBarn_145 : decode cX7_takeBarn 145 = .ok (.ireturn, 1) := by decide +kernel
theorem dX7_takeRains_0 : decode cX7_takeRains 0 = .ok (.aload_n 0, 1) := by decide +kernel
theorem dX7_takeRains_1 : decode cX7_takeRains 1 = .ok (.aload_n 0, 1) := by decide +kernel
theorem dX7_takeRains_2 : decode cX7_takeRains 2 = .ok (.getfield 53, 3) := by decide +kernel
theorem dX7_takeRains_5 : decode cX7_takeRains 5 = .ok (.iconst 0, 1) := by decide +kernel
theorem dX7_takeRains_6 : decode cX7_takeRains 6 = .ok (.iconst 0, 1) := by decide +kernel
theorem dX7_takeRains_7 : decode cX7_takeRains 7 = .ok (.bipush 9, 2) := by decide +kernel
theorem dX7_takeRains_9 : decode cX7_takeRains 9 = .ok (.invokevirtual 137, 3) := by decide +kernel
theorem dX7_takeRains_12 : decode cX7_takeRains 12 = .ok (.istore_n 1, 1) := by decide +kernel
theorem dX7_takeRains_13 : decode cX7_takeRains 13 = .ok (.aload_n 0, 1) := by decide +kernel
theorem dX7_takeRains_14 : decode cX7_takeRains 14 = .ok (.iconst 1, 1) := by decide +kernel
theorem dX7_takeRains_15 : decode cX7_takeRains 15 = .ok (.putfield 144, 3) := by decide +kernel
theorem dX7_takeRains_18 : decode cX7_takeRains 18 = .ok (.iload_n 1, 1) := by decide +kernel
theorem dX7_takeRains_19 : decode cX7_takeRains 19 = .ok (.ifCond .ne 70, 3) := by decide +kernel
theorem dX7_takeRains_22 : decode cX7_takeRains 22 = .ok (.aload_n 0, 1) := by decide +kernel
theorem dX7_takeRains_23 : decode cX7_takeRains 23 = .ok (.invokevirtual 116, 3) := by decide +kernel
theorem dX7_takeRains_26 : decode cX7_takeRains 26 = .ok (.bipush 44, 2) := by decide +kernel
theorem dX7_takeRains_28 : decode cX7_takeRains 28 = .ok (.if_icmp .ne 61, 3) := by decide +kernel
theorem dX7_takeRains_31 : decode cX7_takeRains 31 = .ok (.aload_n 0, 1) := by decide +kernel
theorem dX7_takeRains_32 : decode cX7_takeRains 32 = .ok (.getfield 144, 3) := by decide +kernel
theorem dX7_takeRains_35 : decode cX7_takeRains 35 = .ok (.bipush 8, 2) := by decide +kernel
theorem dX7_takeRains_37 : decode cX7_takeRains 37 = .ok (.if_icmp .ne 13, 3) := by decide +kernel
theorem dX7_takeRains_40 : decode cX7_takeRains 40 = .ok (.aload_n 0, 1) := by decide +kernel
theorem dX7_takeRains_41 : decode cX7_takeRains 41 = .ok (.iconst 1, 1) := by decide +kernel
theorem dX7_takeRains_42 : decode cX7_takeRains 42 = .ok (.aload_n 0, 1) := by decide +kernel
theorem dX7_takeRains_43 : decode cX7_takeRains 43 = .ok (.getfield 113, 3) := by decide +kernel
theorem dX7_takeRains_46 : decode cX7_takeRains 46 = .ok (.invokevirtual 124, 3) := by decide +kernel
theorem dX7_takeRains_49 : decode cX7_takeRains 49 = .ok (.ireturn, 1) := by decide +kernel
theorem dX7_takeRains_50 : decode cX7_takeRains 50 = .ok (.aload_n 0, 1) := by decide +kernel
theorem dX7_takeRains_51 : decode cX7_takeRains 51 = .ok (.dup, 1) := by decide +kernel
theorem dX7_takeRains_52 : decode cX7_takeRains 52 = .ok (.getfield 113, 3) := by decide +kernel
theorem dX7_takeRains_55 : decode cX7_takeRains 55 = .ok (.iconst 1, 1) := by decide +kernel
theorem dX7_takeRains_56 : decode cX7_takeRains 56 = .ok (.iadd, 1) := by decide +kernel
theorem dX7_takeRains_57 : decode cX7_takeRains 57 = .ok (.putfield 113, 3) := by decide +kernel
theorem dX7_takeRains_60 : decode cX7_takeRains 60 = .ok (.aload_n 0, 1) := by decide +kernel
theorem dX7_takeRains_61 : decode cX7_takeRains 61 = .ok (.aload_n 0, 1) := by decide +kernel
theorem dX7_takeRains_62 : decode cX7_takeRains 62 = .ok (.getfield 53, 3) := by decide +kernel
theorem dX7_takeRains_65 : decode cX7_takeRains 65 = .ok (.aload_n 0, 1) := by decide +kernel
theorem dX7_takeRains_66 : decode cX7_takeRains 66 = .ok (.getfield 144, 3) := by decide +kernel
theorem dX7_takeRains_69 : decode cX7_takeRains 69 = .ok (.iconst 0, 1) := by decide +kernel
theorem dX7_takeRains_70 : decode cX7_takeRains 70 = .ok (.bipush 9, 2) := by decide +kernel
theorem dX7_takeRains_72 : decode cX7_takeRains 72 = .ok (.invokevirtual 137, 3) := by decide +kernel
theorem dX7_takeRains_75 : decode cX7_takeRains 75 = .ok (.istore_n 1, 1) := by decide +kernel
theorem dX7_takeRains_76 : decode cX7_takeRains 76 = .ok (.aload_n 0, 1) := by decide +kernel
theorem dX7_takeRains_77 : decode cX7_takeRains 77 = .ok (.dup, 1) := by decide +kernel
theorem dX7_takeRains_78 : decode cX7_takeRains 78 = .ok (.getfield 144, 3) := by decide +kernel
theorem dX7_takeRains_81 : decode cX7_takeRains 81 = .ok (.iconst 1, 1) := by decide +kernel
theorem dX7_takeRains_82 : decode cX7_takeRains 82 = .ok (.iadd, 1) := by decide +kernel
theorem dX7_takeRains_83 : decode cX7_takeRains 83 = .ok (.putfield 144, 3) := by decide +kernel
theorem dX7_takeRains_86 : decode cX7_takeRains 86 = .ok (.goto (-68), 3) := by decide +kernel
theorem dX7_takeRains_89 : decode cX7_takeRains 89 = .ok (.iload_n 1, 1) := by decide +kernel
theorem dX7_takeRains_90 : decode cX7_takeRains 90 = .ok (.ireturn, 1) := by decide +kernel
theorem dX7_takeClause_0 : decode cX7_takeClause 0 = .ok (.aload_n 0, 1) := by decide +kernel
theorem dX7_takeClause_1 : decode cX7_takeClause 1 = .ok (.invokevirtual 116, 3) := by decide +kernel
theorem dX7_takeClause_4 : decode cX7_takeClause 4 = .ok (.istore_n 1, 1) := by decide +kernel
theorem dX7_takeClause_5 : decode cX7_takeClause 5 = .ok (.iload_n 1, 1) := by decide +kernel
theorem dX7_takeClause_6 : decode cX7_takeClause 6 = .ok (.bipush 116, 2) := by decide +kernel
theorem dX7_takeClause_8 : decode cX7_takeClause 8 = .ok (.if_icmp .ne 7, 3) := by decide +kernel
theorem dX7_takeClause_11 : decode cX7_takeClause 11 = .ok (.iconst 0, 1) := by decide +kernel
theorem dX7_takeClause_12 : decode cX7_takeClause 12 = .ok (.goto 24, 3) := by decide +kernel
theorem dX7_takeClause_15 : decode cX7_takeClause 15 = .ok (.iload_n 1, 1) := by decide +kernel
theorem dX7_takeClause_16 : decode cX7_takeClause 16 = .ok (.bipush 98, 2) := by decide +kernel
theorem dX7_takeClause_18 : decode cX7_takeClause 18 = .ok (.if_icmp .ne 7, 3) := by decide +kernel
theorem dX7_takeClause_21 : decode cX7_takeClause 21 = .ok (.iconst 1, 1) := by decide +kernel
theorem dX7_takeClause_22 : decode cX7_takeClause 22 = .ok (.goto 14, 3) := by decide +kernel
theorem dX7_takeClause_25 : decode cX7_takeClause 25 = .ok (.iload_n 1, 1) := by decide +kernel
theorem dX7_takeClause_26 : decode cX7_takeClause 26 = .ok (.bipush 119, 2) := by decide +kernel
theorem dX7_takeClause_28 : decode cX7_takeClause 28 = .ok (.if_icmp .ne 7, 3) := by decide +kernel
theorem dX7_takeClause_31 : decode cX7_takeClause 31 = .ok (.iconst 2, 1) := by decide +kernel
theorem dX7_takeClause_32 : decode cX7_takeClause 32 = .ok (.goto 4, 3) := by decide +kernel
theorem dX7_takeClause_35 : decode cX7_takeClause 35 = .ok (.iconst (-1), 1) := by decide +kernel
theorem dX7_takeClause_36 : decode cX7_takeClause 36 = .ok (.istore_n 2, 1) := by decide +kernel
theorem dX7_takeClause_37 : decode cX7_takeClause 37 = .ok (.iload_n 2, 1) := by decide +kernel
theorem dX7_takeClause_38 : decode cX7_takeClause 38 = .ok (.ifCond .lt 16, 3) := by decide +kernel
theorem dX7_takeClause_41 : decode cX7_takeClause 41 = .ok (.iload_n 2, 1) := by decide +kernel
theorem dX7_takeClause_42 : decode cX7_takeClause 42 = .ok (.ifCond .le 22, 3) := by decide +kernel
theorem dX7_takeClause_45 : decode cX7_takeClause 45 = .ok (.aload_n 0, 1) := by decide +kernel
theorem dX7_takeClause_46 : decode cX7_takeClause 46 = .ok (.getfield 35, 3) := by decide +kernel
theorem dX7_takeClause_49 : decode cX7_takeClause 49 = .ok (.iconst 0, 1) := by decide +kernel
theorem dX7_takeClause_50 : decode cX7_takeClause 50 = .ok (.iaload, 1) := by decide +kernel
theorem dX7_takeClause_51 : decode cX7_takeClause 51 = .ok (.ifCond .ne 13, 3) := by decide +kernel
theorem dX7_takeClause_54 : decode cX7_takeClause 54 = .ok (.aload_n 0, 1) := by decide +kernel
theorem dX7_takeClause_55 : decode cX7_takeClause 55 = .ok (.iconst 1, 1) := by decide +kernel
theorem dX7_takeClause_56 : decode cX7_takeClause 56 = .ok (.aload_n 0, 1) := by decide +kernel
theorem dX7_takeClause_57 : decode cX7_takeClause 57 = .ok (.getfield 113, 3) := by decide +kernel
theorem dX7_takeClause_60 : decode cX7_takeClause 60 = .ok (.invokevirtual 124, 3) := by decide +kernel
theorem dX7_takeClause_63 : decode cX7_takeClause 63 = .ok (.ireturn, 1) := by decide +kernel
theorem dX7_takeClause_64 : decode cX7_takeClause 64 = .ok (.iload_n 2, 1) := by decide +kernel
theorem dX7_takeClause_65 : decode cX7_takeClause 65 = .ok (.ifCond .ne 20, 3) := by decide +kernel
theorem dX7_takeClause_68 : decode cX7_takeClause 68 = .ok (.aload_n 0, 1) := by decide +kernel
theorem dX7_takeClause_69 : decode cX7_takeClause 69 = .ok (.getfield 35, 3) := by decide +kernel
theorem dX7_takeClause_72 : decode cX7_takeClause 72 = .ok (.iconst 0, 1) := by decide +kernel
theorem dX7_takeClause_73 : decode cX7_takeClause 73 = .ok (.iaload, 1) := by decide +kernel
theorem dX7_takeClause_74 : decode cX7_takeClause 74 = .ok (.ifCond .le 7, 3) := by decide +kernel
theorem dX7_takeClause_77 : decode cX7_takeClause 77 = .ok (.iconst 1, 1) := by decide +kernel
theorem dX7_takeClause_78 : decode cX7_takeClause 78 = .ok (.goto 41, 3) := by decide +kernel
theorem dX7_takeClause_81 : decode cX7_takeClause 81 = .ok (.iconst 0, 1) := by decide +kernel
theorem dX7_takeClause_82 : decode cX7_takeClause 82 = .ok (.goto 37, 3) := by decide +kernel
theorem dX7_takeClause_85 : decode cX7_takeClause 85 = .ok (.iload_n 2, 1) := by decide +kernel
theorem dX7_takeClause_86 : decode cX7_takeClause 86 = .ok (.iconst 1, 1) := by decide +kernel
theorem dX7_takeClause_87 : decode cX7_takeClause 87 = .ok (.if_icmp .ne 20, 3) := by decide +kernel
theorem dX7_takeClause_90 : decode cX7_takeClause 90 = .ok (.aload_n 0, 1) := by decide +kernel
theorem dX7_takeClause_91 : decode cX7_takeClause 91 = .ok (.getfield 141, 3) := by decide +kernel
theorem dX7_takeClause_94 : decode cX7_takeClause 94 = .ok (.bipush 8, 2) := by decide +kernel
theorem dX7_takeClause_96 : decode cX7_takeClause 96 = .ok (.if_icmp .ne 7, 3) := by decide +kernel
theorem dX7_takeClause_99 : decode cX7_takeClause 99 = .ok (.iconst 1, 1) := by decide +kernel
theorem dX7_takeClause_100 : decode cX7_takeClause 100 = .ok (.goto 19, 3) := by decide +kernel
theorem dX7_takeClause_103 : decode cX7_takeClause 103 = .ok (.iconst 0, 1) := by decide +kernel
theorem dX7_takeClause_104 : decode cX7_takeClause 104 = .ok (.goto 15, 3) := by decide +kernel
theorem dX7_takeClause_107 : decode cX7_takeClause 107 = .ok (.aload_n 0, 1) := by decide +kernel
theorem dX7_takeClause_108 : decode cX7_takeClause 108 = .ok (.getfield 144, 3) := by decide +kernel
theorem dX7_takeClause_111 : decode cX7_takeClause 111 = .ok (.ifCond .le 7, 3) := by decide +kernel
theorem dX7_takeClause_114 : decode cX7_takeClause 114 = .ok (.iconst 1, 1) := by decide +kernel
theorem dX7_takeClause_115 : decode cX7_takeClause 115 = .ok (.goto 4, 3) := by decide +kernel
theorem dX7_takeClause_118 : decode cX7_takeClause 118 = .ok (.iconst 0, 1) := by decide +kernel
theorem dX7_takeClause_119 : decode cX7_takeClause 119 = .ok (.istore_n 3, 1) := by decide +kernel
theorem dX7_takeClause_120 : decode cX7_takeClause 120 = .ok (.iload_n 3, 1) := by decide +kernel
theorem dX7_takeClause_121 : decode cX7_takeClause 121 = .ok (.ifCond .eq 13, 3) := by decide +kernel
theorem dX7_takeClause_124 : decode cX7_takeClause 124 = .ok (.aload_n 0, 1) := by decide +kernel
theorem dX7_takeClause_125 : decode cX7_takeClause 125 = .ok (.iconst 3, 1) := by decide +kernel
theorem dX7_takeClause_126 : decode cX7_takeClause 126 = .ok (.aload_n 0, 1) := by decide +kernel
theorem dX7_takeClause_127 : decode cX7_takeClause 127 = .ok (.getfield 113, 3) := by decide +kernel
theorem dX7_takeClause_130 : decode cX7_takeClause 130 = .ok (.invokevirtual 124, 3) := by decide +kernel
theorem dX7_takeClause_133 : decode cX7_takeClause 133 = .ok (.ireturn, 1) := by decide +kernel
theorem dX7_takeClause_134 : decode cX7_takeClause 134 = .ok (.aload_n 0, 1) := by decide +kernel
theorem dX7_takeClause_135 : decode cX7_takeClause 135 = .ok (.dup, 1) := by decide +kernel
theorem dX7_takeClause_136 : decode cX7_takeClause 136 = .ok (.getfield 113, 3) := by decide +kernel
theorem dX7_takeClause_139 : decode cX7_takeClause 139 = .ok (.iconst 1, 1) := by decide +kernel
theorem dX7_takeClause_140 : decode cX7_takeClause 140 = .ok (.iadd, 1) := by decide +kernel
theorem dX7_takeClause_141 : decode cX7_takeClause 141 = .ok (.putfield 113, 3) := by decide +kernel
theorem dX7_takeClause_144 : decode cX7_takeClause 144 = .ok (.iload_n 2, 1) := by decide +kernel
theorem dX7_takeClause_145 : decode cX7_takeClause 145 = .ok (.ifCond .ne 10, 3) := by decide +kernel
theorem dX7_takeClause_148 : decode cX7_takeClause 148 = .ok (.aload_n 0, 1) := by decide +kernel
theorem dX7_takeClause_149 : decode cX7_takeClause 149 = .ok (.invokevirtual 147, 3) := by decide +kernel
theorem dX7_takeClause_152 : decode cX7_takeClause 152 = .ok (.goto 19, 3) := by decide +kernel
theorem dX7_takeClause_155 : decode cX7_takeClause 155 = .ok (.iload_n 2, 1) := by decide +kernel
theorem dX7_takeClause_156 : decode cX7_takeClause 156 = .ok (.iconst 1, 1) := by decide +kernel
theorem dX7_takeClause_157 : decode cX7_takeClause 157 = .ok (.if_icmp .ne 10, 3) := by decide +kernel
theorem dX7_takeClause_160 : decode cX7_takeClause 160 = .ok (.aload_n 0, 1) := by decide +kernel
theorem dX7_takeClause_161 : decode cX7_takeClause 161 = .ok (.invokevirtual 150, 3) := by decide +kernel
theorem dX7_takeClause_164 : decode cX7_takeClause 164 = .ok (.goto 7, 3) := by decide +kernel
theorem dX7_takeClause_167 : decode cX7_takeClause 167 = .ok (.aload_n 0, 1) := by decide +kernel
theorem dX7_takeClause_168 : decode cX7_takeClause 168 = .ok (.invokevirtual 153, 3) := by decide +kernel
theorem dX7_takeClause_171 : decode cX7_takeClause 171 = .ok (.istore 4, 2) := by decide +kernel
theorem dX7_takeClause_173 : decode cX7_takeClause 173 = .ok (.iload 4, 2) := by decide +kernel
theorem dX7_takeClause_175 : decode cX7_takeClause 175 = .ok (.ifCond .ne 22, 3) := by decide +kernel
theorem dX7_takeClause_178 : decode cX7_takeClause 178 = .ok (.aload_n 0, 1) := by decide +kernel
theorem dX7_takeClause_179 : decode cX7_takeClause 179 = .ok (.invokevirtual 116, 3) := by decide +kernel
theorem dX7_takeClause_182 : decode cX7_takeClause 182 = .ok (.bipush 59, 2) := by decide +kernel
theorem dX7_takeClause_184 : decode cX7_takeClause 184 = .ok (.if_icmp .eq 13, 3) := by decide +kernel
theorem dX7_takeClause_187 : decode cX7_takeClause 187 = .ok (.aload_n 0, 1) := by decide +kernel
theorem dX7_takeClause_188 : decode cX7_takeClause 188 = .ok (.iconst 1, 1) := by decide +kernel
theorem dX7_takeClause_189 : decode cX7_takeClause 189 = .ok (.aload_n 0, 1) := by decide +kernel
theorem dX7_takeClause_190 : decode cX7_takeClause 190 = .ok (.getfield 113, 3) := by decide +kernel
theorem dX7_takeClause_193 : decode cX7_takeClause 193 = .ok (.invokevirtual 124, 3) := by decide +kernel
theorem dX7_takeClause_196 : decode cX7_takeClause 196 = .ok (.ireturn, 1) := by decide +kernel
theorem dX7_takeClause_197 : decode cX7_takeClause 197 = .ok (.aload_n 0, 1) := by decide +kernel
theorem dX7_takeClause_198 : decode cX7_takeClause 198 = .ok (.dup, 1) := by decide +kernel
theorem dX7_takeClause_199 : decode cX7_takeClause 199 = .ok (.getfield 113, 3) := by decide +kernel
theorem dX7_takeClause_202 : decode cX7_takeClause 202 = .ok (.iconst 1, 1) := by decide +kernel
theorem dX7_takeClause_203 : decode cX7_takeClause 203 = .ok (.iadd, 1) := by decide +kernel
theorem dX7_takeClause_204 : decode cX7_takeClause 204 = .ok (.putfield 113, 3) := by decide +kernel
theorem dX7_takeClause_207 : decode cX7_takeClause 207 = .ok (.iload 4, 2) := by decide +kernel
theorem dX7_takeClause_209 : decode cX7_takeClause 209 = .ok (.ireturn, 1) := by decide +kernel
theorem dX7_takeRead_0 : decode cX7_takeRead 0 = .ok (.aload_n 0, 1) := by decide +kernel
theorem dX7_takeRead_1 : decode cX7_takeRead 1 = .ok (.aload_n 0, 1) := by decide +kernel
theorem dX7_takeRead_2 : decode cX7_takeRead 2 = .ok (.getfield 35, 3) := by decide +kernel
theorem dX7_takeRead_5 : decode cX7_takeRead 5 = .ok (.iconst 0, 1) := by decide +kernel
theorem dX7_takeRead_6 : decode cX7_takeRead 6 = .ok (.iaload, 1) := by decide +kernel
theorem dX7_takeRead_7 : decode cX7_takeRead 7 = .ok (.putfield 103, 3) := by decide +kernel
theorem dX7_takeRead_10 : decode cX7_takeRead 10 = .ok (.aload_n 0, 1) := by decide +kernel
theorem dX7_takeRead_11 : decode cX7_takeRead 11 = .ok (.aload_n 0, 1) := by decide +kernel
theorem dX7_takeRead_12 : decode cX7_takeRead 12 = .ok (.getfield 35, 3) := by decide +kernel
theorem dX7_takeRead_15 : decode cX7_takeRead 15 = .ok (.iconst 1, 1) := by decide +kernel
theorem dX7_takeRead_16 : decode cX7_takeRead 16 = .ok (.iaload, 1) := by decide +kernel
theorem dX7_takeRead_17 : decode cX7_takeRead 17 = .ok (.putfield 156, 3) := by decide +kernel
theorem dX7_takeRead_20 : decode cX7_takeRead 20 = .ok (.aload_n 0, 1) := by decide +kernel
theorem dX7_takeRead_21 : decode cX7_takeRead 21 = .ok (.aload_n 0, 1) := by decide +kernel
theorem dX7_takeRead_22 : decode cX7_takeRead 22 = .ok (.getfield 35, 3) := by decide +kernel
theorem dX7_takeRead_25 : decode cX7_takeRead 25 = .ok (.iconst 2, 1) := by decide +kernel
theorem dX7_takeRead_26 : decode cX7_takeRead 26 = .ok (.iaload, 1) := by decide +kernel
theorem dX7_takeRead_27 : decode cX7_takeRead 27 = .ok (.putfield 159, 3) := by decide +kernel
theorem dX7_takeRead_30 : decode cX7_takeRead 30 = .ok (.aload_n 0, 1) := by decide +kernel
theorem dX7_takeRead_31 : decode cX7_takeRead 31 = .ok (.aload_n 0, 1) := by decide +kernel
theorem dX7_takeRead_32 : decode cX7_takeRead 32 = .ok (.getfield 141, 3) := by decide +kernel
theorem dX7_takeRead_35 : decode cX7_takeRead 35 = .ok (.putfield 96, 3) := by decide +kernel
theorem dX7_takeRead_38 : decode cX7_takeRead 38 = .ok (.aload_n 0, 1) := by decide +kernel
theorem dX7_takeRead_39 : decode cX7_takeRead 39 = .ok (.aload_n 0, 1) := by decide +kernel
theorem dX7_takeRead_40 : decode cX7_takeRead 40 = .ok (.getfield 144, 3) := by decide +kernel
theorem dX7_takeRead_43 : decode cX7_takeRead 43 = .ok (.ifCond .le 10, 3) := by decide +kernel
theorem dX7_takeRead_46 : decode cX7_takeRead 46 = .ok (.aload_n 0, 1) := by decide +kernel
theorem dX7_takeRead_47 : decode cX7_takeRead 47 = .ok (.getfield 144, 3) := by decide +kernel
theorem dX7_takeRead_50 : decode cX7_takeRead 50 = .ok (.goto 4, 3) := by decide +kernel
theorem dX7_takeRead_53 : decode cX7_takeRead 53 = .ok (.iconst 1, 1) := by decide +kernel
theorem dX7_takeRead_54 : decode cX7_takeRead 54 = .ok (.putfield 19, 3) := by decide +kernel
theorem dX7_takeRead_57 : decode cX7_takeRead 57 = .ok (.iconst 0, 1) := by decide +kernel
theorem dX7_takeRead_58 : decode cX7_takeRead 58 = .ok (.istore_n 1, 1) := by decide +kernel
theorem dX7_takeRead_59 : decode cX7_takeRead 59 = .ok (.iload_n 1, 1) := by decide +kernel
theorem dX7_takeRead_60 : decode cX7_takeRead 60 = .ok (.aload_n 0, 1) := by decide +kernel
theorem dX7_takeRead_61 : decode cX7_takeRead 61 = .ok (.getfield 19, 3) := by decide +kernel
theorem dX7_takeRead_64 : decode cX7_takeRead 64 = .ok (.if_icmp .ge 32, 3) := by decide +kernel
theorem dX7_takeRead_67 : decode cX7_takeRead 67 = .ok (.aload_n 0, 1) := by decide +kernel
theorem dX7_takeRead_68 : decode cX7_takeRead 68 = .ok (.getfield 23, 3) := by decide +kernel
theorem dX7_takeRead_71 : decode cX7_takeRead 71 = .ok (.iload_n 1, 1) := by decide +kernel
theorem dX7_takeRead_72 : decode cX7_takeRead 72 = .ok (.aload_n 0, 1) := by decide +kernel
theorem dX7_takeRead_73 : decode cX7_takeRead 73 = .ok (.getfield 144, 3) := by decide +kernel
theorem dX7_takeRead_76 : decode cX7_takeRead 76 = .ok (.ifCond .le 12, 3) := by decide +kernel
theorem dX7_takeRead_79 : decode cX7_takeRead 79 = .ok (.aload_n 0, 1) := by decide +kernel
theorem dX7_takeRead_80 : decode cX7_takeRead 80 = .ok (.getfield 53, 3) := by decide +kernel
theorem dX7_takeRead_83 : decode cX7_takeRead 83 = .ok (.iload_n 1, 1) := by decide +kernel
theorem dX7_takeRead_84 : decode cX7_takeRead 84 = .ok (.iaload, 1) := by decide +kernel
theorem dX7_takeRead_85 : decode cX7_takeRead 85 = .ok (.goto 4, 3) := by decide +kernel
theorem dX7_takeRead_88 : decode cX7_takeRead 88 = .ok (.iconst 5, 1) := by decide +kernel
theorem dX7_takeRead_89 : decode cX7_takeRead 89 = .ok (.iastore, 1) := by decide +kernel
theorem dX7_takeRead_90 : decode cX7_takeRead 90 = .ok (.iinc 1 1, 3) := by decide +kernel
theorem dX7_takeRead_93 : decode cX7_takeRead 93 = .ok (.goto (-34), 3) := by decide +kernel
theorem dX7_takeRead_96 : decode cX7_takeRead 96 = .ok (.iconst 0, 1) := by decide +kernel
theorem dX7_takeRead_97 : decode cX7_takeRead 97 = .ok (.istore_n 1, 1) := by decide +kernel
theorem dX7_takeRead_98 : decode cX7_takeRead 98 = .ok (.iload_n 1, 1) := by decide +kernel
theorem dX7_takeRead_99 : decode cX7_takeRead 99 = .ok (.bipush 27, 2) := by decide +kernel
theorem dX7_takeRead_101 : decode cX7_takeRead 101 = .ok (.if_icmp .ge 16, 3) := by decide +kernel
theorem dX7_takeRead_104 : decode cX7_takeRead 104 = .ok (.aload_n 0, 1) := by decide +kernel
theorem dX7_takeRead_105 : decode cX7_takeRead 105 = .ok (.getfield 26, 3) := by decide +kernel
theorem dX7_takeRead_108 : decode cX7_takeRead 108 = .ok (.iload_n 1, 1) := by decide +kernel
theorem dX7_takeRead_109 : decode cX7_takeRead 109 = .ok (.iconst 0, 1) := by decide +kernel
theorem dX7_takeRead_110 : decode cX7_takeRead 110 = .ok (.iastore, 1) := by decide +kernel
theorem dX7_takeRead_111 : decode cX7_takeRead 111 = .ok (.iinc 1 1, 3) := by decide +kernel
theorem dX7_takeRead_114 : decode cX7_takeRead 114 = .ok (.goto (-16), 3) := by decide +kernel
theorem dX7_takeRead_117 : decode cX7_takeRead 117 = .ok (.iconst 0, 1) := by decide +kernel
theorem dX7_takeRead_118 : decode cX7_takeRead 118 = .ok (.istore_n 1, 1) := by decide +kernel
theorem dX7_takeRead_119 : decode cX7_takeRead 119 = .ok (.iload_n 1, 1) := by decide +kernel
theorem dX7_takeRead_120 : decode cX7_takeRead 120 = .ok (.aload_n 0, 1) := by decide +kernel
theorem dX7_takeRead_121 : decode cX7_takeRead 121 = .ok (.getfield 96, 3) := by decide +kernel
theorem dX7_takeRead_124 : decode cX7_takeRead 124 = .ok (.if_icmp .ge 72, 3) := by decide +kernel
theorem dX7_takeRead_127 : decode cX7_takeRead 127 = .ok (.aload_n 0, 1) := by decide +kernel
theorem dX7_takeRead_128 : decode cX7_takeRead 128 = .ok (.getfield 7, 3) := by decide +kernel
theorem dX7_takeRead_131 : decode cX7_takeRead 131 = .ok (.iload_n 1, 1) := by decide +kernel
theorem dX7_takeRead_132 : decode cX7_takeRead 132 = .ok (.aload_n 0, 1) := by decide +kernel
theorem dX7_takeRead_133 : decode cX7_takeRead 133 = .ok (.getfield 38, 3) := by decide +kernel
theorem dX7_takeRead_136 : decode cX7_takeRead 136 = .ok (.iload_n 1, 1) := by decide +kernel
theorem dX7_takeRead_137 : decode cX7_takeRead 137 = .ok (.iaload, 1) := by decide +kernel
theorem dX7_takeRead_138 : decode cX7_takeRead 138 = .ok (.iastore, 1) := by decide +kernel
theorem dX7_takeRead_139 : decode cX7_takeRead 139 = .ok (.aload_n 0, 1) := by decide +kernel
theorem dX7_takeRead_140 : decode cX7_takeRead 140 = .ok (.getfield 13, 3) := by decide +kernel
theorem dX7_takeRead_143 : decode cX7_takeRead 143 = .ok (.iload_n 1, 1) := by decide +kernel
theorem dX7_takeRead_144 : decode cX7_takeRead 144 = .ok (.aload_n 0, 1) := by decide +kernel
theorem dX7_takeRead_145 : decode cX7_takeRead 145 = .ok (.getfield 41, 3) := by decide +kernel
theorem dX7_takeRead_148 : decode cX7_takeRead 148 = .ok (.iload_n 1, 1) := by decide +kernel
theorem dX7_takeRead_149 : decode cX7_takeRead 149 = .ok (.iaload, 1) := by decide +kernel
theorem dX7_takeRead_150 : decode cX7_takeRead 150 = .ok (.iastore, 1) := by decide +kernel
theorem dX7_takeRead_151 : decode cX7_takeRead 151 = .ok (.aload_n 0, 1) := by decide +kernel
theorem dX7_takeRead_152 : decode cX7_takeRead 152 = .ok (.getfield 16, 3) := by decide +kernel
theorem dX7_takeRead_155 : decode cX7_takeRead 155 = .ok (.iload_n 1, 1) := by decide +kernel
theorem dX7_takeRead_156 : decode cX7_takeRead 156 = .ok (.aload_n 0, 1) := by decide +kernel
theorem dX7_takeRead_157 : decode cX7_takeRead 157 = .ok (.getfield 50, 3) := by decide +kernel
theorem dX7_takeRead_160 : decode cX7_takeRead 160 = .ok (.iload_n 1, 1) := by decide +kernel
theorem dX7_takeRead_161 : decode cX7_takeRead 161 = .ok (.iaload, 1) := by decide +kernel
theorem dX7_takeRead_162 : decode cX7_takeRead 162 = .ok (.iastore, 1) := by decide +kernel
theorem dX7_takeRead_163 : decode cX7_takeRead 163 = .ok (.aload_n 0, 1) := by decide +kernel
theorem dX7_takeRead_164 : decode cX7_takeRead 164 = .ok (.getfield 26, 3) := by decide +kernel
theorem dX7_takeRead_167 : decode cX7_takeRead 167 = .ok (.iload_n 1, 1) := by decide +kernel
theorem dX7_takeRead_168 : decode cX7_takeRead 168 = .ok (.aload_n 0, 1) := by decide +kernel
theorem dX7_takeRead_169 : decode cX7_takeRead 169 = .ok (.getfield 44, 3) := by decide +kernel
theorem dX7_takeRead_172 : decode cX7_takeRead 172 = .ok (.iload_n 1, 1) := by decide +kernel
theorem dX7_takeRead_173 : decode cX7_takeRead 173 = .ok (.iaload, 1) := by decide +kernel
theorem dX7_takeRead_174 : decode cX7_takeRead 174 = .ok (.iastore, 1) := by decide +kernel
theorem dX7_takeRead_175 : decode cX7_takeRead 175 = .ok (.aload_n 0, 1) := by decide +kernel
theorem dX7_takeRead_176 : decode cX7_takeRead 176 = .ok (.getfield 26, 3) := by decide +kernel
theorem dX7_takeRead_179 : decode cX7_takeRead 179 = .ok (.bipush 16, 2) := by decide +kernel
theorem dX7_takeRead_181 : decode cX7_takeRead 181 = .ok (.iload_n 1, 1) := by decide +kernel
theorem dX7_takeRead_182 : decode cX7_takeRead 182 = .ok (.iadd, 1) := by decide +kernel
theorem dX7_takeRead_183 : decode cX7_takeRead 183 = .ok (.aload_n 0, 1) := by decide +kernel
theorem dX7_takeRead_184 : decode cX7_takeRead 184 = .ok (.getfield 47, 3) := by decide +kernel
theorem dX7_takeRead_187 : decode cX7_takeRead 187 = .ok (.iload_n 1, 1) := by decide +kernel
theorem dX7_takeRead_188 : decode cX7_takeRead 188 = .ok (.iaload, 1) := by decide +kernel
theorem dX7_takeRead_189 : decode cX7_takeRead 189 = .ok (.iastore, 1) := by decide +kernel
theorem dX7_takeRead_190 : decode cX7_takeRead 190 = .ok (.iinc 1 1, 3) := by decide +kernel
theorem dX7_takeRead_193 : decode cX7_takeRead 193 = .ok (.goto (-74), 3) := by decide +kernel
theorem dX7_takeRead_196 : decode cX7_takeRead 196 = .ok (.return_, 1) := by decide +kernel
theorem dX7_land_0 : decode cX7_land 0 = .ok (.aload_n 0, 1) := by decide +kernel
theorem dX7_land_1 : decode cX7_land 1 = .ok (.iconst (-1), 1) := by decide +kernel
theorem dX7_land_2 : decode cX7_land 2 = .ok (.putfield 32, 3) := by decide +kernel
theorem dX7_land_5 : decode cX7_land 5 = .ok (.aload_n 0, 1) := by decide +kernel
theorem dX7_land_6 : decode cX7_land 6 = .ok (.iconst 0, 1) := by decide +kernel
theorem dX7_land_7 : decode cX7_land 7 = .ok (.putfield 113, 3) := by decide +kernel
theorem dX7_land_10 : decode cX7_land 10 = .ok (.iconst 0, 1) := by decide +kernel
theorem dX7_land_11 : decode cX7_land 11 = .ok (.istore_n 1, 1) := by decide +kernel
theorem dX7_land_12 : decode cX7_land 12 = .ok (.iload_n 1, 1) := by decide +kernel
theorem dX7_land_13 : decode cX7_land 13 = .ok (.iconst 3, 1) := by decide +kernel
theorem dX7_land_14 : decode cX7_land 14 = .ok (.if_icmp .ge 16, 3) := by decide +kernel
theorem dX7_land_17 : decode cX7_land 17 = .ok (.aload_n 0, 1) := by decide +kernel
theorem dX7_land_18 : decode cX7_land 18 = .ok (.getfield 35, 3) := by decide +kernel
theorem dX7_land_21 : decode cX7_land 21 = .ok (.iload_n 1, 1) := by decide +kernel
theorem dX7_land_22 : decode cX7_land 22 = .ok (.iconst 0, 1) := by decide +kernel
theorem dX7_land_23 : decode cX7_land 23 = .ok (.iastore, 1) := by decide +kernel
theorem dX7_land_24 : decode cX7_land 24 = .ok (.iinc 1 1, 3) := by decide +kernel
theorem dX7_land_27 : decode cX7_land 27 = .ok (.goto (-15), 3) := by decide +kernel
theorem dX7_land_30 : decode cX7_land 30 = .ok (.aload_n 0, 1) := by decide +kernel
theorem dX7_land_31 : decode cX7_land 31 = .ok (.iconst 0, 1) := by decide +kernel
theorem dX7_land_32 : decode cX7_land 32 = .ok (.putfield 141, 3) := by decide +kernel
theorem dX7_land_35 : decode cX7_land 35 = .ok (.aload_n 0, 1) := by decide +kernel
theorem dX7_land_36 : decode cX7_land 36 = .ok (.iconst 0, 1) := by decide +kernel
theorem dX7_land_37 : decode cX7_land 37 = .ok (.putfield 144, 3) := by decide +kernel
theorem dX7_land_40 : decode cX7_land 40 = .ok (.iconst 0, 1) := by decide +kernel
theorem dX7_land_41 : decode cX7_land 41 = .ok (.istore_n 1, 1) := by decide +kernel
theorem dX7_land_42 : decode cX7_land 42 = .ok (.iload_n 1, 1) := by decide +kernel
theorem dX7_land_43 : decode cX7_land 43 = .ok (.ifCond .ne 18, 3) := by decide +kernel
theorem dX7_land_46 : decode cX7_land 46 = .ok (.aload_n 0, 1) := by decide +kernel
theorem dX7_land_47 : decode cX7_land 47 = .ok (.invokevirtual 116, 3) := by decide +kernel
theorem dX7_land_50 : decode cX7_land 50 = .ok (.ifCond .lt 11, 3) := by decide +kernel
theorem dX7_land_53 : decode cX7_land 53 = .ok (.aload_n 0, 1) := by decide +kernel
theorem dX7_land_54 : decode cX7_land 54 = .ok (.invokevirtual 162, 3) := by decide +kernel
theorem dX7_land_57 : decode cX7_land 57 = .ok (.istore_n 1, 1) := by decide +kernel
theorem dX7_land_58 : decode cX7_land 58 = .ok (.goto (-16), 3) := by decide +kernel
theorem dX7_land_61 : decode cX7_land 61 = .ok (.aload_n 0, 1) := by decide +kernel
theorem dX7_land_62 : decode cX7_land 62 = .ok (.iconst 0, 1) := by decide +kernel
theorem dX7_land_63 : decode cX7_land 63 = .ok (.putfield 109, 3) := by decide +kernel
theorem dX7_land_66 : decode cX7_land 66 = .ok (.iload_n 1, 1) := by decide +kernel
theorem dX7_land_67 : decode cX7_land 67 = .ok (.ifCond .le 8, 3) := by decide +kernel
theorem dX7_land_70 : decode cX7_land 70 = .ok (.bipush (-10), 2) := by decide +kernel
theorem dX7_land_72 : decode cX7_land 72 = .ok (.iload_n 1, 1) := by decide +kernel
theorem dX7_land_73 : decode cX7_land 73 = .ok (.isub, 1) := by decide +kernel
theorem dX7_land_74 : decode cX7_land 74 = .ok (.ireturn, 1) := by decide +kernel
theorem dX7_land_75 : decode cX7_land 75 = .ok (.aload_n 0, 1) := by decide +kernel
theorem dX7_land_76 : decode cX7_land 76 = .ok (.invokevirtual 165, 3) := by decide +kernel
theorem dX7_land_79 : decode cX7_land 79 = .ok (.aload_n 0, 1) := by decide +kernel
theorem dX7_land_80 : decode cX7_land 80 = .ok (.iconst 0, 1) := by decide +kernel
theorem dX7_land_81 : decode cX7_land 81 = .ok (.putfield 168, 3) := by decide +kernel
theorem dX7_land_84 : decode cX7_land 84 = .ok (.aload_n 0, 1) := by decide +kernel
theorem dX7_land_85 : decode cX7_land 85 = .ok (.iconst 0, 1) := by decide +kernel
theorem dX7_land_86 : decode cX7_land 86 = .ok (.putfield 171, 3) := by decide +kernel
theorem dX7_land_89 : decode cX7_land 89 = .ok (.aload_n 0, 1) := by decide +kernel
theorem dX7_land_90 : decode cX7_land 90 = .ok (.iconst 0, 1) := by decide +kernel
theorem dX7_land_91 : decode cX7_land 91 = .ok (.putfield 174, 3) := by decide +kernel
theorem dX7_land_94 : decode cX7_land 94 = .ok (.aload_n 0, 1) := by decide +kernel
theorem dX7_land_95 : decode cX7_land 95 = .ok (.iconst 0, 1) := by decide +kernel
theorem dX7_land_96 : decode cX7_land 96 = .ok (.putfield 177, 3) := by decide +kernel
theorem dX7_land_99 : decode cX7_land 99 = .ok (.aload_n 0, 1) := by decide +kernel
theorem dX7_land_100 : decode cX7_land 100 = .ok (.getfield 92, 3) := by decide +kernel
theorem dX7_land_103 : decode cX7_land 103 = .ok (.iconst 0, 1) := by decide +kernel
theorem dX7_land_104 : decode cX7_land 104 = .ok (.iconst 0, 1) := by decide +kernel
theorem dX7_land_105 : decode cX7_land 105 = .ok (.bastore, 1) := by decide +kernel
theorem dX7_land_106 : decode cX7_land 106 = .ok (.aload_n 0, 1) := by decide +kernel
theorem dX7_land_107 : decode cX7_land 107 = .ok (.getfield 92, 3) := by decide +kernel
theorem dX7_land_110 : decode cX7_land 110 = .ok (.iconst 1, 1) := by decide +kernel
theorem dX7_land_111 : decode cX7_land 111 = .ok (.iconst 0, 1) := by decide +kernel
theorem dX7_land_112 : decode cX7_land 112 = .ok (.bastore, 1) := by decide +kernel
theorem dX7_land_113 : decode cX7_land 113 = .ok (.aload_n 0, 1) := by decide +kernel
theorem dX7_land_114 : decode cX7_land 114 = .ok (.getfield 96, 3) := by decide +kernel
theorem dX7_land_117 : decode cX7_land 117 = .ok (.ireturn, 1) := by decide +kernel
theorem dX7_fault_0 : decode cX7_fault 0 = .ok (.aload_n 0, 1) := by decide +kernel
theorem dX7_fault_1 : decode cX7_fault 1 = .ok (.getfield 32, 3) := by decide +kernel
theorem dX7_fault_4 : decode cX7_fault 4 = .ok (.ireturn, 1) := by decide +kernel
theorem dX7_sumOf_0 : decode cX7_sumOf 0 = .ok (.iconst 0, 1) := by decide +kernel
theorem dX7_sumOf_1 : decode cX7_sumOf 1 = .ok (.istore_n 2, 1) := by decide +kernel
theorem dX7_sumOf_2 : decode cX7_sumOf 2 = .ok (.iconst 0, 1) := by decide +kernel
theorem dX7_sumOf_3 : decode cX7_sumOf 3 = .ok (.istore_n 3, 1) := by decide +kernel
theorem dX7_sumOf_4 : decode cX7_sumOf 4 = .ok (.iload_n 3, 1) := by decide +kernel
theorem dX7_sumOf_5 : decode cX7_sumOf 5 = .ok (.aload_n 0, 1) := by decide +kernel
theorem dX7_sumOf_6 : decode cX7_sumOf 6 = .ok (.getfield 96, 3) := by decide +kernel
theorem dX7_sumOf_9 : decode cX7_sumOf 9 = .ok (.if_icmp .ge 20, 3) := by decide +kernel
theorem dX7_sumOf_12 : decode cX7_sumOf 12 = .ok (.iload_n 2, 1) := by decide +kernel
theorem dX7_sumOf_13 : decode cX7_sumOf 13 = .ok (.aload_n 0, 1) := by decide +kernel
theorem dX7_sumOf_14 : decode cX7_sumOf 14 = .ok (.getfield 26, 3) := by decide +kernel
theorem dX7_sumOf_17 : decode cX7_sumOf 17 = .ok (.iload_n 1, 1) := by decide +kernel
theorem dX7_sumOf_18 : decode cX7_sumOf 18 = .ok (.iload_n 3, 1) := by decide +kernel
theorem dX7_sumOf_19 : decode cX7_sumOf 19 = .ok (.iadd, 1) := by decide +kernel
theorem dX7_sumOf_20 : decode cX7_sumOf 20 = .ok (.iaload, 1) := by decide +kernel
theorem dX7_sumOf_21 : decode cX7_sumOf 21 = .ok (.iadd, 1) := by decide +kernel
theorem dX7_sumOf_22 : decode cX7_sumOf 22 = .ok (.istore_n 2, 1) := by decide +kernel
theorem dX7_sumOf_23 : decode cX7_sumOf 23 = .ok (.iinc 3 1, 3) := by decide +kernel
theorem dX7_sumOf_26 : decode cX7_sumOf 26 = .ok (.goto (-22), 3) := by decide +kernel
theorem dX7_sumOf_29 : decode cX7_sumOf 29 = .ok (.iload_n 2, 1) := by decide +kernel
theorem dX7_sumOf_30 : decode cX7_sumOf 30 = .ok (.ireturn, 1) := by decide +kernel
theorem dX7_told_0 : decode cX7_told 0 = .ok (.iload_n 1, 1) := by decide +kernel
theorem dX7_told_1 : decode cX7_told 1 = .ok (.tableswitch 175 0 14 #[75, 80, 85, 90, 95, 100, 108, 126, 134, 140, 148, 155, 160, 165, 170], 75) := by decide +kernel
theorem dX7_told_76 : decode cX7_told 76 = .ok (.aload_n 0, 1) := by decide +kernel
theorem dX7_told_77 : decode cX7_told 77 = .ok (.getfield 103, 3) := by decide +kernel
theorem dX7_told_80 : decode cX7_told 80 = .ok (.ireturn, 1) := by decide +kernel
theorem dX7_told_81 : decode cX7_told 81 = .ok (.aload_n 0, 1) := by decide +kernel
theorem dX7_told_82 : decode cX7_told 82 = .ok (.getfield 156, 3) := by decide +kernel
theorem dX7_told_85 : decode cX7_told 85 = .ok (.ireturn, 1) := by decide +kernel
theorem dX7_told_86 : decode cX7_told 86 = .ok (.aload_n 0, 1) := by decide +kernel
theorem dX7_told_87 : decode cX7_told 87 = .ok (.getfield 159, 3) := by decide +kernel
theorem dX7_told_90 : decode cX7_told 90 = .ok (.ireturn, 1) := by decide +kernel
theorem dX7_told_91 : decode cX7_told 91 = .ok (.aload_n 0, 1) := by decide +kernel
theorem dX7_told_92 : decode cX7_told 92 = .ok (.getfield 96, 3) := by decide +kernel
theorem dX7_told_95 : decode cX7_told 95 = .ok (.ireturn, 1) := by decide +kernel
theorem dX7_told_96 : decode cX7_told 96 = .ok (.aload_n 0, 1) := by decide +kernel
theorem dX7_told_97 : decode cX7_told 97 = .ok (.getfield 109, 3) := by decide +kernel
theorem dX7_told_100 : decode cX7_told 100 = .ok (.ireturn, 1) := by decide +kernel
theorem dX7_told_101 : decode cX7_told 101 = .ok (.aload_n 0, 1) := by decide +kernel
theorem dX7_told_102 : decode cX7_told 102 = .ok (.getfield 26, 3) := by decide +kernel
theorem dX7_told_105 : decode cX7_told 105 = .ok (.bipush 26, 2) := by decide +kernel
theorem dX7_told_107 : decode cX7_told 107 = .ok (.iaload, 1) := by decide +kernel
theorem dX7_told_108 : decode cX7_told 108 = .ok (.ireturn, 1) := by decide +kernel
theorem dX7_told_109 : decode cX7_told 109 = .ok (.aload_n 0, 1) := by decide +kernel
theorem dX7_told_110 : decode cX7_told 110 = .ok (.getfield 23, 3) := by decide +kernel
theorem dX7_told_113 : decode cX7_told 113 = .ok (.aload_n 0, 1) := by decide +kernel
theorem dX7_told_114 : decode cX7_told 114 = .ok (.getfield 26, 3) := by decide +kernel
theorem dX7_told_117 : decode cX7_told 117 = .ok (.bipush 26, 2) := by decide +kernel
theorem dX7_told_119 : decode cX7_told 119 = .ok (.iaload, 1) := by decide +kernel
theorem dX7_told_120 : decode cX7_told 120 = .ok (.aload_n 0, 1) := by decide +kernel
theorem dX7_told_121 : decode cX7_told 121 = .ok (.getfield 19, 3) := by decide +kernel
theorem dX7_told_124 : decode cX7_told 124 = .ok (.irem, 1) := by decide +kernel
theorem dX7_told_125 : decode cX7_told 125 = .ok (.iaload, 1) := by decide +kernel
theorem dX7_told_126 : decode cX7_told 126 = .ok (.ireturn, 1) := by decide +kernel
theorem dX7_told_127 : decode cX7_told 127 = .ok (.aload_n 0, 1) := by decide +kernel
theorem dX7_told_128 : decode cX7_told 128 = .ok (.getfield 26, 3) := by decide +kernel
theorem dX7_told_131 : decode cX7_told 131 = .ok (.bipush 24, 2) := by decide +kernel
theorem dX7_told_133 : decode cX7_told 133 = .ok (.iaload, 1) := by decide +kernel
theorem dX7_told_134 : decode cX7_told 134 = .ok (.ireturn, 1) := by decide +kernel
theorem dX7_told_135 : decode cX7_told 135 = .ok (.aload_n 0, 1) := by decide +kernel
theorem dX7_told_136 : decode cX7_told 136 = .ok (.iconst 0, 1) := by decide +kernel
theorem dX7_told_137 : decode cX7_told 137 = .ok (.invokevirtual 180, 3) := by decide +kernel
theorem dX7_told_140 : decode cX7_told 140 = .ok (.ireturn, 1) := by decide +kernel
theorem dX7_told_141 : decode cX7_told 141 = .ok (.aload_n 0, 1) := by decide +kernel
theorem dX7_told_142 : decode cX7_told 142 = .ok (.getfield 26, 3) := by decide +kernel
theorem dX7_told_145 : decode cX7_told 145 = .ok (.bipush 25, 2) := by decide +kernel
theorem dX7_told_147 : decode cX7_told 147 = .ok (.iaload, 1) := by decide +kernel
theorem dX7_told_148 : decode cX7_told 148 = .ok (.ireturn, 1) := by decide +kernel
theorem dX7_told_149 : decode cX7_told 149 = .ok (.aload_n 0, 1) := by decide +kernel
theorem dX7_told_150 : decode cX7_told 150 = .ok (.bipush 8, 2) := by decide +kernel
theorem dX7_told_152 : decode cX7_told 152 = .ok (.invokevirtual 180, 3) := by decide +kernel
theorem dX7_told_155 : decode cX7_told 155 = .ok (.ireturn, 1) := by decide +kernel
theorem dX7_told_156 : decode cX7_told 156 = .ok (.aload_n 0, 1) := by decide +kernel
theorem dX7_told_157 : decode cX7_told 157 = .ok (.getfield 168, 3) := by decide +kernel
theorem dX7_told_160 : decode cX7_told 160 = .ok (.ireturn, 1) := by decide +kernel
theorem dX7_told_161 : decode cX7_told 161 = .ok (.aload_n 0, 1) := by decide +kernel
theorem dX7_told_162 : decode cX7_told 162 = .ok (.getfield 171, 3) := by decide +kernel
theorem dX7_told_165 : decode cX7_told 165 = .ok (.ireturn, 1) := by decide +kernel
theorem dX7_told_166 : decode cX7_told 166 = .ok (.aload_n 0, 1) := by decide +kernel
theorem dX7_told_167 : decode cX7_told 167 = .ok (.getfield 174, 3) := by decide +kernel
theorem dX7_told_170 : decode cX7_told 170 = .ok (.ireturn, 1) := by decide +kernel
theorem dX7_told_171 : decode cX7_told 171 = .ok (.aload_n 0, 1) := by decide +kernel
theorem dX7_told_172 : decode cX7_told 172 = .ok (.getfield 177, 3) := by decide +kernel
theorem dX7_told_175 : decode cX7_told 175 = .ok (.ireturn, 1) := by decide +kernel
theorem dX7_told_176 : decode cX7_told 176 = .ok (.ldc 108, 2) := by decide +kernel
theorem dX7_told_178 : decode cX7_told 178 = .ok (.ireturn, 1) := by decide +kernel
theorem dX7_barn_0 : decode cX7_barn 0 = .ok (.aload_n 0, 1) := by decide +kernel
theorem dX7_barn_1 : decode cX7_barn 1 = .ok (.iload_n 1, 1) := by decide +kernel
theorem dX7_barn_2 : decode cX7_barn 2 = .ok (.invokevirtual 184, 3) := by decide +kernel
theorem dX7_barn_5 : decode cX7_barn 5 = .ok (.ifCond .ne 6, 3) := by decide +kernel
theorem dX7_barn_8 : decode cX7_barn 8 = .ok (.ldc 188, 2) := by decide +kernel
theorem dX7_barn_10 : decode cX7_barn 10 = .ok (.ireturn, 1) := by decide +kernel
theorem dX7_barn_11 : decode cX7_barn 11 = .ok (.iload_n 2, 1) := by decide +kernel
theorem dX7_barn_12 : decode cX7_barn 12 = .ok (.tableswitch 104 0 6 #[44, 51, 58, 65, 75, 82, 92], 44) := by decide +kernel
theorem dX7_barn_56 : decode cX7_barn 56 = .ok (.aload_n 0, 1) := by decide +kernel
theorem dX7_barn_57 : decode cX7_barn 57 = .ok (.getfield 7, 3) := by decide +kernel
theorem dX7_barn_60 : decode cX7_barn 60 = .ok (.iload_n 1, 1) := by decide +kernel
theorem dX7_barn_61 : decode cX7_barn 61 = .ok (.iaload, 1) := by decide +kernel
theorem dX7_barn_62 : decode cX7_barn 62 = .ok (.ireturn, 1) := by decide +kernel
theorem dX7_barn_63 : decode cX7_barn 63 = .ok (.aload_n 0, 1) := by decide +kernel
theorem dX7_barn_64 : decode cX7_barn 64 = .ok (.getfield 13, 3) := by decide +kernel
theorem dX7_barn_67 : decode cX7_barn 67 = .ok (.iload_n 1, 1) := by decide +kernel
theorem dX7_barn_68 : decode cX7_barn 68 = .ok (.iaload, 1) := by decide +kernel
theorem dX7_barn_69 : decode cX7_barn 69 = .ok (.ireturn, 1) := by decide +kernel
theorem dX7_barn_70 : decode cX7_barn 70 = .ok (.aload_n 0, 1) := by decide +kernel
theorem dX7_barn_71 : decode cX7_barn 71 = .ok (.getfield 26, 3) := by decide +kernel
theorem dX7_barn_74 : decode cX7_barn 74 = .ok (.iload_n 1, 1) := by decide +kernel
theorem dX7_barn_75 : decode cX7_barn 75 = .ok (.iaload, 1) := by decide +kernel
theorem dX7_barn_76 : decode cX7_barn 76 = .ok (.ireturn, 1) := by decide +kernel
theorem dX7_barn_77 : decode cX7_barn 77 = .ok (.aload_n 0, 1) := by decide +kernel
theorem dX7_barn_78 : decode cX7_barn 78 = .ok (.getfield 26, 3) := by decide +kernel
theorem dX7_barn_81 : decode cX7_barn 81 = .ok (.bipush 16, 2) := by decide +kernel
theorem dX7_barn_83 : decode cX7_barn 83 = .ok (.iload_n 1, 1) := by decide +kernel
theorem dX7_barn_84 : decode cX7_barn 84 = .ok (.iadd, 1) := by decide +kernel
theorem dX7_barn_85 : decode cX7_barn 85 = .ok (.iaload, 1) := by decide +kernel
theorem dX7_barn_86 : decode cX7_barn 86 = .ok (.ireturn, 1) := by decide +kernel
theorem dX7_barn_87 : decode cX7_barn 87 = .ok (.aload_n 0, 1) := by decide +kernel
theorem dX7_barn_88 : decode cX7_barn 88 = .ok (.getfield 16, 3) := by decide +kernel
theorem dX7_barn_91 : decode cX7_barn 91 = .ok (.iload_n 1, 1) := by decide +kernel
theorem dX7_barn_92 : decode cX7_barn 92 = .ok (.iaload, 1) := by decide +kernel
theorem dX7_barn_93 : decode cX7_barn 93 = .ok (.ireturn, 1) := by decide +kernel
theorem dX7_barn_94 : decode cX7_barn 94 = .ok (.aload_n 0, 1) := by decide +kernel
theorem dX7_barn_95 : decode cX7_barn 95 = .ok (.getfield 26, 3) := by decide +kernel
theorem dX7_barn_98 : decode cX7_barn 98 = .ok (.bipush 8, 2) := by decide +kernel
theorem dX7_barn_100 : decode cX7_barn 100 = .ok (.iload_n 1, 1) := by decide +kernel
theorem dX7_barn_101 : decode cX7_barn 101 = .ok (.iadd, 1) := by decide +kernel
theorem dX7_barn_102 : decode cX7_barn 102 = .ok (.iaload, 1) := by decide +kernel
theorem dX7_barn_103 : decode cX7_barn 103 = .ok (.ireturn, 1) := by decide +kernel
theorem dX7_barn_104 : decode cX7_barn 104 = .ok (.aload_n 0, 1) := by decide +kernel
theorem dX7_barn_105 : decode cX7_barn 105 = .ok (.getfield 26, 3) := by decide +kernel
theorem dX7_barn_108 : decode cX7_barn 108 = .ok (.bipush 24, 2) := by decide +kernel
theorem dX7_barn_110 : decode cX7_barn 110 = .ok (.iaload, 1) := by decide +kernel
theorem dX7_barn_111 : decode cX7_barn 111 = .ok (.iload_n 1, 1) := by decide +kernel
theorem dX7_barn_112 : decode cX7_barn 112 = .ok (.ishr, 1) := by decide +kernel
theorem dX7_barn_113 : decode cX7_barn 113 = .ok (.iconst 1, 1) := by decide +kernel
theorem dX7_barn_114 : decode cX7_barn 114 = .ok (.iand, 1) := by decide +kernel
theorem dX7_barn_115 : decode cX7_barn 115 = .ok (.ireturn, 1) := by decide +kernel
theorem dX7_barn_116 : decode cX7_barn 116 = .ok (.ldc 108, 2) := by decide +kernel
theorem dX7_barn_118 : decode cX7_barn 118 = .ok (.ireturn, 1) := by decide +kernel
theorem dX7_youngOf_0 : decode cX7_youngOf 0 = .ok (.iload_n 2, 1) := by decide +kernel
theorem dX7_youngOf_1 : decode cX7_youngOf 1 = .ok (.aload_n 0, 1) := by decide +kernel
theorem dX7_youngOf_2 : decode cX7_youngOf 2 = .ok (.getfield 26, 3) := by decide +kernel
theorem dX7_youngOf_5 : decode cX7_youngOf 5 = .ok (.bipush 16, 2) := by decide +kernel
theorem dX7_youngOf_7 : decode cX7_youngOf 7 = .ok (.iload_n 1, 1) := by decide +kernel
theorem dX7_youngOf_8 : decode cX7_youngOf 8 = .ok (.iadd, 1) := by decide +kernel
theorem dX7_youngOf_9 : decode cX7_youngOf 9 = .ok (.iaload, 1) := by decide +kernel
theorem dX7_youngOf_10 : decode cX7_youngOf 10 = .ok (.if_icmp .le 17, 3) := by decide +kernel
theorem dX7_youngOf_13 : decode cX7_youngOf 13 = .ok (.iload_n 2, 1) := by decide +kernel
theorem dX7_youngOf_14 : decode cX7_youngOf 14 = .ok (.aload_n 0, 1) := by decide +kernel
theorem dX7_youngOf_15 : decode cX7_youngOf 15 = .ok (.getfield 26, 3) := by decide +kernel
theorem dX7_youngOf_18 : decode cX7_youngOf 18 = .ok (.bipush 16, 2) := by decide +kernel
theorem dX7_youngOf_20 : decode cX7_youngOf 20 = .ok (.iload_n 1, 1) := by decide +kernel
theorem dX7_youngOf_21 : decode cX7_youngOf 21 = .ok (.iadd, 1) := by decide +kernel
theorem dX7_youngOf_22 : decode cX7_youngOf 22 = .ok (.iaload, 1) := by decide +kernel
theorem dX7_youngOf_23 : decode cX7_youngOf 23 = .ok (.isub, 1) := by decide +kernel
theorem dX7_youngOf_24 : decode cX7_youngOf 24 = .ok (.goto 4, 3) := by decide +kernel
theorem dX7_youngOf_27 : decode cX7_youngOf 27 = .ok (.iconst 0, 1) := by decide +kernel
theorem dX7_youngOf_28 : decode cX7_youngOf 28 = .ok (.istore_n 3, 1) := by decide +kernel
theorem dX7_youngOf_29 : decode cX7_youngOf 29 = .ok (.aload_n 0, 1) := by decide +kernel
theorem dX7_youngOf_30 : decode cX7_youngOf 30 = .ok (.getfield 26, 3) := by decide +kernel
theorem dX7_youngOf_33 : decode cX7_youngOf 33 = .ok (.iload_n 1, 1) := by decide +kernel
theorem dX7_youngOf_34 : decode cX7_youngOf 34 = .ok (.iaload, 1) := by decide +kernel
theorem dX7_youngOf_35 : decode cX7_youngOf 35 = .ok (.iload_n 3, 1) := by decide +kernel
theorem dX7_youngOf_36 : decode cX7_youngOf 36 = .ok (.imul, 1) := by decide +kernel
theorem dX7_youngOf_37 : decode cX7_youngOf 37 = .ok (.bipush 10, 2) := by decide +kernel
theorem dX7_youngOf_39 : decode cX7_youngOf 39 = .ok (.idiv, 1) := by decide +kernel
theorem dX7_youngOf_40 : decode cX7_youngOf 40 = .ok (.istore 4, 2) := by decide +kernel
theorem dX7_youngOf_42 : decode cX7_youngOf 42 = .ok (.aload_n 0, 1) := by decide +kernel
theorem dX7_youngOf_43 : decode cX7_youngOf 43 = .ok (.getfield 16, 3) := by decide +kernel
theorem dX7_youngOf_46 : decode cX7_youngOf 46 = .ok (.iload_n 1, 1) := by decide +kernel
theorem dX7_youngOf_47 : decode cX7_youngOf 47 = .ok (.iaload, 1) := by decide +kernel
theorem dX7_youngOf_48 : decode cX7_youngOf 48 = .ok (.iconst 2, 1) := by decide +kernel
theorem dX7_youngOf_49 : decode cX7_youngOf 49 = .ok (.if_icmp .ne 7, 3) := by decide +kernel
theorem dX7_youngOf_52 : decode cX7_youngOf 52 = .ok (.iconst 0, 1) := by decide +kernel
theorem dX7_youngOf_53 : decode cX7_youngOf 53 = .ok (.goto 25, 3) := by decide +kernel
theorem dX7_youngOf_56 : decode cX7_youngOf 56 = .ok (.aload_n 0, 1) := by decide +kernel
theorem dX7_youngOf_57 : decode cX7_youngOf 57 = .ok (.getfield 16, 3) := by decide +kernel
theorem dX7_youngOf_60 : decode cX7_youngOf 60 = .ok (.iload_n 1, 1) := by decide +kernel
theorem dX7_youngOf_61 : decode cX7_youngOf 61 = .ok (.iaload, 1) := by decide +kernel
theorem dX7_youngOf_62 : decode cX7_youngOf 62 = .ok (.iconst 3, 1) := by decide +kernel
theorem dX7_youngOf_63 : decode cX7_youngOf 63 = .ok (.if_icmp .ne 13, 3) := by decide +kernel
theorem dX7_youngOf_66 : decode cX7_youngOf 66 = .ok (.iload 4, 2) := by decide +kernel
theorem dX7_youngOf_68 : decode cX7_youngOf 68 = .ok (.iload 4, 2) := by decide +kernel
theorem dX7_youngOf_70 : decode cX7_youngOf 70 = .ok (.iconst 2, 1) := by decide +kernel
theorem dX7_youngOf_71 : decode cX7_youngOf 71 = .ok (.idiv, 1) := by decide +kernel
theorem dX7_youngOf_72 : decode cX7_youngOf 72 = .ok (.iadd, 1) := by decide +kernel
theorem dX7_youngOf_73 : decode cX7_youngOf 73 = .ok (.goto 5, 3) := by decide +kernel
theorem dX7_youngOf_76 : decode cX7_youngOf 76 = .ok (.iload 4, 2) := by decide +kernel
theorem dX7_youngOf_78 : decode cX7_youngOf 78 = .ok (.ireturn, 1) := by decide +kernel
theorem dX7_takeCat_0 : decode cX7_takeCat 0 = .ok (.aload_n 0, 1) := by decide +kernel
theorem dX7_takeCat_1 : decode cX7_takeCat 1 = .ok (.getfield 16, 3) := by decide +kernel
theorem dX7_takeCat_4 : decode cX7_takeCat 4 = .ok (.iload_n 1, 1) := by decide +kernel
theorem dX7_takeCat_5 : decode cX7_takeCat 5 = .ok (.iaload, 1) := by decide +kernel
theorem dX7_takeCat_6 : decode cX7_takeCat 6 = .ok (.iconst 1, 1) := by decide +kernel
theorem dX7_takeCat_7 : decode cX7_takeCat 7 = .ok (.if_icmp .ne 14, 3) := by decide +kernel
theorem dX7_takeCat_10 : decode cX7_takeCat 10 = .ok (.aload_n 0, 1) := by decide +kernel
theorem dX7_takeCat_11 : decode cX7_takeCat 11 = .ok (.getfield 26, 3) := by decide +kernel
theorem dX7_takeCat_14 : decode cX7_takeCat 14 = .ok (.iload_n 1, 1) := by decide +kernel
theorem dX7_takeCat_15 : decode cX7_takeCat 15 = .ok (.iaload, 1) := by decide +kernel
theorem dX7_takeCat_16 : decode cX7_takeCat 16 = .ok (.iconst 3, 1) := by decide +kernel
theorem dX7_takeCat_17 : decode cX7_takeCat 17 = .ok (.idiv, 1) := by decide +kernel
theorem dX7_takeCat_18 : decode cX7_takeCat 18 = .ok (.goto 4, 3) := by decide +kernel
theorem dX7_takeCat_21 : decode cX7_takeCat 21 = .ok (.iconst 0, 1) := by decide +kernel
theorem dX7_takeCat_22 : decode cX7_takeCat 22 = .ok (.istore_n 2, 1) := by decide +kernel
theorem dX7_takeCat_23 : decode cX7_takeCat 23 = .ok (.aload_n 0, 1) := by decide +kernel
theorem dX7_takeCat_24 : decode cX7_takeCat 24 = .ok (.getfield 26, 3) := by decide +kernel
theorem dX7_takeCat_27 : decode cX7_takeCat 27 = .ok (.iload_n 1, 1) := by decide +kernel
theorem dX7_takeCat_28 : decode cX7_takeCat 28 = .ok (.dup2, 1) := by decide +kernel
theorem dX7_takeCat_29 : decode cX7_takeCat 29 = .ok (.iaload, 1) := by decide +kernel
theorem dX7_takeCat_30 : decode cX7_takeCat 30 = .ok (.iload_n 2, 1) := by decide +kernel
theorem dX7_takeCat_31 : decode cX7_takeCat 31 = .ok (.isub, 1) := by decide +kernel
theorem dX7_takeCat_32 : decode cX7_takeCat 32 = .ok (.iastore, 1) := by decide +kernel
theorem dX7_takeCat_33 : decode cX7_takeCat 33 = .ok (.aload_n 0, 1) := by decide +kernel
theorem dX7_takeCat_34 : decode cX7_takeCat 34 = .ok (.getfield 26, 3) := by decide +kernel
theorem dX7_takeCat_37 : decode cX7_takeCat 37 = .ok (.bipush 25, 2) := by decide +kernel
theorem dX7_takeCat_39 : decode cX7_takeCat 39 = .ok (.dup2, 1) := by decide +kernel
theorem dX7_takeCat_40 : decode cX7_takeCat 40 = .ok (.iaload, 1) := by decide +kernel
theorem dX7_takeCat_41 : decode cX7_takeCat 41 = .ok (.iload_n 2, 1) := by decide +kernel
theorem dX7_takeCat_42 : decode cX7_takeCat 42 = .ok (.iadd, 1) := by decide +kernel
theorem dX7_takeCat_43 : decode cX7_takeCat 43 = .ok (.iastore, 1) := by decide +kernel
theorem dX7_takeCat_44 : decode cX7_takeCat 44 = .ok (.return_, 1) := by decide +kernel
theorem dX7_breed_0 : decode cX7_breed 0 = .ok (.aload_n 0, 1) := by decide +kernel
theorem dX7_breed_1 : decode cX7_breed 1 = .ok (.getfield 26, 3) := by decide +kernel
theorem dX7_breed_4 : decode cX7_breed 4 = .ok (.bipush 24, 2) := by decide +kernel
theorem dX7_breed_6 : decode cX7_breed 6 = .ok (.iaload, 1) := by decide +kernel
theorem dX7_breed_7 : decode cX7_breed 7 = .ok (.iload_n 1, 1) := by decide +kernel
theorem dX7_breed_8 : decode cX7_breed 8 = .ok (.invokestatic 189, 3) := by decide +kernel
theorem dX7_breed_11 : decode cX7_breed 11 = .ok (.ifCond .eq 12, 3) := by decide +kernel
theorem dX7_breed_14 : decode cX7_breed 14 = .ok (.aload_n 0, 1) := by decide +kernel
theorem dX7_breed_15 : decode cX7_breed 15 = .ok (.getfield 26, 3) := by decide +kernel
theorem dX7_breed_18 : decode cX7_breed 18 = .ok (.iload_n 1, 1) := by decide +kernel
theorem dX7_breed_19 : decode cX7_breed 19 = .ok (.iaload, 1) := by decide +kernel
theorem dX7_breed_20 : decode cX7_breed 20 = .ok (.goto 16, 3) := by decide +kernel
theorem dX7_breed_23 : decode cX7_breed 23 = .ok (.aload_n 0, 1) := by decide +kernel
theorem dX7_breed_24 : decode cX7_breed 24 = .ok (.getfield 26, 3) := by decide +kernel
theorem dX7_breed_27 : decode cX7_breed 27 = .ok (.iload_n 1, 1) := by decide +kernel
theorem dX7_breed_28 : decode cX7_breed 28 = .ok (.iaload, 1) := by decide +kernel
theorem dX7_breed_29 : decode cX7_breed 29 = .ok (.aload_n 0, 1) := by decide +kernel
theorem dX7_breed_30 : decode cX7_breed 30 = .ok (.iload_n 1, 1) := by decide +kernel
theorem dX7_breed_31 : decode cX7_breed 31 = .ok (.iload_n 2, 1) := by decide +kernel
theorem dX7_breed_32 : decode cX7_breed 32 = .ok (.invokevirtual 193, 3) := by decide +kernel
theorem dX7_breed_35 : decode cX7_breed 35 = .ok (.iadd, 1) := by decide +kernel
theorem dX7_breed_36 : decode cX7_breed 36 = .ok (.istore_n 3, 1) := by decide +kernel
theorem dX7_breed_37 : decode cX7_breed 37 = .ok (.aload_n 0, 1) := by decide +kernel
theorem dX7_breed_38 : decode cX7_breed 38 = .ok (.getfield 26, 3) := by decide +kernel
theorem dX7_breed_41 : decode cX7_breed 41 = .ok (.bipush 24, 2) := by decide +kernel
theorem dX7_breed_43 : decode cX7_breed 43 = .ok (.iaload, 1) := by decide +kernel
theorem dX7_breed_44 : decode cX7_breed 44 = .ok (.iload_n 1, 1) := by decide +kernel
theorem dX7_breed_45 : decode cX7_breed 45 = .ok (.invokestatic 189, 3) := by decide +kernel
theorem dX7_breed_48 : decode cX7_breed 48 = .ok (.ifCond .eq 7, 3) := by decide +kernel
theorem dX7_breed_51 : decode cX7_breed 51 = .ok (.iconst 0, 1) := by decide +kernel
theorem dX7_breed_52 : decode cX7_breed 52 = .ok (.goto 13, 3) := by decide +kernel
theorem dX7_breed_55 : decode cX7_breed 55 = .ok (.iload_n 3, 1) := by decide +kernel
theorem dX7_breed_56 : decode cX7_breed 56 = .ok (.aload_n 0, 1) := by decide +kernel
theorem dX7_breed_57 : decode cX7_breed 57 = .ok (.getfield 13, 3) := by decide +kernel
theorem dX7_breed_60 : decode cX7_breed 60 = .ok (.iload_n 1, 1) := by decide +kernel
theorem dX7_breed_61 : decode cX7_breed 61 = .ok (.iaload, 1) := by decide +kernel
theorem dX7_breed_62 : decode cX7_breed 62 = .ok (.invokestatic 196, 3) := by decide +kernel
theorem dX7_breed_65 : decode cX7_breed 65 = .ok (.istore 4, 2) := by decide +kernel
theorem dX7_breed_67 : decode cX7_breed 67 = .ok (.aload_n 0, 1) := by decide +kernel
theorem dX7_breed_68 : decode cX7_breed 68 = .ok (.getfield 56, 3) := by decide +kernel
theorem dX7_breed_71 : decode cX7_breed 71 = .ok (.aload_n 0, 1) := by decide +kernel
theorem dX7_breed_72 : decode cX7_breed 72 = .ok (.getfield 7, 3) := by decide +kernel
theorem dX7_breed_75 : decode cX7_breed 75 = .ok (.iload_n 1, 1) := by decide +kernel
theorem dX7_breed_76 : decode cX7_breed 76 = .ok (.iaload, 1) := by decide +kernel
theorem dX7_breed_77 : decode cX7_breed 77 = .ok (.dup2, 1) := by decide +kernel
theorem dX7_breed_78 : decode cX7_breed 78 = .ok (.iaload, 1) := by decide +kernel
theorem dX7_breed_79 : decode cX7_breed 79 = .ok (.iload_n 3, 1) := by decide +kernel
theorem dX7_breed_80 : decode cX7_breed 80 = .ok (.iload 4, 2) := by decide +kernel
theorem dX7_breed_82 : decode cX7_breed 82 = .ok (.isub, 1) := by decide +kernel
theorem dX7_breed_83 : decode cX7_breed 83 = .ok (.iadd, 1) := by decide +kernel
theorem dX7_breed_84 : decode cX7_breed 84 = .ok (.iastore, 1) := by decide +kernel
theorem dX7_breed_85 : decode cX7_breed 85 = .ok (.aload_n 0, 1) := by decide +kernel
theorem dX7_breed_86 : decode cX7_breed 86 = .ok (.getfield 26, 3) := by decide +kernel
theorem dX7_breed_89 : decode cX7_breed 89 = .ok (.iload_n 1, 1) := by decide +kernel
theorem dX7_breed_90 : decode cX7_breed 90 = .ok (.iload 4, 2) := by decide +kernel
theorem dX7_breed_92 : decode cX7_breed 92 = .ok (.iastore, 1) := by decide +kernel
theorem dX7_breed_93 : decode cX7_breed 93 = .ok (.return_, 1) := by decide +kernel
theorem dX7_house_0 : decode cX7_house 0 = .ok (.aload_n 0, 1) := by decide +kernel
theorem dX7_house_1 : decode cX7_house 1 = .ok (.getfield 26, 3) := by decide +kernel
theorem dX7_house_4 : decode cX7_house 4 = .ok (.bipush 24, 2) := by decide +kernel
theorem dX7_house_6 : decode cX7_house 6 = .ok (.iaload, 1) := by decide +kernel
theorem dX7_house_7 : decode cX7_house 7 = .ok (.iload_n 1, 1) := by decide +kernel
theorem dX7_house_8 : decode cX7_house 8 = .ok (.invokestatic 189, 3) := by decide +kernel
theorem dX7_house_11 : decode cX7_house 11 = .ok (.ifCond .eq 7, 3) := by decide +kernel
theorem dX7_house_14 : decode cX7_house 14 = .ok (.iconst 0, 1) := by decide +kernel
theorem dX7_house_15 : decode cX7_house 15 = .ok (.goto 16, 3) := by decide +kernel
theorem dX7_house_18 : decode cX7_house 18 = .ok (.aload_n 0, 1) := by decide +kernel
theorem dX7_house_19 : decode cX7_house 19 = .ok (.getfield 13, 3) := by decide +kernel
theorem dX7_house_22 : decode cX7_house 22 = .ok (.iload_n 1, 1) := by decide +kernel
theorem dX7_house_23 : decode cX7_house 23 = .ok (.iaload, 1) := by decide +kernel
theorem dX7_house_24 : decode cX7_house 24 = .ok (.aload_n 0, 1) := by decide +kernel
theorem dX7_house_25 : decode cX7_house 25 = .ok (.getfield 26, 3) := by decide +kernel
theorem dX7_house_28 : decode cX7_house 28 = .ok (.iload_n 1, 1) := by decide +kernel
theorem dX7_house_29 : decode cX7_house 29 = .ok (.iaload, 1) := by decide +kernel
theorem dX7_house_30 : decode cX7_house 30 = .ok (.isub, 1) := by decide +kernel
theorem dX7_house_31 : decode cX7_house 31 = .ok (.istore_n 2, 1) := by decide +kernel
theorem dX7_house_32 : decode cX7_house 32 = .ok (.iload_n 2, 1) := by decide +kernel
theorem dX7_house_33 : decode cX7_house 33 = .ok (.aload_n 0, 1) := by decide +kernel
theorem dX7_house_34 : decode cX7_house 34 = .ok (.getfield 56, 3) := by decide +kernel
theorem dX7_house_37 : decode cX7_house 37 = .ok (.aload_n 0, 1) := by decide +kernel
theorem dX7_house_38 : decode cX7_house 38 = .ok (.getfield 7, 3) := by decide +kernel
theorem dX7_house_41 : decode cX7_house 41 = .ok (.iload_n 1, 1) := by decide +kernel
theorem dX7_house_42 : decode cX7_house 42 = .ok (.iaload, 1) := by decide +kernel
theorem dX7_house_43 : decode cX7_house 43 = .ok (.iaload, 1) := by decide +kernel
theorem dX7_house_44 : decode cX7_house 44 = .ok (.invokestatic 196, 3) := by decide +kernel
theorem dX7_house_47 : decode cX7_house 47 = .ok (.istore_n 3, 1) := by decide +kernel
theorem dX7_house_48 : decode cX7_house 48 = .ok (.aload_n 0, 1) := by decide +kernel
theorem dX7_house_49 : decode cX7_house 49 = .ok (.getfield 26, 3) := by decide +kernel
theorem dX7_house_52 : decode cX7_house 52 = .ok (.iload_n 1, 1) := by decide +kernel
theorem dX7_house_53 : decode cX7_house 53 = .ok (.dup2, 1) := by decide +kernel
theorem dX7_house_54 : decode cX7_house 54 = .ok (.iaload, 1) := by decide +kernel
theorem dX7_house_55 : decode cX7_house 55 = .ok (.iload_n 3, 1) := by decide +kernel
theorem dX7_house_56 : decode cX7_house 56 = .ok (.iadd, 1) := by decide +kernel
theorem dX7_house_57 : decode cX7_house 57 = .ok (.iastore, 1) := by decide +kernel
theorem dX7_house_58 : decode cX7_house 58 = .ok (.aload_n 0, 1) := by decide +kernel
theorem dX7_house_59 : decode cX7_house 59 = .ok (.getfield 56, 3) := by decide +kernel
theorem dX7_house_62 : decode cX7_house 62 = .ok (.aload_n 0, 1) := by decide +kernel
theorem dX7_house_63 : decode cX7_house 63 = .ok (.getfield 7, 3) := by decide +kernel
theorem dX7_house_66 : decode cX7_house 66 = .ok (.iload_n 1, 1) := by decide +kernel
theorem dX7_house_67 : decode cX7_house 67 = .ok (.iaload, 1) := by decide +kernel
theorem dX7_house_68 : decode cX7_house 68 = .ok (.dup2, 1) := by decide +kernel
theorem dX7_house_69 : decode cX7_house 69 = .ok (.iaload, 1) := by decide +kernel
theorem dX7_house_70 : decode cX7_house 70 = .ok (.iload_n 3, 1) := by decide +kernel
theorem dX7_house_71 : decode cX7_house 71 = .ok (.isub, 1) := by decide +kernel
theorem dX7_house_72 : decode cX7_house 72 = .ok (.iastore, 1) := by decide +kernel
theorem dX7_house_73 : decode cX7_house 73 = .ok (.return_, 1) := by decide +kernel
theorem dX7_passBy_0 : decode cX7_passBy 0 = .ok (.iconst 0, 1) := by decide +kernel
theorem dX7_passBy_1 : decode cX7_passBy 1 = .ok (.istore_n 2, 1) := by decide +kernel
theorem dX7_passBy_2 : decode cX7_passBy 2 = .ok (.iload_n 2, 1) := by decide +kernel
theorem dX7_passBy_3 : decode cX7_passBy 3 = .ok (.iconst 4, 1) := by decide +kernel
theorem dX7_passBy_4 : decode cX7_passBy 4 = .ok (.if_icmp .ge 16, 3) := by decide +kernel
theorem dX7_passBy_7 : decode cX7_passBy 7 = .ok (.aload_n 0, 1) := by decide +kernel
theorem dX7_passBy_8 : decode cX7_passBy 8 = .ok (.getfield 56, 3) := by decide +kernel
theorem dX7_passBy_11 : decode cX7_passBy 11 = .ok (.iload_n 2, 1) := by decide +kernel
theorem dX7_passBy_12 : decode cX7_passBy 12 = .ok (.iconst 0, 1) := by decide +kernel
theorem dX7_passBy_13 : decode cX7_passBy 13 = .ok (.iastore, 1) := by decide +kernel
theorem dX7_passBy_14 : decode cX7_passBy 14 = .ok (.iinc 2 1, 3) := by decide +kernel
theorem dX7_passBy_17 : decode cX7_passBy 17 = .ok (.goto (-15), 3) := by decide +kernel
theorem dX7_passBy_20 : decode cX7_passBy 20 = .ok (.iconst 0, 1) := by decide +kernel
theorem dX7_passBy_21 : decode cX7_passBy 21 = .ok (.istore_n 2, 1) := by decide +kernel
theorem dX7_passBy_22 : decode cX7_passBy 22 = .ok (.iload_n 2, 1) := by decide +kernel
theorem dX7_passBy_23 : decode cX7_passBy 23 = .ok (.aload_n 0, 1) := by decide +kernel
theorem dX7_passBy_24 : decode cX7_passBy 24 = .ok (.getfield 96, 3) := by decide +kernel
theorem dX7_passBy_27 : decode cX7_passBy 27 = .ok (.if_icmp .ge 20, 3) := by decide +kernel
theorem dX7_passBy_30 : decode cX7_passBy 30 = .ok (.aload_n 0, 1) := by decide +kernel
theorem dX7_passBy_31 : decode cX7_passBy 31 = .ok (.iload_n 2, 1) := by decide +kernel
theorem dX7_passBy_32 : decode cX7_passBy 32 = .ok (.invokevirtual 199, 3) := by decide +kernel
theorem dX7_passBy_35 : decode cX7_passBy 35 = .ok (.aload_n 0, 1) := by decide +kernel
theorem dX7_passBy_36 : decode cX7_passBy 36 = .ok (.iload_n 2, 1) := by decide +kernel
theorem dX7_passBy_37 : decode cX7_passBy 37 = .ok (.iload_n 1, 1) := by decide +kernel
theorem dX7_passBy_38 : decode cX7_passBy 38 = .ok (.invokevirtual 203, 3) := by decide +kernel
theorem dX7_passBy_41 : decode cX7_passBy 41 = .ok (.iinc 2 1, 3) := by decide +kernel
theorem dX7_passBy_44 : decode cX7_passBy 44 = .ok (.goto (-22), 3) := by decide +kernel
theorem dX7_passBy_47 : decode cX7_passBy 47 = .ok (.iconst 0, 1) := by decide +kernel
theorem dX7_passBy_48 : decode cX7_passBy 48 = .ok (.istore_n 2, 1) := by decide +kernel
theorem dX7_passBy_49 : decode cX7_passBy 49 = .ok (.iload_n 2, 1) := by decide +kernel
theorem dX7_passBy_50 : decode cX7_passBy 50 = .ok (.aload_n 0, 1) := by decide +kernel
theorem dX7_passBy_51 : decode cX7_passBy 51 = .ok (.getfield 96, 3) := by decide +kernel
theorem dX7_passBy_54 : decode cX7_passBy 54 = .ok (.if_icmp .ge 14, 3) := by decide +kernel
theorem dX7_passBy_57 : decode cX7_passBy 57 = .ok (.aload_n 0, 1) := by decide +kernel
theorem dX7_passBy_58 : decode cX7_passBy 58 = .ok (.iload_n 2, 1) := by decide +kernel
theorem dX7_passBy_59 : decode cX7_passBy 59 = .ok (.invokevirtual 207, 3) := by decide +kernel
theorem dX7_passBy_62 : decode cX7_passBy 62 = .ok (.iinc 2 1, 3) := by decide +kernel
theorem dX7_passBy_65 : decode cX7_passBy 65 = .ok (.goto (-16), 3) := by decide +kernel
theorem dX7_passBy_68 : decode cX7_passBy 68 = .ok (.iconst 0, 1) := by decide +kernel
theorem dX7_passBy_69 : decode cX7_passBy 69 = .ok (.istore_n 2, 1) := by decide +kernel
theorem dX7_passBy_70 : decode cX7_passBy 70 = .ok (.iload_n 2, 1) := by decide +kernel
theorem dX7_passBy_71 : decode cX7_passBy 71 = .ok (.iconst 4, 1) := by decide +kernel
theorem dX7_passBy_72 : decode cX7_passBy 72 = .ok (.if_icmp .ge 25, 3) := by decide +kernel
theorem dX7_passBy_75 : decode cX7_passBy 75 = .ok (.aload_n 0, 1) := by decide +kernel
theorem dX7_passBy_76 : decode cX7_passBy 76 = .ok (.getfield 26, 3) := by decide +kernel
theorem dX7_passBy_79 : decode cX7_passBy 79 = .ok (.bipush 25, 2) := by decide +kernel
theorem dX7_passBy_81 : decode cX7_passBy 81 = .ok (.dup2, 1) := by decide +kernel
theorem dX7_passBy_82 : decode cX7_passBy 82 = .ok (.iaload, 1) := by decide +kernel
theorem dX7_passBy_83 : decode cX7_passBy 83 = .ok (.aload_n 0, 1) := by decide +kernel
theorem dX7_passBy_84 : decode cX7_passBy 84 = .ok (.getfield 56, 3) := by decide +kernel
theorem dX7_passBy_87 : decode cX7_passBy 87 = .ok (.iload_n 2, 1) := by decide +kernel
theorem dX7_passBy_88 : decode cX7_passBy 88 = .ok (.iaload, 1) := by decide +kernel
theorem dX7_passBy_89 : decode cX7_passBy 89 = .ok (.iadd, 1) := by decide +kernel
theorem dX7_passBy_90 : decode cX7_passBy 90 = .ok (.iastore, 1) := by decide +kernel
theorem dX7_passBy_91 : decode cX7_passBy 91 = .ok (.iinc 2 1, 3) := by decide +kernel
theorem dX7_passBy_94 : decode cX7_passBy 94 = .ok (.goto (-24), 3) := by decide +kernel
theorem dX7_passBy_97 : decode cX7_passBy 97 = .ok (.iconst 0, 1) := by decide +kernel
theorem dX7_passBy_98 : decode cX7_passBy 98 = .ok (.istore_n 2, 1) := by decide +kernel
theorem dX7_passBy_99 : decode cX7_passBy 99 = .ok (.iload_n 2, 1) := by decide +kernel
theorem dX7_passBy_100 : decode cX7_passBy 100 = .ok (.aload_n 0, 1) := by decide +kernel
theorem dX7_passBy_101 : decode cX7_passBy 101 = .ok (.getfield 96, 3) := by decide +kernel
theorem dX7_passBy_104 : decode cX7_passBy 104 = .ok (.if_icmp .ge 107, 3) := by decide +kernel
theorem dX7_passBy_107 : decode cX7_passBy 107 = .ok (.iload_n 1, 1) := by decide +kernel
theorem dX7_passBy_108 : decode cX7_passBy 108 = .ok (.bipush 7, 2) := by decide +kernel
theorem dX7_passBy_110 : decode cX7_passBy 110 = .ok (.if_icmp .le 30, 3) := by decide +kernel
theorem dX7_passBy_113 : decode cX7_passBy 113 = .ok (.aload_n 0, 1) := by decide +kernel
theorem dX7_passBy_114 : decode cX7_passBy 114 = .ok (.getfield 26, 3) := by decide +kernel
theorem dX7_passBy_117 : decode cX7_passBy 117 = .ok (.bipush 24, 2) := by decide +kernel
theorem dX7_passBy_119 : decode cX7_passBy 119 = .ok (.iaload, 1) := by decide +kernel
theorem dX7_passBy_120 : decode cX7_passBy 120 = .ok (.iload_n 2, 1) := by decide +kernel
theorem dX7_passBy_121 : decode cX7_passBy 121 = .ok (.invokestatic 189, 3) := by decide +kernel
theorem dX7_passBy_124 : decode cX7_passBy 124 = .ok (.ifCond .ne 16, 3) := by decide +kernel
theorem dX7_passBy_127 : decode cX7_passBy 127 = .ok (.aload_n 0, 1) := by decide +kernel
theorem dX7_passBy_128 : decode cX7_passBy 128 = .ok (.getfield 26, 3) := by decide +kernel
theorem dX7_passBy_131 : decode cX7_passBy 131 = .ok (.iload_n 2, 1) := by decide +kernel
theorem dX7_passBy_132 : decode cX7_passBy 132 = .ok (.iaload, 1) := by decide +kernel
theorem dX7_passBy_133 : decode cX7_passBy 133 = .ok (.ifCond .le 7, 3) := by decide +kernel
theorem dX7_passBy_136 : decode cX7_passBy 136 = .ok (.iconst 1, 1) := by decide +kernel
theorem dX7_passBy_137 : decode cX7_passBy 137 = .ok (.goto 4, 3) := by decide +kernel
theorem dX7_passBy_140 : decode cX7_passBy 140 = .ok (.iconst 0, 1) := by decide +kernel
theorem dX7_passBy_141 : decode cX7_passBy 141 = .ok (.istore_n 3, 1) := by decide +kernel
theorem dX7_passBy_142 : decode cX7_passBy 142 = .ok (.aload_n 0, 1) := by decide +kernel
theorem dX7_passBy_143 : decode cX7_passBy 143 = .ok (.getfield 26, 3) := by decide +kernel
theorem dX7_passBy_146 : decode cX7_passBy 146 = .ok (.iload_n 2, 1) := by decide +kernel
theorem dX7_passBy_147 : decode cX7_passBy 147 = .ok (.iload_n 3, 1) := by decide +kernel
theorem dX7_passBy_148 : decode cX7_passBy 148 = .ok (.ifCond .eq 23, 3) := by decide +kernel
theorem dX7_passBy_151 : decode cX7_passBy 151 = .ok (.aload_n 0, 1) := by decide +kernel
theorem dX7_passBy_152 : decode cX7_passBy 152 = .ok (.getfield 26, 3) := by decide +kernel
theorem dX7_passBy_155 : decode cX7_passBy 155 = .ok (.iload_n 2, 1) := by decide +kernel
theorem dX7_passBy_156 : decode cX7_passBy 156 = .ok (.iaload, 1) := by decide +kernel
theorem dX7_passBy_157 : decode cX7_passBy 157 = .ok (.iconst 1, 1) := by decide +kernel
theorem dX7_passBy_158 : decode cX7_passBy 158 = .ok (.iadd, 1) := by decide +kernel
theorem dX7_passBy_159 : decode cX7_passBy 159 = .ok (.aload_n 0, 1) := by decide +kernel
theorem dX7_passBy_160 : decode cX7_passBy 160 = .ok (.getfield 13, 3) := by decide +kernel
theorem dX7_passBy_163 : decode cX7_passBy 163 = .ok (.iload_n 2, 1) := by decide +kernel
theorem dX7_passBy_164 : decode cX7_passBy 164 = .ok (.iaload, 1) := by decide +kernel
theorem dX7_passBy_165 : decode cX7_passBy 165 = .ok (.invokestatic 196, 3) := by decide +kernel
theorem dX7_passBy_168 : decode cX7_passBy 168 = .ok (.goto 9, 3) := by decide +kernel
theorem dX7_passBy_171 : decode cX7_passBy 171 = .ok (.aload_n 0, 1) := by decide +kernel
theorem dX7_passBy_172 : decode cX7_passBy 172 = .ok (.getfield 26, 3) := by decide +kernel
theorem dX7_passBy_175 : decode cX7_passBy 175 = .ok (.iload_n 2, 1) := by decide +kernel
theorem dX7_passBy_176 : decode cX7_passBy 176 = .ok (.iaload, 1) := by decide +kernel
theorem dX7_passBy_177 : decode cX7_passBy 177 = .ok (.iastore, 1) := by decide +kernel
theorem dX7_passBy_178 : decode cX7_passBy 178 = .ok (.aload_n 0, 1) := by decide +kernel
theorem dX7_passBy_179 : decode cX7_passBy 179 = .ok (.getfield 26, 3) := by decide +kernel
theorem dX7_passBy_182 : decode cX7_passBy 182 = .ok (.bipush 8, 2) := by decide +kernel
theorem dX7_passBy_184 : decode cX7_passBy 184 = .ok (.iload_n 2, 1) := by decide +kernel
theorem dX7_passBy_185 : decode cX7_passBy 185 = .ok (.iadd, 1) := by decide +kernel
theorem dX7_passBy_186 : decode cX7_passBy 186 = .ok (.aload_n 0, 1) := by decide +kernel
theorem dX7_passBy_187 : decode cX7_passBy 187 = .ok (.getfield 26, 3) := by decide +kernel
theorem dX7_passBy_190 : decode cX7_passBy 190 = .ok (.bipush 8, 2) := by decide +kernel
theorem dX7_passBy_192 : decode cX7_passBy 192 = .ok (.iload_n 2, 1) := by decide +kernel
theorem dX7_passBy_193 : decode cX7_passBy 193 = .ok (.iadd, 1) := by decide +kernel
theorem dX7_passBy_194 : decode cX7_passBy 194 = .ok (.iaload, 1) := by decide +kernel
theorem dX7_passBy_195 : decode cX7_passBy 195 = .ok (.aload_n 0, 1) := by decide +kernel
theorem dX7_passBy_196 : decode cX7_passBy 196 = .ok (.getfield 26, 3) := by decide +kernel
theorem dX7_passBy_199 : decode cX7_passBy 199 = .ok (.iload_n 2, 1) := by decide +kernel
theorem dX7_passBy_200 : decode cX7_passBy 200 = .ok (.iaload, 1) := by decide +kernel
theorem dX7_passBy_201 : decode cX7_passBy 201 = .ok (.invokestatic 196, 3) := by decide +kernel
theorem dX7_passBy_204 : decode cX7_passBy 204 = .ok (.iastore, 1) := by decide +kernel
theorem dX7_passBy_205 : decode cX7_passBy 205 = .ok (.iinc 2 1, 3) := by decide +kernel
theorem dX7_passBy_208 : decode cX7_passBy 208 = .ok (.goto (-109), 3) := by decide +kernel
theorem dX7_passBy_211 : decode cX7_passBy 211 = .ok (.aload_n 0, 1) := by decide +kernel
theorem dX7_passBy_212 : decode cX7_passBy 212 = .ok (.getfield 26, 3) := by decide +kernel
theorem dX7_passBy_215 : decode cX7_passBy 215 = .ok (.bipush 26, 2) := by decide +kernel
theorem dX7_passBy_217 : decode cX7_passBy 217 = .ok (.dup2, 1) := by decide +kernel
theorem dX7_passBy_218 : decode cX7_passBy 218 = .ok (.iaload, 1) := by decide +kernel
theorem dX7_passBy_219 : decode cX7_passBy 219 = .ok (.iconst 1, 1) := by decide +kernel
theorem dX7_passBy_220 : decode cX7_passBy 220 = .ok (.iadd, 1) := by decide +kernel
theorem dX7_passBy_221 : decode cX7_passBy 221 = .ok (.iastore, 1) := by decide +kernel
theorem dX7_passBy_222 : decode cX7_passBy 222 = .ok (.return_, 1) := by decide +kernel
theorem dX7_pass_0 : decode cX7_pass 0 = .ok (.aload_n 0, 1) := by decide +kernel
theorem dX7_pass_1 : decode cX7_pass 1 = .ok (.aload_n 0, 1) := by decide +kernel
theorem dX7_pass_2 : decode cX7_pass 2 = .ok (.getfield 23, 3) := by decide +kernel
theorem dX7_pass_5 : decode cX7_pass 5 = .ok (.aload_n 0, 1) := by decide +kernel
theorem dX7_pass_6 : decode cX7_pass 6 = .ok (.getfield 26, 3) := by decide +kernel
theorem dX7_pass_9 : decode cX7_pass 9 = .ok (.bipush 26, 2) := by decide +kernel
theorem dX7_pass_11 : decode cX7_pass 11 = .ok (.iaload, 1) := by decide +kernel
theorem dX7_pass_12 : decode cX7_pass 12 = .ok (.aload_n 0, 1) := by decide +kernel
theorem dX7_pass_13 : decode cX7_pass 13 = .ok (.getfield 19, 3) := by decide +kernel
theorem dX7_pass_16 : decode cX7_pass 16 = .ok (.irem, 1) := by decide +kernel
theorem dX7_pass_17 : decode cX7_pass 17 = .ok (.iaload, 1) := by decide +kernel
theorem dX7_pass_18 : decode cX7_pass 18 = .ok (.invokevirtual 210, 3) := by decide +kernel
theorem dX7_pass_21 : decode cX7_pass 21 = .ok (.return_, 1) := by decide +kernel
theorem dX7_remember_0 : decode cX7_remember 0 = .ok (.aload_n 0, 1) := by decide +kernel
theorem dX7_remember_1 : decode cX7_remember 1 = .ok (.getfield 177, 3) := by decide +kernel
theorem dX7_remember_4 : decode cX7_remember 4 = .ok (.bipush 20, 2) := by decide +kernel
theorem dX7_remember_6 : decode cX7_remember 6 = .ok (.if_icmp .ne 44, 3) := by decide +kernel
theorem dX7_remember_9 : decode cX7_remember 9 = .ok (.bipush 27, 2) := by decide +kernel
theorem dX7_remember_11 : decode cX7_remember 11 = .ok (.istore_n 1, 1) := by decide +kernel
theorem dX7_remember_12 : decode cX7_remember 12 = .ok (.iload_n 1, 1) := by decide +kernel
theorem dX7_remember_13 : decode cX7_remember 13 = .ok (.sipush 540, 3) := by decide +kernel
theorem dX7_remember_16 : decode cX7_remember 16 = .ok (.if_icmp .ge 24, 3) := by decide +kernel
theorem dX7_remember_19 : decode cX7_remember 19 = .ok (.aload_n 0, 1) := by decide +kernel
theorem dX7_remember_20 : decode cX7_remember 20 = .ok (.getfield 59, 3) := by decide +kernel
theorem dX7_remember_23 : decode cX7_remember 23 = .ok (.iload_n 1, 1) := by decide +kernel
theorem dX7_remember_24 : decode cX7_remember 24 = .ok (.bipush 27, 2) := by decide +kernel
theorem dX7_remember_26 : decode cX7_remember 26 = .ok (.isub, 1) := by decide +kernel
theorem dX7_remember_27 : decode cX7_remember 27 = .ok (.aload_n 0, 1) := by decide +kernel
theorem dX7_remember_28 : decode cX7_remember 28 = .ok (.getfield 59, 3) := by decide +kernel
theorem dX7_remember_31 : decode cX7_remember 31 = .ok (.iload_n 1, 1) := by decide +kernel
theorem dX7_remember_32 : decode cX7_remember 32 = .ok (.iaload, 1) := by decide +kernel
theorem dX7_remember_33 : decode cX7_remember 33 = .ok (.iastore, 1) := by decide +kernel
theorem dX7_remember_34 : decode cX7_remember 34 = .ok (.iinc 1 1, 3) := by decide +kernel
theorem dX7_remember_37 : decode cX7_remember 37 = .ok (.goto (-25), 3) := by decide +kernel
theorem dX7_remember_40 : decode cX7_remember 40 = .ok (.aload_n 0, 1) := by decide +kernel
theorem dX7_remember_41 : decode cX7_remember 41 = .ok (.dup, 1) := by decide +kernel
theorem dX7_remember_42 : decode cX7_remember 42 = .ok (.getfield 177, 3) := by decide +kernel
theorem dX7_remember_45 : decode cX7_remember 45 = .ok (.iconst 1, 1) := by decide +kernel
theorem dX7_remember_46 : decode cX7_remember 46 = .ok (.isub, 1) := by decide +kernel
theorem dX7_remember_47 : decode cX7_remember 47 = .ok (.putfield 177, 3) := by decide +kernel
theorem dX7_remember_50 : decode cX7_remember 50 = .ok (.iconst 0, 1) := by decide +kernel
theorem dX7_remember_51 : decode cX7_remember 51 = .ok (.istore_n 1, 1) := by decide +kernel
theorem dX7_remember_52 : decode cX7_remember 52 = .ok (.iload_n 1, 1) := by decide +kernel
theorem dX7_remember_53 : decode cX7_remember 53 = .ok (.bipush 27, 2) := by decide +kernel
theorem dX7_remember_55 : decode cX7_remember 55 = .ok (.if_icmp .ge 29, 3) := by decide +kernel
theorem dX7_remember_58 : decode cX7_remember 58 = .ok (.aload_n 0, 1) := by decide +kernel
theorem dX7_remember_59 : decode cX7_remember 59 = .ok (.getfield 59, 3) := by decide +kernel
theorem dX7_remember_62 : decode cX7_remember 62 = .ok (.bipush 27, 2) := by decide +kernel
theorem dX7_remember_64 : decode cX7_remember 64 = .ok (.aload_n 0, 1) := by decide +kernel
theorem dX7_remember_65 : decode cX7_remember 65 = .ok (.getfield 177, 3) := by decide +kernel
theorem dX7_remember_68 : decode cX7_remember 68 = .ok (.imul, 1) := by decide +kernel
theorem dX7_remember_69 : decode cX7_remember 69 = .ok (.iload_n 1, 1) := by decide +kernel
theorem dX7_remember_70 : decode cX7_remember 70 = .ok (.iadd, 1) := by decide +kernel
theorem dX7_remember_71 : decode cX7_remember 71 = .ok (.aload_n 0, 1) := by decide +kernel
theorem dX7_remember_72 : decode cX7_remember 72 = .ok (.getfield 26, 3) := by decide +kernel
theorem dX7_remember_75 : decode cX7_remember 75 = .ok (.iload_n 1, 1) := by decide +kernel
theorem dX7_remember_76 : decode cX7_remember 76 = .ok (.iaload, 1) := by decide +kernel
theorem dX7_remember_77 : decode cX7_remember 77 = .ok (.iastore, 1) := by decide +kernel
theorem dX7_remember_78 : decode cX7_remember 78 = .ok (.iinc 1 1, 3) := by decide +kernel
theorem dX7_remember_81 : decode cX7_remember 81 = .ok (.goto (-29), 3) := by decide +kernel
theorem dX7_remember_84 : decode cX7_remember 84 = .ok (.aload_n 0, 1) := by decide +kernel
theorem dX7_remember_85 : decode cX7_remember 85 = .ok (.dup, 1) := by decide +kernel
theorem dX7_remember_86 : decode cX7_remember 86 = .ok (.getfield 177, 3) := by decide +kernel
theorem dX7_remember_89 : decode cX7_remember 89 = .ok (.iconst 1, 1) := by decide +kernel
theorem dX7_remember_90 : decode cX7_remember 90 = .ok (.iadd, 1) := by decide +kernel
theorem dX7_remember_91 : decode cX7_remember 91 = .ok (.putfield 177, 3) := by decide +kernel
theorem dX7_remember_94 : decode cX7_remember 94 = .ok (.return_, 1) := by decide +kernel
theorem dX7_yearsRefused_0 : decode cX7_yearsRefused 0 = .ok (.iload_n 1, 1) := by decide +kernel
theorem dX7_yearsRefused_1 : decode cX7_yearsRefused 1 = .ok (.i2l, 1) := by decide +kernel
theorem dX7_yearsRefused_2 : decode cX7_yearsRefused 2 = .ok (.lconst 1, 1) := by decide +kernel
theorem dX7_yearsRefused_3 : decode cX7_yearsRefused 3 = .ok (.ldc2_w 213, 3) := by decide +kernel
theorem dX7_yearsRefused_6 : decode cX7_yearsRefused 6 = .ok (.invokestatic 99, 3) := by decide +kernel
theorem dX7_yearsRefused_9 : decode cX7_yearsRefused 9 = .ok (.ifCond .ne 6, 3) := by decide +kernel
theorem dX7_yearsRefused_12 : decode cX7_yearsRefused 12 = .ok (.ldc 108, 2) := by decide +kernel
theorem dX7_yearsRefused_14 : decode cX7_yearsRefused 14 = .ok (.ireturn, 1) := by decide +kernel
theorem dX7_yearsRefused_15 : decode cX7_yearsRefused 15 = .ok (.aload_n 0, 1) := by decide +kernel
theorem dX7_yearsRefused_16 : decode cX7_yearsRefused 16 = .ok (.getfield 103, 3) := by decide +kernel
theorem dX7_yearsRefused_19 : decode cX7_yearsRefused 19 = .ok (.ifCond .ne 8, 3) := by decide +kernel
theorem dX7_yearsRefused_22 : decode cX7_yearsRefused 22 = .ok (.ldc 215, 2) := by decide +kernel
theorem dX7_yearsRefused_24 : decode cX7_yearsRefused 24 = .ok (.goto 22, 3) := by decide +kernel
theorem dX7_yearsRefused_27 : decode cX7_yearsRefused 27 = .ok (.aload_n 0, 1) := by decide +kernel
theorem dX7_yearsRefused_28 : decode cX7_yearsRefused 28 = .ok (.getfield 26, 3) := by decide +kernel
theorem dX7_yearsRefused_31 : decode cX7_yearsRefused 31 = .ok (.bipush 26, 2) := by decide +kernel
theorem dX7_yearsRefused_33 : decode cX7_yearsRefused 33 = .ok (.iaload, 1) := by decide +kernel
theorem dX7_yearsRefused_34 : decode cX7_yearsRefused 34 = .ok (.sipush 9000, 3) := by decide +kernel
theorem dX7_yearsRefused_37 : decode cX7_yearsRefused 37 = .ok (.if_icmp .le 8, 3) := by decide +kernel
theorem dX7_yearsRefused_40 : decode cX7_yearsRefused 40 = .ok (.ldc 112, 2) := by decide +kernel
theorem dX7_yearsRefused_42 : decode cX7_yearsRefused 42 = .ok (.goto 4, 3) := by decide +kernel
theorem dX7_yearsRefused_45 : decode cX7_yearsRefused 45 = .ok (.iconst 0, 1) := by decide +kernel
theorem dX7_yearsRefused_46 : decode cX7_yearsRefused 46 = .ok (.ireturn, 1) := by decide +kernel
theorem dX7_year_0 : decode cX7_year 0 = .ok (.aload_n 0, 1) := by decide +kernel
theorem dX7_year_1 : decode cX7_year 1 = .ok (.iload_n 1, 1) := by decide +kernel
theorem dX7_year_2 : decode cX7_year 2 = .ok (.invokevirtual 216, 3) := by decide +kernel
theorem dX7_year_5 : decode cX7_year 5 = .ok (.istore_n 2, 1) := by decide +kernel
theorem dX7_year_6 : decode cX7_year 6 = .ok (.iload_n 2, 1) := by decide +kernel
theorem dX7_year_7 : decode cX7_year 7 = .ok (.ifCond .eq 5, 3) := by decide +kernel
theorem dX7_year_10 : decode cX7_year 10 = .ok (.iload_n 2, 1) := by decide +kernel
theorem dX7_year_11 : decode cX7_year 11 = .ok (.ireturn, 1) := by decide +kernel
theorem dX7_year_12 : decode cX7_year 12 = .ok (.aload_n 0, 1) := by decide +kernel
theorem dX7_year_13 : decode cX7_year 13 = .ok (.invokevirtual 219, 3) := by decide +kernel
theorem dX7_year_16 : decode cX7_year 16 = .ok (.iconst 0, 1) := by decide +kernel
theorem dX7_year_17 : decode cX7_year 17 = .ok (.istore_n 3, 1) := by decide +kernel
theorem dX7_year_18 : decode cX7_year 18 = .ok (.iload_n 3, 1) := by decide +kernel
theorem dX7_year_19 : decode cX7_year 19 = .ok (.iload_n 1, 1) := by decide +kernel
theorem dX7_year_20 : decode cX7_year 20 = .ok (.if_icmp .ge 13, 3) := by decide +kernel
theorem dX7_year_23 : decode cX7_year 23 = .ok (.aload_n 0, 1) := by decide +kernel
theorem dX7_year_24 : decode cX7_year 24 = .ok (.invokevirtual 222, 3) := by decide +kernel
theorem dX7_year_27 : decode cX7_year 27 = .ok (.iinc 3 1, 3) := by decide +kernel
theorem dX7_year_30 : decode cX7_year 30 = .ok (.goto (-12), 3) := by decide +kernel
theorem dX7_year_33 : decode cX7_year 33 = .ok (.aload_n 0, 1) := by decide +kernel
theorem dX7_year_34 : decode cX7_year 34 = .ok (.iconst 0, 1) := by decide +kernel
theorem dX7_year_35 : decode cX7_year 35 = .ok (.invokevirtual 180, 3) := by decide +kernel
theorem dX7_year_38 : decode cX7_year 38 = .ok (.ireturn, 1) := by decide +kernel
theorem dX7_open_0 : decode cX7_open 0 = .ok (.aload_n 0, 1) := by decide +kernel
theorem dX7_open_1 : decode cX7_open 1 = .ok (.iload_n 1, 1) := by decide +kernel
theorem dX7_open_2 : decode cX7_open 2 = .ok (.invokevirtual 184, 3) := by decide +kernel
theorem dX7_open_5 : decode cX7_open 5 = .ok (.ifCond .ne 6, 3) := by decide +kernel
theorem dX7_open_8 : decode cX7_open 8 = .ok (.ldc 188, 2) := by decide +kernel
theorem dX7_open_10 : decode cX7_open 10 = .ok (.ireturn, 1) := by decide +kernel
theorem dX7_open_11 : decode cX7_open 11 = .ok (.aload_n 0, 1) := by decide +kernel
theorem dX7_open_12 : decode cX7_open 12 = .ok (.invokevirtual 219, 3) := by decide +kernel
theorem dX7_open_15 : decode cX7_open 15 = .ok (.aload_n 0, 1) := by decide +kernel
theorem dX7_open_16 : decode cX7_open 16 = .ok (.getfield 26, 3) := by decide +kernel
theorem dX7_open_19 : decode cX7_open 19 = .ok (.bipush 24, 2) := by decide +kernel
theorem dX7_open_21 : decode cX7_open 21 = .ok (.iaload, 1) := by decide +kernel
theorem dX7_open_22 : decode cX7_open 22 = .ok (.iload_n 1, 1) := by decide +kernel
theorem dX7_open_23 : decode cX7_open 23 = .ok (.invokestatic 189, 3) := by decide +kernel
theorem dX7_open_26 : decode cX7_open 26 = .ok (.ifCond .eq 7, 3) := by decide +kernel
theorem dX7_open_29 : decode cX7_open 29 = .ok (.iconst 0, 1) := by decide +kernel
theorem dX7_open_30 : decode cX7_open 30 = .ok (.goto 4, 3) := by decide +kernel
theorem dX7_open_33 : decode cX7_open 33 = .ok (.iconst 1, 1) := by decide +kernel
theorem dX7_open_34 : decode cX7_open 34 = .ok (.istore_n 3, 1) := by decide +kernel
theorem dX7_open_35 : decode cX7_open 35 = .ok (.aload_n 0, 1) := by decide +kernel
theorem dX7_open_36 : decode cX7_open 36 = .ok (.getfield 26, 3) := by decide +kernel
theorem dX7_open_39 : decode cX7_open 39 = .ok (.bipush 24, 2) := by decide +kernel
theorem dX7_open_41 : decode cX7_open 41 = .ok (.iload_n 2, 1) := by decide +kernel
theorem dX7_open_42 : decode cX7_open 42 = .ok (.ifCond .eq 19, 3) := by decide +kernel
theorem dX7_open_45 : decode cX7_open 45 = .ok (.aload_n 0, 1) := by decide +kernel
theorem dX7_open_46 : decode cX7_open 46 = .ok (.getfield 26, 3) := by decide +kernel
theorem dX7_open_49 : decode cX7_open 49 = .ok (.bipush 24, 2) := by decide +kernel
theorem dX7_open_51 : decode cX7_open 51 = .ok (.iaload, 1) := by decide +kernel
theorem dX7_open_52 : decode cX7_open 52 = .ok (.iconst 1, 1) := by decide +kernel
theorem dX7_open_53 : decode cX7_open 53 = .ok (.iload_n 1, 1) := by decide +kernel
theorem dX7_open_54 : decode cX7_open 54 = .ok (.ishl, 1) := by decide +kernel
theorem dX7_open_55 : decode cX7_open 55 = .ok (.iconst (-1), 1) := by decide +kernel
theorem dX7_open_56 : decode cX7_open 56 = .ok (.ixor, 1) := by decide +kernel
theorem dX7_open_57 : decode cX7_open 57 = .ok (.iand, 1) := by decide +kernel
theorem dX7_open_58 : decode cX7_open 58 = .ok (.goto 14, 3) := by decide +kernel
theorem dX7_open_61 : decode cX7_open 61 = .ok (.aload_n 0, 1) := by decide +kernel
theorem dX7_open_62 : decode cX7_open 62 = .ok (.getfield 26, 3) := by decide +kernel
theorem dX7_open_65 : decode cX7_open 65 = .ok (.bipush 24, 2) := by decide +kernel
theorem dX7_open_67 : decode cX7_open 67 = .ok (.iaload, 1) := by decide +kernel
theorem dX7_open_68 : decode cX7_open 68 = .ok (.iconst 1, 1) := by decide +kernel
theorem dX7_open_69 : decode cX7_open 69 = .ok (.iload_n 1, 1) := by decide +kernel
theorem dX7_open_70 : decode cX7_open 70 = .ok (.ishl, 1) := by decide +kernel
theorem dX7_open_71 : decode cX7_open 71 = .ok (.ior, 1) := by decide +kernel
theorem dX7_open_72 : decode cX7_open 72 = .ok (.iastore, 1) := by decide +kernel
theorem dX7_open_73 : decode cX7_open 73 = .ok (.iload_n 3, 1) := by decide +kernel
theorem dX7_open_74 : decode cX7_open 74 = .ok (.ireturn, 1) := by decide +kernel
theorem dX7_canMove_0 : decode cX7_canMove 0 = .ok (.aload_n 0, 1) := by decide +kernel
theorem dX7_canMove_1 : decode cX7_canMove 1 = .ok (.getfield 26, 3) := by decide +kernel
theorem dX7_canMove_4 : decode cX7_canMove 4 = .ok (.iload_n 1, 1) := by decide +kernel
theorem dX7_canMove_5 : decode cX7_canMove 5 = .ok (.iaload, 1) := by decide +kernel
theorem dX7_canMove_6 : decode cX7_canMove 6 = .ok (.iload_n 3, 1) := by decide +kernel
theorem dX7_canMove_7 : decode cX7_canMove 7 = .ok (.if_icmp .lt 24, 3) := by decide +kernel
theorem dX7_canMove_10 : decode cX7_canMove 10 = .ok (.aload_n 0, 1) := by decide +kernel
theorem dX7_canMove_11 : decode cX7_canMove 11 = .ok (.getfield 26, 3) := by decide +kernel
theorem dX7_canMove_14 : decode cX7_canMove 14 = .ok (.iload_n 2, 1) := by decide +kernel
theorem dX7_canMove_15 : decode cX7_canMove 15 = .ok (.iaload, 1) := by decide +kernel
theorem dX7_canMove_16 : decode cX7_canMove 16 = .ok (.iload_n 3, 1) := by decide +kernel
theorem dX7_canMove_17 : decode cX7_canMove 17 = .ok (.iadd, 1) := by decide +kernel
theorem dX7_canMove_18 : decode cX7_canMove 18 = .ok (.aload_n 0, 1) := by decide +kernel
theorem dX7_canMove_19 : decode cX7_canMove 19 = .ok (.getfield 13, 3) := by decide +kernel
theorem dX7_canMove_22 : decode cX7_canMove 22 = .ok (.iload_n 2, 1) := by decide +kernel
theorem dX7_canMove_23 : decode cX7_canMove 23 = .ok (.iaload, 1) := by decide +kernel
theorem dX7_canMove_24 : decode cX7_canMove 24 = .ok (.if_icmp .gt 7, 3) := by decide +kernel
theorem dX7_canMove_27 : decode cX7_canMove 27 = .ok (.iconst 1, 1) := by decide +kernel
theorem dX7_canMove_28 : decode cX7_canMove 28 = .ok (.goto 4, 3) := by decide +kernel
theorem dX7_canMove_31 : decode cX7_canMove 31 = .ok (.iconst 0, 1) := by decide +kernel
theorem dX7_canMove_32 : decode cX7_canMove 32 = .ok (.ireturn, 1) := by decide +kernel
theorem dX7_moveNow_0 : decode cX7_moveNow 0 = .ok (.aload_n 0, 1) := by decide +kernel
theorem dX7_moveNow_1 : decode cX7_moveNow 1 = .ok (.getfield 26, 3) := by decide +kernel
theorem dX7_moveNow_4 : decode cX7_moveNow 4 = .ok (.iload_n 1, 1) := by decide +kernel
theorem dX7_moveNow_5 : decode cX7_moveNow 5 = .ok (.dup2, 1) := by decide +kernel
theorem dX7_moveNow_6 : decode cX7_moveNow 6 = .ok (.iaload, 1) := by decide +kernel
theorem dX7_moveNow_7 : decode cX7_moveNow 7 = .ok (.iload_n 3, 1) := by decide +kernel
theorem dX7_moveNow_8 : decode cX7_moveNow 8 = .ok (.isub, 1) := by decide +kernel
theorem dX7_moveNow_9 : decode cX7_moveNow 9 = .ok (.iastore, 1) := by decide +kernel
theorem dX7_moveNow_10 : decode cX7_moveNow 10 = .ok (.aload_n 0, 1) := by decide +kernel
theorem dX7_moveNow_11 : decode cX7_moveNow 11 = .ok (.getfield 26, 3) := by decide +kernel
theorem dX7_moveNow_14 : decode cX7_moveNow 14 = .ok (.iload_n 2, 1) := by decide +kernel
theorem dX7_moveNow_15 : decode cX7_moveNow 15 = .ok (.dup2, 1) := by decide +kernel
theorem dX7_moveNow_16 : decode cX7_moveNow 16 = .ok (.iaload, 1) := by decide +kernel
theorem dX7_moveNow_17 : decode cX7_moveNow 17 = .ok (.iload_n 3, 1) := by decide +kernel
theorem dX7_moveNow_18 : decode cX7_moveNow 18 = .ok (.iadd, 1) := by decide +kernel
theorem dX7_moveNow_19 : decode cX7_moveNow 19 = .ok (.iastore, 1) := by decide +kernel
theorem dX7_moveNow_20 : decode cX7_moveNow 20 = .ok (.aload_n 0, 1) := by decide +kernel
theorem dX7_moveNow_21 : decode cX7_moveNow 21 = .ok (.getfield 26, 3) := by decide +kernel
theorem dX7_moveNow_24 : decode cX7_moveNow 24 = .ok (.bipush 8, 2) := by decide +kernel
theorem dX7_moveNow_26 : decode cX7_moveNow 26 = .ok (.iload_n 1, 1) := by decide +kernel
theorem dX7_moveNow_27 : decode cX7_moveNow 27 = .ok (.iadd, 1) := by decide +kernel
theorem dX7_moveNow_28 : decode cX7_moveNow 28 = .ok (.aload_n 0, 1) := by decide +kernel
theorem dX7_moveNow_29 : decode cX7_moveNow 29 = .ok (.getfield 26, 3) := by decide +kernel
theorem dX7_moveNow_32 : decode cX7_moveNow 32 = .ok (.bipush 8, 2) := by decide +kernel
theorem dX7_moveNow_34 : decode cX7_moveNow 34 = .ok (.iload_n 1, 1) := by decide +kernel
theorem dX7_moveNow_35 : decode cX7_moveNow 35 = .ok (.iadd, 1) := by decide +kernel
theorem dX7_moveNow_36 : decode cX7_moveNow 36 = .ok (.iaload, 1) := by decide +kernel
theorem dX7_moveNow_37 : decode cX7_moveNow 37 = .ok (.aload_n 0, 1) := by decide +kernel
theorem dX7_moveNow_38 : decode cX7_moveNow 38 = .ok (.getfield 26, 3) := by decide +kernel
theorem dX7_moveNow_41 : decode cX7_moveNow 41 = .ok (.iload_n 1, 1) := by decide +kernel
theorem dX7_moveNow_42 : decode cX7_moveNow 42 = .ok (.iaload, 1) := by decide +kernel
theorem dX7_moveNow_43 : decode cX7_moveNow 43 = .ok (.invokestatic 196, 3) := by decide +kernel
theorem dX7_moveNow_46 : decode cX7_moveNow 46 = .ok (.iastore, 1) := by decide +kernel
theorem dX7_moveNow_47 : decode cX7_moveNow 47 = .ok (.return_, 1) := by decide +kernel
theorem dX7_move_0 : decode cX7_move 0 = .ok (.aload_n 0, 1) := by decide +kernel
theorem dX7_move_1 : decode cX7_move 1 = .ok (.iload_n 1, 1) := by decide +kernel
theorem dX7_move_2 : decode cX7_move 2 = .ok (.invokevirtual 184, 3) := by decide +kernel
theorem dX7_move_5 : decode cX7_move 5 = .ok (.ifCond .eq 16, 3) := by decide +kernel
theorem dX7_move_8 : decode cX7_move 8 = .ok (.aload_n 0, 1) := by decide +kernel
theorem dX7_move_9 : decode cX7_move 9 = .ok (.iload_n 2, 1) := by decide +kernel
theorem dX7_move_10 : decode cX7_move 10 = .ok (.invokevirtual 184, 3) := by decide +kernel
theorem dX7_move_13 : decode cX7_move 13 = .ok (.ifCond .eq 8, 3) := by decide +kernel
theorem dX7_move_16 : decode cX7_move 16 = .ok (.iload_n 1, 1) := by decide +kernel
theorem dX7_move_17 : decode cX7_move 17 = .ok (.iload_n 2, 1) := by decide +kernel
theorem dX7_move_18 : decode cX7_move 18 = .ok (.if_icmp .ne 6, 3) := by decide +kernel
theorem dX7_move_21 : decode cX7_move 21 = .ok (.ldc 188, 2) := by decide +kernel
theorem dX7_move_23 : decode cX7_move 23 = .ok (.ireturn, 1) := by decide +kernel
theorem dX7_move_24 : decode cX7_move 24 = .ok (.iload_n 3, 1) := by decide +kernel
theorem dX7_move_25 : decode cX7_move 25 = .ok (.i2l, 1) := by decide +kernel
theorem dX7_move_26 : decode cX7_move 26 = .ok (.lconst 1, 1) := by decide +kernel
theorem dX7_move_27 : decode cX7_move 27 = .ok (.ldc2_w 225, 3) := by decide +kernel
theorem dX7_move_30 : decode cX7_move 30 = .ok (.invokestatic 99, 3) := by decide +kernel
theorem dX7_move_33 : decode cX7_move 33 = .ok (.ifCond .ne 6, 3) := by decide +kernel
theorem dX7_move_36 : decode cX7_move 36 = .ok (.ldc 108, 2) := by decide +kernel
theorem dX7_move_38 : decode cX7_move 38 = .ok (.ireturn, 1) := by decide +kernel
theorem dX7_move_39 : decode cX7_move 39 = .ok (.aload_n 0, 1) := by decide +kernel
theorem dX7_move_40 : decode cX7_move 40 = .ok (.iload_n 1, 1) := by decide +kernel
theorem dX7_move_41 : decode cX7_move 41 = .ok (.iload_n 2, 1) := by decide +kernel
theorem dX7_move_42 : decode cX7_move 42 = .ok (.iload_n 3, 1) := by decide +kernel
theorem dX7_move_43 : decode cX7_move 43 = .ok (.invokevirtual 227, 3) := by decide +kernel
theorem dX7_move_46 : decode cX7_move 46 = .ok (.ifCond .ne 6, 3) := by decide +kernel
theorem dX7_move_49 : decode cX7_move 49 = .ok (.ldc 215, 2) := by decide +kernel
theorem dX7_move_51 : decode cX7_move 51 = .ok (.ireturn, 1) := by decide +kernel
theorem dX7_move_52 : decode cX7_move 52 = .ok (.aload_n 0, 1) := by decide +kernel
theorem dX7_move_53 : decode cX7_move 53 = .ok (.invokevirtual 219, 3) := by decide +kernel
theorem dX7_move_56 : decode cX7_move 56 = .ok (.aload_n 0, 1) := by decide +kernel
theorem dX7_move_57 : decode cX7_move 57 = .ok (.iload_n 1, 1) := by decide +kernel
theorem dX7_move_58 : decode cX7_move 58 = .ok (.iload_n 2, 1) := by decide +kernel
theorem dX7_move_59 : decode cX7_move 59 = .ok (.iload_n 3, 1) := by decide +kernel
theorem dX7_move_60 : decode cX7_move 60 = .ok (.invokevirtual 231, 3) := by decide +kernel
theorem dX7_move_63 : decode cX7_move 63 = .ok (.aload_n 0, 1) := by decide +kernel
theorem dX7_move_64 : decode cX7_move 64 = .ok (.getfield 26, 3) := by decide +kernel
theorem dX7_move_67 : decode cX7_move 67 = .ok (.iload_n 2, 1) := by decide +kernel
theorem dX7_move_68 : decode cX7_move 68 = .ok (.iaload, 1) := by decide +kernel
theorem dX7_move_69 : decode cX7_move 69 = .ok (.ireturn, 1) := by decide +kernel
theorem dX7_mud_0 : decode cX7_mud 0 = .ok (.aload_n 0, 1) := by decide +kernel
theorem dX7_mud_1 : decode cX7_mud 1 = .ok (.iload_n 1, 1) := by decide +kernel
theorem dX7_mud_2 : decode cX7_mud 2 = .ok (.invokevirtual 184, 3) := by decide +kernel
theorem dX7_mud_5 : decode cX7_mud 5 = .ok (.ifCond .ne 6, 3) := by decide +kernel
theorem dX7_mud_8 : decode cX7_mud 8 = .ok (.ldc 188, 2) := by decide +kernel
theorem dX7_mud_10 : decode cX7_mud 10 = .ok (.ireturn, 1) := by decide +kernel
theorem dX7_mud_11 : decode cX7_mud 11 = .ok (.iload_n 2, 1) := by decide +kernel
theorem dX7_mud_12 : decode cX7_mud 12 = .ok (.i2l, 1) := by decide +kernel
theorem dX7_mud_13 : decode cX7_mud 13 = .ok (.lconst 1, 1) := by decide +kernel
theorem dX7_mud_14 : decode cX7_mud 14 = .ok (.ldc2_w 235, 3) := by decide +kernel
theorem dX7_mud_17 : decode cX7_mud 17 = .ok (.invokestatic 99, 3) := by decide +kernel
theorem dX7_mud_20 : decode cX7_mud 20 = .ok (.ifCond .ne 6, 3) := by decide +kernel
theorem dX7_mud_23 : decode cX7_mud 23 = .ok (.ldc 108, 2) := by decide +kernel
theorem dX7_mud_25 : decode cX7_mud 25 = .ok (.ireturn, 1) := by decide +kernel
theorem dX7_mud_26 : decode cX7_mud 26 = .ok (.aload_n 0, 1) := by decide +kernel
theorem dX7_mud_27 : decode cX7_mud 27 = .ok (.invokevirtual 219, 3) := by decide +kernel
theorem dX7_mud_30 : decode cX7_mud 30 = .ok (.aload_n 0, 1) := by decide +kernel
theorem dX7_mud_31 : decode cX7_mud 31 = .ok (.getfield 26, 3) := by decide +kernel
theorem dX7_mud_34 : decode cX7_mud 34 = .ok (.bipush 16, 2) := by decide +kernel
theorem dX7_mud_36 : decode cX7_mud 36 = .ok (.iload_n 1, 1) := by decide +kernel
theorem dX7_mud_37 : decode cX7_mud 37 = .ok (.iadd, 1) := by decide +kernel
theorem dX7_mud_38 : decode cX7_mud 38 = .ok (.aload_n 0, 1) := by decide +kernel
theorem dX7_mud_39 : decode cX7_mud 39 = .ok (.getfield 26, 3) := by decide +kernel
theorem dX7_mud_42 : decode cX7_mud 42 = .ok (.bipush 16, 2) := by decide +kernel
theorem dX7_mud_44 : decode cX7_mud 44 = .ok (.iload_n 1, 1) := by decide +kernel
theorem dX7_mud_45 : decode cX7_mud 45 = .ok (.iadd, 1) := by decide +kernel
theorem dX7_mud_46 : decode cX7_mud 46 = .ok (.iaload, 1) := by decide +kernel
theorem dX7_mud_47 : decode cX7_mud 47 = .ok (.iload_n 2, 1) := by decide +kernel
theorem dX7_mud_48 : decode cX7_mud 48 = .ok (.if_icmp .le 17, 3) := by decide +kernel
theorem dX7_mud_51 : decode cX7_mud 51 = .ok (.aload_n 0, 1) := by decide +kernel
theorem dX7_mud_52 : decode cX7_mud 52 = .ok (.getfield 26, 3) := by decide +kernel
theorem dX7_mud_55 : decode cX7_mud 55 = .ok (.bipush 16, 2) := by decide +kernel
theorem dX7_mud_57 : decode cX7_mud 57 = .ok (.iload_n 1, 1) := by decide +kernel
theorem dX7_mud_58 : decode cX7_mud 58 = .ok (.iadd, 1) := by decide +kernel
theorem dX7_mud_59 : decode cX7_mud 59 = .ok (.iaload, 1) := by decide +kernel
theorem dX7_mud_60 : decode cX7_mud 60 = .ok (.iload_n 2, 1) := by decide +kernel
theorem dX7_mud_61 : decode cX7_mud 61 = .ok (.isub, 1) := by decide +kernel
theorem dX7_mud_62 : decode cX7_mud 62 = .ok (.goto 4, 3) := by decide +kernel
theorem dX7_mud_65 : decode cX7_mud 65 = .ok (.iconst 0, 1) := by decide +kernel
theorem dX7_mud_66 : decode cX7_mud 66 = .ok (.iastore, 1) := by decide +kernel
theorem dX7_mud_67 : decode cX7_mud 67 = .ok (.aload_n 0, 1) := by decide +kernel
theorem dX7_mud_68 : decode cX7_mud 68 = .ok (.getfield 26, 3) := by decide +kernel
theorem dX7_mud_71 : decode cX7_mud 71 = .ok (.bipush 16, 2) := by decide +kernel
theorem dX7_mud_73 : decode cX7_mud 73 = .ok (.iload_n 1, 1) := by decide +kernel
theorem dX7_mud_74 : decode cX7_mud 74 = .ok (.iadd, 1) := by decide +kernel
theorem dX7_mud_75 : decode cX7_mud 75 = .ok (.iaload, 1) := by decide +kernel
theorem dX7_mud_76 : decode cX7_mud 76 = .ok (.ireturn, 1) := by decide +kernel
theorem dX7_ring_0 : decode cX7_ring 0 = .ok (.aload_n 0, 1) := by decide +kernel
theorem dX7_ring_1 : decode cX7_ring 1 = .ok (.iload_n 1, 1) := by decide +kernel
theorem dX7_ring_2 : decode cX7_ring 2 = .ok (.invokevirtual 184, 3) := by decide +kernel
theorem dX7_ring_5 : decode cX7_ring 5 = .ok (.ifCond .ne 6, 3) := by decide +kernel
theorem dX7_ring_8 : decode cX7_ring 8 = .ok (.ldc 188, 2) := by decide +kernel
theorem dX7_ring_10 : decode cX7_ring 10 = .ok (.ireturn, 1) := by decide +kernel
theorem dX7_ring_11 : decode cX7_ring 11 = .ok (.iload_n 2, 1) := by decide +kernel
theorem dX7_ring_12 : decode cX7_ring 12 = .ok (.i2l, 1) := by decide +kernel
theorem dX7_ring_13 : decode cX7_ring 13 = .ok (.lconst 1, 1) := by decide +kernel
theorem dX7_ring_14 : decode cX7_ring 14 = .ok (.ldc2_w 225, 3) := by decide +kernel
theorem dX7_ring_17 : decode cX7_ring 17 = .ok (.invokestatic 99, 3) := by decide +kernel
theorem dX7_ring_20 : decode cX7_ring 20 = .ok (.ifCond .ne 6, 3) := by decide +kernel
theorem dX7_ring_23 : decode cX7_ring 23 = .ok (.ldc 108, 2) := by decide +kernel
theorem dX7_ring_25 : decode cX7_ring 25 = .ok (.ireturn, 1) := by decide +kernel
theorem dX7_ring_26 : decode cX7_ring 26 = .ok (.aload_n 0, 1) := by decide +kernel
theorem dX7_ring_27 : decode cX7_ring 27 = .ok (.getfield 26, 3) := by decide +kernel
theorem dX7_ring_30 : decode cX7_ring 30 = .ok (.bipush 8, 2) := by decide +kernel
theorem dX7_ring_32 : decode cX7_ring 32 = .ok (.iload_n 1, 1) := by decide +kernel
theorem dX7_ring_33 : decode cX7_ring 33 = .ok (.iadd, 1) := by decide +kernel
theorem dX7_ring_34 : decode cX7_ring 34 = .ok (.iaload, 1) := by decide +kernel
theorem dX7_ring_35 : decode cX7_ring 35 = .ok (.iload_n 2, 1) := by decide +kernel
theorem dX7_ring_36 : decode cX7_ring 36 = .ok (.iadd, 1) := by decide +kernel
theorem dX7_ring_37 : decode cX7_ring 37 = .ok (.aload_n 0, 1) := by decide +kernel
theorem dX7_ring_38 : decode cX7_ring 38 = .ok (.getfield 26, 3) := by decide +kernel
theorem dX7_ring_41 : decode cX7_ring 41 = .ok (.iload_n 1, 1) := by decide +kernel
theorem dX7_ring_42 : decode cX7_ring 42 = .ok (.iaload, 1) := by decide +kernel
theorem dX7_ring_43 : decode cX7_ring 43 = .ok (.if_icmp .le 6, 3) := by decide +kernel
theorem dX7_ring_46 : decode cX7_ring 46 = .ok (.ldc 215, 2) := by decide +kernel
theorem dX7_ring_48 : decode cX7_ring 48 = .ok (.ireturn, 1) := by decide +kernel
theorem dX7_ring_49 : decode cX7_ring 49 = .ok (.aload_n 0, 1) := by decide +kernel
theorem dX7_ring_50 : decode cX7_ring 50 = .ok (.invokevirtual 219, 3) := by decide +kernel
theorem dX7_ring_53 : decode cX7_ring 53 = .ok (.aload_n 0, 1) := by decide +kernel
theorem dX7_ring_54 : decode cX7_ring 54 = .ok (.getfield 26, 3) := by decide +kernel
theorem dX7_ring_57 : decode cX7_ring 57 = .ok (.bipush 8, 2) := by decide +kernel
theorem dX7_ring_59 : decode cX7_ring 59 = .ok (.iload_n 1, 1) := by decide +kernel
theorem dX7_ring_60 : decode cX7_ring 60 = .ok (.iadd, 1) := by decide +kernel
theorem dX7_ring_61 : decode cX7_ring 61 = .ok (.dup2, 1) := by decide +kernel
theorem dX7_ring_62 : decode cX7_ring 62 = .ok (.iaload, 1) := by decide +kernel
theorem dX7_ring_63 : decode cX7_ring 63 = .ok (.iload_n 2, 1) := by decide +kernel
theorem dX7_ring_64 : decode cX7_ring 64 = .ok (.iadd, 1) := by decide +kernel
theorem dX7_ring_65 : decode cX7_ring 65 = .ok (.iastore, 1) := by decide +kernel
theorem dX7_ring_66 : decode cX7_ring 66 = .ok (.aload_n 0, 1) := by decide +kernel
theorem dX7_ring_67 : decode cX7_ring 67 = .ok (.getfield 26, 3) := by decide +kernel
theorem dX7_ring_70 : decode cX7_ring 70 = .ok (.bipush 8, 2) := by decide +kernel
theorem dX7_ring_72 : decode cX7_ring 72 = .ok (.iload_n 1, 1) := by decide +kernel
theorem dX7_ring_73 : decode cX7_ring 73 = .ok (.iadd, 1) := by decide +kernel
theorem dX7_ring_74 : decode cX7_ring 74 = .ok (.iaload, 1) := by decide +kernel
theorem dX7_ring_75 : decode cX7_ring 75 = .ok (.ireturn, 1) := by decide +kernel
theorem dX7_draw_0 : decode cX7_draw 0 = .ok (.aload_n 0, 1) := by decide +kernel
theorem dX7_draw_1 : decode cX7_draw 1 = .ok (.aload_n 0, 1) := by decide +kernel
theorem dX7_draw_2 : decode cX7_draw 2 = .ok (.getfield 237, 3) := by decide +kernel
theorem dX7_draw_5 : decode cX7_draw 5 = .ok (.i2l, 1) := by decide +kernel
theorem dX7_draw_6 : decode cX7_draw 6 = .ok (.ldc2_w 240, 3) := by decide +kernel
theorem dX7_draw_9 : decode cX7_draw 9 = .ok (.lmul, 1) := by decide +kernel
theorem dX7_draw_10 : decode cX7_draw 10 = .ok (.ldc2_w 242, 3) := by decide +kernel
theorem dX7_draw_13 : decode cX7_draw 13 = .ok (.ladd, 1) := by decide +kernel
theorem dX7_draw_14 : decode cX7_draw 14 = .ok (.ldc2_w 244, 3) := by decide +kernel
theorem dX7_draw_17 : decode cX7_draw 17 = .ok (.lrem, 1) := by decide +kernel
theorem dX7_draw_18 : decode cX7_draw 18 = .ok (.l2i, 1) := by decide +kernel
theorem dX7_draw_19 : decode cX7_draw 19 = .ok (.putfield 237, 3) := by decide +kernel
theorem dX7_draw_22 : decode cX7_draw 22 = .ok (.aload_n 0, 1) := by decide +kernel
theorem dX7_draw_23 : decode cX7_draw 23 = .ok (.getfield 237, 3) := by decide +kernel
theorem dX7_draw_26 : decode cX7_draw 26 = .ok (.ldc 246, 2) := by decide +kernel
theorem dX7_draw_28 : decode cX7_draw 28 = .ok (.idiv, 1) := by decide +kernel
theorem dX7_draw_29 : decode cX7_draw 29 = .ok (.iload_n 1, 1) := by decide +kernel
theorem dX7_draw_30 : decode cX7_draw 30 = .ok (.irem, 1) := by decide +kernel
theorem dX7_draw_31 : decode cX7_draw 31 = .ok (.ireturn, 1) := by decide +kernel
theorem dX7_drift_0 : decode cX7_drift 0 = .ok (.aload_n 0, 1) := by decide +kernel
theorem dX7_drift_1 : decode cX7_drift 1 = .ok (.iload_n 1, 1) := by decide +kernel
theorem dX7_drift_2 : decode cX7_drift 2 = .ok (.invokevirtual 216, 3) := by decide +kernel
theorem dX7_drift_5 : decode cX7_drift 5 = .ok (.istore_n 2, 1) := by decide +kernel
theorem dX7_drift_6 : decode cX7_drift 6 = .ok (.iload_n 2, 1) := by decide +kernel
theorem dX7_drift_7 : decode cX7_drift 7 = .ok (.ifCond .eq 5, 3) := by decide +kernel
theorem dX7_drift_10 : decode cX7_drift 10 = .ok (.iload_n 2, 1) := by decide +kernel
theorem dX7_drift_11 : decode cX7_drift 11 = .ok (.ireturn, 1) := by decide +kernel
theorem dX7_drift_12 : decode cX7_drift 12 = .ok (.aload_n 0, 1) := by decide +kernel
theorem dX7_drift_13 : decode cX7_drift 13 = .ok (.invokevirtual 219, 3) := by decide +kernel
theorem dX7_drift_16 : decode cX7_drift 16 = .ok (.iconst 0, 1) := by decide +kernel
theorem dX7_drift_17 : decode cX7_drift 17 = .ok (.istore_n 3, 1) := by decide +kernel
theorem dX7_drift_18 : decode cX7_drift 18 = .ok (.iload_n 3, 1) := by decide +kernel
theorem dX7_drift_19 : decode cX7_drift 19 = .ok (.iload_n 1, 1) := by decide +kernel
theorem dX7_drift_20 : decode cX7_drift 20 = .ok (.if_icmp .ge 19, 3) := by decide +kernel
theorem dX7_drift_23 : decode cX7_drift 23 = .ok (.aload_n 0, 1) := by decide +kernel
theorem dX7_drift_24 : decode cX7_drift 24 = .ok (.aload_n 0, 1) := by decide +kernel
theorem dX7_drift_25 : decode cX7_drift 25 = .ok (.bipush 10, 2) := by decide +kernel
theorem dX7_drift_27 : decode cX7_drift 27 = .ok (.invokevirtual 247, 3) := by decide +kernel
theorem dX7_drift_30 : decode cX7_drift 30 = .ok (.invokevirtual 210, 3) := by decide +kernel
theorem dX7_drift_33 : decode cX7_drift 33 = .ok (.iinc 3 1, 3) := by decide +kernel
theorem dX7_drift_36 : decode cX7_drift 36 = .ok (.goto (-18), 3) := by decide +kernel
theorem dX7_drift_39 : decode cX7_drift 39 = .ok (.aload_n 0, 1) := by decide +kernel
theorem dX7_drift_40 : decode cX7_drift 40 = .ok (.iconst 0, 1) := by decide +kernel
theorem dX7_drift_41 : decode cX7_drift 41 = .ok (.invokevirtual 180, 3) := by decide +kernel
theorem dX7_drift_44 : decode cX7_drift 44 = .ok (.ireturn, 1) := by decide +kernel
theorem dX7_undo_0 : decode cX7_undo 0 = .ok (.aload_n 0, 1) := by decide +kernel
theorem dX7_undo_1 : decode cX7_undo 1 = .ok (.getfield 177, 3) := by decide +kernel
theorem dX7_undo_4 : decode cX7_undo 4 = .ok (.ifCond .ne 6, 3) := by decide +kernel
theorem dX7_undo_7 : decode cX7_undo 7 = .ok (.ldc 215, 2) := by decide +kernel
theorem dX7_undo_9 : decode cX7_undo 9 = .ok (.ireturn, 1) := by decide +kernel
theorem dX7_undo_10 : decode cX7_undo 10 = .ok (.aload_n 0, 1) := by decide +kernel
theorem dX7_undo_11 : decode cX7_undo 11 = .ok (.dup, 1) := by decide +kernel
theorem dX7_undo_12 : decode cX7_undo 12 = .ok (.getfield 177, 3) := by decide +kernel
theorem dX7_undo_15 : decode cX7_undo 15 = .ok (.iconst 1, 1) := by decide +kernel
theorem dX7_undo_16 : decode cX7_undo 16 = .ok (.isub, 1) := by decide +kernel
theorem dX7_undo_17 : decode cX7_undo 17 = .ok (.putfield 177, 3) := by decide +kernel
theorem dX7_undo_20 : decode cX7_undo 20 = .ok (.iconst 0, 1) := by decide +kernel
theorem dX7_undo_21 : decode cX7_undo 21 = .ok (.istore_n 1, 1) := by decide +kernel
theorem dX7_undo_22 : decode cX7_undo 22 = .ok (.iload_n 1, 1) := by decide +kernel
theorem dX7_undo_23 : decode cX7_undo 23 = .ok (.bipush 27, 2) := by decide +kernel
theorem dX7_undo_25 : decode cX7_undo 25 = .ok (.if_icmp .ge 29, 3) := by decide +kernel
theorem dX7_undo_28 : decode cX7_undo 28 = .ok (.aload_n 0, 1) := by decide +kernel
theorem dX7_undo_29 : decode cX7_undo 29 = .ok (.getfield 26, 3) := by decide +kernel
theorem dX7_undo_32 : decode cX7_undo 32 = .ok (.iload_n 1, 1) := by decide +kernel
theorem dX7_undo_33 : decode cX7_undo 33 = .ok (.aload_n 0, 1) := by decide +kernel
theorem dX7_undo_34 : decode cX7_undo 34 = .ok (.getfield 59, 3) := by decide +kernel
theorem dX7_undo_37 : decode cX7_undo 37 = .ok (.bipush 27, 2) := by decide +kernel
theorem dX7_undo_39 : decode cX7_undo 39 = .ok (.aload_n 0, 1) := by decide +kernel
theorem dX7_undo_40 : decode cX7_undo 40 = .ok (.getfield 177, 3) := by decide +kernel
theorem dX7_undo_43 : decode cX7_undo 43 = .ok (.imul, 1) := by decide +kernel
theorem dX7_undo_44 : decode cX7_undo 44 = .ok (.iload_n 1, 1) := by decide +kernel
theorem dX7_undo_45 : decode cX7_undo 45 = .ok (.iadd, 1) := by decide +kernel
theorem dX7_undo_46 : decode cX7_undo 46 = .ok (.iaload, 1) := by decide +kernel
theorem dX7_undo_47 : decode cX7_undo 47 = .ok (.iastore, 1) := by decide +kernel
theorem dX7_undo_48 : decode cX7_undo 48 = .ok (.iinc 1 1, 3) := by decide +kernel
theorem dX7_undo_51 : decode cX7_undo 51 = .ok (.goto (-29), 3) := by decide +kernel
theorem dX7_undo_54 : decode cX7_undo 54 = .ok (.aload_n 0, 1) := by decide +kernel
theorem dX7_undo_55 : decode cX7_undo 55 = .ok (.getfield 177, 3) := by decide +kernel
theorem dX7_undo_58 : decode cX7_undo 58 = .ok (.ireturn, 1) := by decide +kernel
theorem dX7_save_0 : decode cX7_save 0 = .ok (.iconst 0, 1) := by decide +kernel
theorem dX7_save_1 : decode cX7_save 1 = .ok (.istore_n 1, 1) := by decide +kernel
theorem dX7_save_2 : decode cX7_save 2 = .ok (.iload_n 1, 1) := by decide +kernel
theorem dX7_save_3 : decode cX7_save 3 = .ok (.bipush 27, 2) := by decide +kernel
theorem dX7_save_5 : decode cX7_save 5 = .ok (.if_icmp .ge 21, 3) := by decide +kernel
theorem dX7_save_8 : decode cX7_save 8 = .ok (.aload_n 0, 1) := by decide +kernel
theorem dX7_save_9 : decode cX7_save 9 = .ok (.getfield 62, 3) := by decide +kernel
theorem dX7_save_12 : decode cX7_save 12 = .ok (.iload_n 1, 1) := by decide +kernel
theorem dX7_save_13 : decode cX7_save 13 = .ok (.aload_n 0, 1) := by decide +kernel
theorem dX7_save_14 : decode cX7_save 14 = .ok (.getfield 26, 3) := by decide +kernel
theorem dX7_save_17 : decode cX7_save 17 = .ok (.iload_n 1, 1) := by decide +kernel
theorem dX7_save_18 : decode cX7_save 18 = .ok (.iaload, 1) := by decide +kernel
theorem dX7_save_19 : decode cX7_save 19 = .ok (.iastore, 1) := by decide +kernel
theorem dX7_save_20 : decode cX7_save 20 = .ok (.iinc 1 1, 3) := by decide +kernel
theorem dX7_save_23 : decode cX7_save 23 = .ok (.goto (-21), 3) := by decide +kernel
theorem dX7_save_26 : decode cX7_save 26 = .ok (.return_, 1) := by decide +kernel
theorem dX7_putBack_0 : decode cX7_putBack 0 = .ok (.iconst 0, 1) := by decide +kernel
theorem dX7_putBack_1 : decode cX7_putBack 1 = .ok (.istore_n 1, 1) := by decide +kernel
theorem dX7_putBack_2 : decode cX7_putBack 2 = .ok (.iload_n 1, 1) := by decide +kernel
theorem dX7_putBack_3 : decode cX7_putBack 3 = .ok (.bipush 27, 2) := by decide +kernel
theorem dX7_putBack_5 : decode cX7_putBack 5 = .ok (.if_icmp .ge 21, 3) := by decide +kernel
theorem dX7_putBack_8 : decode cX7_putBack 8 = .ok (.aload_n 0, 1) := by decide +kernel
theorem dX7_putBack_9 : decode cX7_putBack 9 = .ok (.getfield 26, 3) := by decide +kernel
theorem dX7_putBack_12 : decode cX7_putBack 12 = .ok (.iload_n 1, 1) := by decide +kernel
theorem dX7_putBack_13 : decode cX7_putBack 13 = .ok (.aload_n 0, 1) := by decide +kernel
theorem dX7_putBack_14 : decode cX7_putBack 14 = .ok (.getfield 62, 3) := by decide +kernel
theorem dX7_putBack_17 : decode cX7_putBack 17 = .ok (.iload_n 1, 1) := by decide +kernel
theorem dX7_putBack_18 : decode cX7_putBack 18 = .ok (.iaload, 1) := by decide +kernel
theorem dX7_putBack_19 : decode cX7_putBack 19 = .ok (.iastore, 1) := by decide +kernel
theorem dX7_putBack_20 : decode cX7_putBack 20 = .ok (.iinc 1 1, 3) := by decide +kernel
theorem dX7_putBack_23 : decode cX7_putBack 23 = .ok (.goto (-21), 3) := by decide +kernel
theorem dX7_putBack_26 : decode cX7_putBack 26 = .ok (.return_, 1) := by decide +kernel
theorem dX7_souls_0 : decode cX7_souls 0 = .ok (.iconst 0, 1) := by decide +kernel
theorem dX7_souls_1 : decode cX7_souls 1 = .ok (.istore_n 2, 1) := by decide +kernel
theorem dX7_souls_2 : decode cX7_souls 2 = .ok (.iconst 0, 1) := by decide +kernel
theorem dX7_souls_3 : decode cX7_souls 3 = .ok (.istore_n 3, 1) := by decide +kernel
theorem dX7_souls_4 : decode cX7_souls 4 = .ok (.iload_n 3, 1) := by decide +kernel
theorem dX7_souls_5 : decode cX7_souls 5 = .ok (.aload_n 0, 1) := by decide +kernel
theorem dX7_souls_6 : decode cX7_souls 6 = .ok (.getfield 96, 3) := by decide +kernel
theorem dX7_souls_9 : decode cX7_souls 9 = .ok (.if_icmp .ge 32, 3) := by decide +kernel
theorem dX7_souls_12 : decode cX7_souls 12 = .ok (.iload_n 2, 1) := by decide +kernel
theorem dX7_souls_13 : decode cX7_souls 13 = .ok (.aload_n 0, 1) := by decide +kernel
theorem dX7_souls_14 : decode cX7_souls 14 = .ok (.getfield 7, 3) := by decide +kernel
theorem dX7_souls_17 : decode cX7_souls 17 = .ok (.iload_n 3, 1) := by decide +kernel
theorem dX7_souls_18 : decode cX7_souls 18 = .ok (.iaload, 1) := by decide +kernel
theorem dX7_souls_19 : decode cX7_souls 19 = .ok (.iload_n 1, 1) := by decide +kernel
theorem dX7_souls_20 : decode cX7_souls 20 = .ok (.if_icmp .ne 12, 3) := by decide +kernel
theorem dX7_souls_23 : decode cX7_souls 23 = .ok (.aload_n 0, 1) := by decide +kernel
theorem dX7_souls_24 : decode cX7_souls 24 = .ok (.getfield 26, 3) := by decide +kernel
theorem dX7_souls_27 : decode cX7_souls 27 = .ok (.iload_n 3, 1) := by decide +kernel
theorem dX7_souls_28 : decode cX7_souls 28 = .ok (.iaload, 1) := by decide +kernel
theorem dX7_souls_29 : decode cX7_souls 29 = .ok (.goto 4, 3) := by decide +kernel
theorem dX7_souls_32 : decode cX7_souls 32 = .ok (.iconst 0, 1) := by decide +kernel
theorem dX7_souls_33 : decode cX7_souls 33 = .ok (.iadd, 1) := by decide +kernel
theorem dX7_souls_34 : decode cX7_souls 34 = .ok (.istore_n 2, 1) := by decide +kernel
theorem dX7_souls_35 : decode cX7_souls 35 = .ok (.iinc 3 1, 3) := by decide +kernel
theorem dX7_souls_38 : decode cX7_souls 38 = .ok (.goto (-34), 3) := by decide +kernel
theorem dX7_souls_41 : decode cX7_souls 41 = .ok (.iload_n 2, 1) := by decide +kernel
theorem dX7_souls_42 : decode cX7_souls 42 = .ok (.ireturn, 1) := by decide +kernel
theorem dX7_ofCounty_0 : decode cX7_ofCounty 0 = .ok (.iconst 0, 1) := by decide +kernel
theorem dX7_ofCounty_1 : decode cX7_ofCounty 1 = .ok (.istore_n 2, 1) := by decide +kernel
theorem dX7_ofCounty_2 : decode cX7_ofCounty 2 = .ok (.iconst 0, 1) := by decide +kernel
theorem dX7_ofCounty_3 : decode cX7_ofCounty 3 = .ok (.istore_n 3, 1) := by decide +kernel
theorem dX7_ofCounty_4 : decode cX7_ofCounty 4 = .ok (.iload_n 3, 1) := by decide +kernel
theorem dX7_ofCounty_5 : decode cX7_ofCounty 5 = .ok (.aload_n 0, 1) := by decide +kernel
theorem dX7_ofCounty_6 : decode cX7_ofCounty 6 = .ok (.getfield 96, 3) := by decide +kernel
theorem dX7_ofCounty_9 : decode cX7_ofCounty 9 = .ok (.if_icmp .ge 29, 3) := by decide +kernel
theorem dX7_ofCounty_12 : decode cX7_ofCounty 12 = .ok (.iload_n 2, 1) := by decide +kernel
theorem dX7_ofCounty_13 : decode cX7_ofCounty 13 = .ok (.aload_n 0, 1) := by decide +kernel
theorem dX7_ofCounty_14 : decode cX7_ofCounty 14 = .ok (.getfield 7, 3) := by decide +kernel
theorem dX7_ofCounty_17 : decode cX7_ofCounty 17 = .ok (.iload_n 3, 1) := by decide +kernel
theorem dX7_ofCounty_18 : decode cX7_ofCounty 18 = .ok (.iaload, 1) := by decide +kernel
theorem dX7_ofCounty_19 : decode cX7_ofCounty 19 = .ok (.iload_n 1, 1) := by decide +kernel
theorem dX7_ofCounty_20 : decode cX7_ofCounty 20 = .ok (.if_icmp .ne 9, 3) := by decide +kernel
theorem dX7_ofCounty_23 : decode cX7_ofCounty 23 = .ok (.iconst 1, 1) := by decide +kernel
theorem dX7_ofCounty_24 : decode cX7_ofCounty 24 = .ok (.iload_n 3, 1) := by decide +kernel
theorem dX7_ofCounty_25 : decode cX7_ofCounty 25 = .ok (.ishl, 1) := by decide +kernel
theorem dX7_ofCounty_26 : decode cX7_ofCounty 26 = .ok (.goto 4, 3) := by decide +kernel
theorem dX7_ofCounty_29 : decode cX7_ofCounty 29 = .ok (.iconst 0, 1) := by decide +kernel
theorem dX7_ofCounty_30 : decode cX7_ofCounty 30 = .ok (.ior, 1) := by decide +kernel
theorem dX7_ofCounty_31 : decode cX7_ofCounty 31 = .ok (.istore_n 2, 1) := by decide +kernel
theorem dX7_ofCounty_32 : decode cX7_ofCounty 32 = .ok (.iinc 3 1, 3) := by decide +kernel
theorem dX7_ofCounty_35 : decode cX7_ofCounty 35 = .ok (.goto (-31), 3) := by decide +kernel
theorem dX7_ofCounty_38 : decode cX7_ofCounty 38 = .ok (.iload_n 2, 1) := by decide +kernel
theorem dX7_ofCounty_39 : decode cX7_ofCounty 39 = .ok (.ireturn, 1) := by decide +kernel
theorem dX7_count_0 : decode cX7_count 0 = .ok (.aload_n 0, 1) := by decide +kernel
theorem dX7_count_1 : decode cX7_count 1 = .ok (.iload_n 1, 1) := by decide +kernel
theorem dX7_count_2 : decode cX7_count 2 = .ok (.invokevirtual 250, 3) := by decide +kernel
theorem dX7_count_5 : decode cX7_count 5 = .ok (.ifCond .ne 6, 3) := by decide +kernel
theorem dX7_count_8 : decode cX7_count 8 = .ok (.ldc 188, 2) := by decide +kernel
theorem dX7_count_10 : decode cX7_count 10 = .ok (.ireturn, 1) := by decide +kernel
theorem dX7_count_11 : decode cX7_count 11 = .ok (.iload_n 2, 1) := by decide +kernel
theorem dX7_count_12 : decode cX7_count 12 = .ok (.i2l, 1) := by decide +kernel
theorem dX7_count_13 : decode cX7_count 13 = .ok (.lconst 0, 1) := by decide +kernel
theorem dX7_count_14 : decode cX7_count 14 = .ok (.ldc2_w 253, 3) := by decide +kernel
theorem dX7_count_17 : decode cX7_count 17 = .ok (.invokestatic 99, 3) := by decide +kernel
theorem dX7_count_20 : decode cX7_count 20 = .ok (.ifCond .eq 15, 3) := by decide +kernel
theorem dX7_count_23 : decode cX7_count 23 = .ok (.iload_n 3, 1) := by decide +kernel
theorem dX7_count_24 : decode cX7_count 24 = .ok (.i2l, 1) := by decide +kernel
theorem dX7_count_25 : decode cX7_count 25 = .ok (.lconst 0, 1) := by decide +kernel
theorem dX7_count_26 : decode cX7_count 26 = .ok (.ldc2_w 255, 3) := by decide +kernel
theorem dX7_count_29 : decode cX7_count 29 = .ok (.invokestatic 99, 3) := by decide +kernel
theorem dX7_count_32 : decode cX7_count 32 = .ok (.ifCond .ne 6, 3) := by decide +kernel
theorem dX7_count_35 : decode cX7_count 35 = .ok (.ldc 108, 2) := by decide +kernel
theorem dX7_count_37 : decode cX7_count 37 = .ok (.ireturn, 1) := by decide +kernel
theorem dX7_count_38 : decode cX7_count 38 = .ok (.aload_n 0, 1) := by decide +kernel
theorem dX7_count_39 : decode cX7_count 39 = .ok (.invokevirtual 257, 3) := by decide +kernel
theorem dX7_count_42 : decode cX7_count 42 = .ok (.iconst 0, 1) := by decide +kernel
theorem dX7_count_43 : decode cX7_count 43 = .ok (.istore 4, 2) := by decide +kernel
theorem dX7_count_45 : decode cX7_count 45 = .ok (.iload 4, 2) := by decide +kernel
theorem dX7_count_47 : decode cX7_count 47 = .ok (.iload_n 2, 1) := by decide +kernel
theorem dX7_count_48 : decode cX7_count 48 = .ok (.if_icmp .ge 13, 3) := by decide +kernel
theorem dX7_count_51 : decode cX7_count 51 = .ok (.aload_n 0, 1) := by decide +kernel
theorem dX7_count_52 : decode cX7_count 52 = .ok (.invokevirtual 222, 3) := by decide +kernel
theorem dX7_count_55 : decode cX7_count 55 = .ok (.iinc 4 1, 3) := by decide +kernel
theorem dX7_count_58 : decode cX7_count 58 = .ok (.goto (-13), 3) := by decide +kernel
theorem dX7_count_61 : decode cX7_count 61 = .ok (.aload_n 0, 1) := by decide +kernel
theorem dX7_count_62 : decode cX7_count 62 = .ok (.iload_n 1, 1) := by decide +kernel
theorem dX7_count_63 : decode cX7_count 63 = .ok (.invokevirtual 260, 3) := by decide +kernel
theorem dX7_count_66 : decode cX7_count 66 = .ok (.istore 4, 2) := by decide +kernel
theorem dX7_count_68 : decode cX7_count 68 = .ok (.aload_n 0, 1) := by decide +kernel
theorem dX7_count_69 : decode cX7_count 69 = .ok (.invokevirtual 263, 3) := by decide +kernel
theorem dX7_count_72 : decode cX7_count 72 = .ok (.iload_n 3, 1) := by decide +kernel
theorem dX7_count_73 : decode cX7_count 73 = .ok (.ifCond .ne 8, 3) := by decide +kernel
theorem dX7_count_76 : decode cX7_count 76 = .ok (.iload 4, 2) := by decide +kernel
theorem dX7_count_78 : decode cX7_count 78 = .ok (.goto 25, 3) := by decide +kernel
theorem dX7_count_81 : decode cX7_count 81 = .ok (.iload_n 3, 1) := by decide +kernel
theorem dX7_count_82 : decode cX7_count 82 = .ok (.iconst 1, 1) := by decide +kernel
theorem dX7_count_83 : decode cX7_count 83 = .ok (.if_icmp .ne 13, 3) := by decide +kernel
theorem dX7_count_86 : decode cX7_count 86 = .ok (.iload 4, 2) := by decide +kernel
theorem dX7_count_88 : decode cX7_count 88 = .ok (.aload_n 0, 1) := by decide +kernel
theorem dX7_count_89 : decode cX7_count 89 = .ok (.getfield 156, 3) := by decide +kernel
theorem dX7_count_92 : decode cX7_count 92 = .ok (.idiv, 1) := by decide +kernel
theorem dX7_count_93 : decode cX7_count 93 = .ok (.goto 10, 3) := by decide +kernel
theorem dX7_count_96 : decode cX7_count 96 = .ok (.iload 4, 2) := by decide +kernel
theorem dX7_count_98 : decode cX7_count 98 = .ok (.aload_n 0, 1) := by decide +kernel
theorem dX7_count_99 : decode cX7_count 99 = .ok (.getfield 159, 3) := by decide +kernel
theorem dX7_count_102 : decode cX7_count 102 = .ok (.idiv, 1) := by decide +kernel
theorem dX7_count_103 : decode cX7_count 103 = .ok (.ireturn, 1) := by decide +kernel
theorem dX7_leave_0 : decode cX7_leave 0 = .ok (.aload_n 0, 1) := by decide +kernel
theorem dX7_leave_1 : decode cX7_leave 1 = .ok (.iload_n 1, 1) := by decide +kernel
theorem dX7_leave_2 : decode cX7_leave 2 = .ok (.invokevirtual 250, 3) := by decide +kernel
theorem dX7_leave_5 : decode cX7_leave 5 = .ok (.ifCond .ne 6, 3) := by decide +kernel
theorem dX7_leave_8 : decode cX7_leave 8 = .ok (.ldc 188, 2) := by decide +kernel
theorem dX7_leave_10 : decode cX7_leave 10 = .ok (.ireturn, 1) := by decide +kernel
theorem dX7_leave_11 : decode cX7_leave 11 = .ok (.iload_n 2, 1) := by decide +kernel
theorem dX7_leave_12 : decode cX7_leave 12 = .ok (.i2l, 1) := by decide +kernel
theorem dX7_leave_13 : decode cX7_leave 13 = .ok (.lconst 0, 1) := by decide +kernel
theorem dX7_leave_14 : decode cX7_leave 14 = .ok (.ldc2_w 213, 3) := by decide +kernel
theorem dX7_leave_17 : decode cX7_leave 17 = .ok (.invokestatic 99, 3) := by decide +kernel
theorem dX7_leave_20 : decode cX7_leave 20 = .ok (.ifCond .eq 15, 3) := by decide +kernel
theorem dX7_leave_23 : decode cX7_leave 23 = .ok (.iload_n 3, 1) := by decide +kernel
theorem dX7_leave_24 : decode cX7_leave 24 = .ok (.i2l, 1) := by decide +kernel
theorem dX7_leave_25 : decode cX7_leave 25 = .ok (.lconst 0, 1) := by decide +kernel
theorem dX7_leave_26 : decode cX7_leave 26 = .ok (.ldc2_w 213, 3) := by decide +kernel
theorem dX7_leave_29 : decode cX7_leave 29 = .ok (.invokestatic 99, 3) := by decide +kernel
theorem dX7_leave_32 : decode cX7_leave 32 = .ok (.ifCond .ne 6, 3) := by decide +kernel
theorem dX7_leave_35 : decode cX7_leave 35 = .ok (.ldc 108, 2) := by decide +kernel
theorem dX7_leave_37 : decode cX7_leave 37 = .ok (.ireturn, 1) := by decide +kernel
theorem dX7_leave_38 : decode cX7_leave 38 = .ok (.aload_n 0, 1) := by decide +kernel
theorem dX7_leave_39 : decode cX7_leave 39 = .ok (.invokevirtual 257, 3) := by decide +kernel
theorem dX7_leave_42 : decode cX7_leave 42 = .ok (.aload_n 0, 1) := by decide +kernel
theorem dX7_leave_43 : decode cX7_leave 43 = .ok (.iload_n 1, 1) := by decide +kernel
theorem dX7_leave_44 : decode cX7_leave 44 = .ok (.invokevirtual 266, 3) := by decide +kernel
theorem dX7_leave_47 : decode cX7_leave 47 = .ok (.istore 4, 2) := by decide +kernel
theorem dX7_leave_49 : decode cX7_leave 49 = .ok (.iconst (-1), 1) := by decide +kernel
theorem dX7_leave_50 : decode cX7_leave 50 = .ok (.istore 5, 2) := by decide +kernel
theorem dX7_leave_52 : decode cX7_leave 52 = .ok (.iconst 0, 1) := by decide +kernel
theorem dX7_leave_53 : decode cX7_leave 53 = .ok (.istore 6, 2) := by decide +kernel
theorem dX7_leave_55 : decode cX7_leave 55 = .ok (.iload 6, 2) := by decide +kernel
theorem dX7_leave_57 : decode cX7_leave 57 = .ok (.iload 4, 2) := by decide +kernel
theorem dX7_leave_59 : decode cX7_leave 59 = .ok (.if_icmp .gt 110, 3) := by decide +kernel
theorem dX7_leave_62 : decode cX7_leave 62 = .ok (.iload 6, 2) := by decide +kernel
theorem dX7_leave_64 : decode cX7_leave 64 = .ok (.iload 4, 2) := by decide +kernel
theorem dX7_leave_66 : decode cX7_leave 66 = .ok (.iconst (-1), 1) := by decide +kernel
theorem dX7_leave_67 : decode cX7_leave 67 = .ok (.ixor, 1) := by decide +kernel
theorem dX7_leave_68 : decode cX7_leave 68 = .ok (.iand, 1) := by decide +kernel
theorem dX7_leave_69 : decode cX7_leave 69 = .ok (.ifCond .ne 94, 3) := by decide +kernel
theorem dX7_leave_72 : decode cX7_leave 72 = .ok (.iload 5, 2) := by decide +kernel
theorem dX7_leave_74 : decode cX7_leave 74 = .ok (.ifCond .lt 16, 3) := by decide +kernel
theorem dX7_leave_77 : decode cX7_leave 77 = .ok (.iload 6, 2) := by decide +kernel
theorem dX7_leave_79 : decode cX7_leave 79 = .ok (.invokestatic 269, 3) := by decide +kernel
theorem dX7_leave_82 : decode cX7_leave 82 = .ok (.iload 5, 2) := by decide +kernel
theorem dX7_leave_84 : decode cX7_leave 84 = .ok (.invokestatic 269, 3) := by decide +kernel
theorem dX7_leave_87 : decode cX7_leave 87 = .ok (.if_icmp .le 76, 3) := by decide +kernel
theorem dX7_leave_90 : decode cX7_leave 90 = .ok (.aload_n 0, 1) := by decide +kernel
theorem dX7_leave_91 : decode cX7_leave 91 = .ok (.getfield 26, 3) := by decide +kernel
theorem dX7_leave_94 : decode cX7_leave 94 = .ok (.bipush 24, 2) := by decide +kernel
theorem dX7_leave_96 : decode cX7_leave 96 = .ok (.aload_n 0, 1) := by decide +kernel
theorem dX7_leave_97 : decode cX7_leave 97 = .ok (.getfield 62, 3) := by decide +kernel
theorem dX7_leave_100 : decode cX7_leave 100 = .ok (.bipush 24, 2) := by decide +kernel
theorem dX7_leave_102 : decode cX7_leave 102 = .ok (.iaload, 1) := by decide +kernel
theorem dX7_leave_103 : decode cX7_leave 103 = .ok (.iload 4, 2) := by decide +kernel
theorem dX7_leave_105 : decode cX7_leave 105 = .ok (.iconst (-1), 1) := by decide +kernel
theorem dX7_leave_106 : decode cX7_leave 106 = .ok (.ixor, 1) := by decide +kernel
theorem dX7_leave_107 : decode cX7_leave 107 = .ok (.iand, 1) := by decide +kernel
theorem dX7_leave_108 : decode cX7_leave 108 = .ok (.iload 4, 2) := by decide +kernel
theorem dX7_leave_110 : decode cX7_leave 110 = .ok (.iload 6, 2) := by decide +kernel
theorem dX7_leave_112 : decode cX7_leave 112 = .ok (.iconst (-1), 1) := by decide +kernel
theorem dX7_leave_113 : decode cX7_leave 113 = .ok (.ixor, 1) := by decide +kernel
theorem dX7_leave_114 : decode cX7_leave 114 = .ok (.iand, 1) := by decide +kernel
theorem dX7_leave_115 : decode cX7_leave 115 = .ok (.ior, 1) := by decide +kernel
theorem dX7_leave_116 : decode cX7_leave 116 = .ok (.iastore, 1) := by decide +kernel
theorem dX7_leave_117 : decode cX7_leave 117 = .ok (.aload_n 0, 1) := by decide +kernel
theorem dX7_leave_118 : decode cX7_leave 118 = .ok (.invokevirtual 222, 3) := by decide +kernel
theorem dX7_leave_121 : decode cX7_leave 121 = .ok (.aload_n 0, 1) := by decide +kernel
theorem dX7_leave_122 : decode cX7_leave 122 = .ok (.iload_n 1, 1) := by decide +kernel
theorem dX7_leave_123 : decode cX7_leave 123 = .ok (.invokevirtual 260, 3) := by decide +kernel
theorem dX7_leave_126 : decode cX7_leave 126 = .ok (.istore 7, 2) := by decide +kernel
theorem dX7_leave_128 : decode cX7_leave 128 = .ok (.aload_n 0, 1) := by decide +kernel
theorem dX7_leave_129 : decode cX7_leave 129 = .ok (.invokevirtual 263, 3) := by decide +kernel
theorem dX7_leave_132 : decode cX7_leave 132 = .ok (.iload 7, 2) := by decide +kernel
theorem dX7_leave_134 : decode cX7_leave 134 = .ok (.aload_n 0, 1) := by decide +kernel
theorem dX7_leave_135 : decode cX7_leave 135 = .ok (.getfield 156, 3) := by decide +kernel
theorem dX7_leave_138 : decode cX7_leave 138 = .ok (.idiv, 1) := by decide +kernel
theorem dX7_leave_139 : decode cX7_leave 139 = .ok (.iload_n 2, 1) := by decide +kernel
theorem dX7_leave_140 : decode cX7_leave 140 = .ok (.if_icmp .lt 19, 3) := by decide +kernel
theorem dX7_leave_143 : decode cX7_leave 143 = .ok (.iload 7, 2) := by decide +kernel
theorem dX7_leave_145 : decode cX7_leave 145 = .ok (.aload_n 0, 1) := by decide +kernel
theorem dX7_leave_146 : decode cX7_leave 146 = .ok (.getfield 159, 3) := by decide +kernel
theorem dX7_leave_149 : decode cX7_leave 149 = .ok (.idiv, 1) := by decide +kernel
theorem dX7_leave_150 : decode cX7_leave 150 = .ok (.iload_n 3, 1) := by decide +kernel
theorem dX7_leave_151 : decode cX7_leave 151 = .ok (.if_icmp .gt 8, 3) := by decide +kernel
theorem dX7_leave_154 : decode cX7_leave 154 = .ok (.iload 6, 2) := by decide +kernel
theorem dX7_leave_156 : decode cX7_leave 156 = .ok (.goto 5, 3) := by decide +kernel
theorem dX7_leave_159 : decode cX7_leave 159 = .ok (.iload 5, 2) := by decide +kernel
theorem dX7_leave_161 : decode cX7_leave 161 = .ok (.istore 5, 2) := by decide +kernel
theorem dX7_leave_163 : decode cX7_leave 163 = .ok (.iinc 6 1, 3) := by decide +kernel
theorem dX7_leave_166 : decode cX7_leave 166 = .ok (.goto (-111), 3) := by decide +kernel
theorem dX7_leave_169 : decode cX7_leave 169 = .ok (.iload 5, 2) := by decide +kernel
theorem dX7_leave_171 : decode cX7_leave 171 = .ok (.ireturn, 1) := by decide +kernel
theorem dX7_counters_0 : decode cX7_counters 0 = .ok (.aload_n 0, 1) := by decide +kernel
theorem dX7_counters_1 : decode cX7_counters 1 = .ok (.iload_n 1, 1) := by decide +kernel
theorem dX7_counters_2 : decode cX7_counters 2 = .ok (.invokevirtual 250, 3) := by decide +kernel
theorem dX7_counters_5 : decode cX7_counters 5 = .ok (.ifCond .ne 6, 3) := by decide +kernel
theorem dX7_counters_8 : decode cX7_counters 8 = .ok (.ldc 188, 2) := by decide +kernel
theorem dX7_counters_10 : decode cX7_counters 10 = .ok (.ireturn, 1) := by decide +kernel
theorem dX7_counters_11 : decode cX7_counters 11 = .ok (.iconst 0, 1) := by decide +kernel
theorem dX7_counters_12 : decode cX7_counters 12 = .ok (.istore_n 2, 1) := by decide +kernel
theorem dX7_counters_13 : decode cX7_counters 13 = .ok (.iconst 0, 1) := by decide +kernel
theorem dX7_counters_14 : decode cX7_counters 14 = .ok (.istore_n 3, 1) := by decide +kernel
theorem dX7_counters_15 : decode cX7_counters 15 = .ok (.iload_n 3, 1) := by decide +kernel
theorem dX7_counters_16 : decode cX7_counters 16 = .ok (.aload_n 0, 1) := by decide +kernel
theorem dX7_counters_17 : decode cX7_counters 17 = .ok (.getfield 96, 3) := by decide +kernel
theorem dX7_counters_20 : decode cX7_counters 20 = .ok (.if_icmp .ge 76, 3) := by decide +kernel
theorem dX7_counters_23 : decode cX7_counters 23 = .ok (.aload_n 0, 1) := by decide +kernel
theorem dX7_counters_24 : decode cX7_counters 24 = .ok (.getfield 26, 3) := by decide +kernel
theorem dX7_counters_27 : decode cX7_counters 27 = .ok (.iload_n 3, 1) := by decide +kernel
theorem dX7_counters_28 : decode cX7_counters 28 = .ok (.iaload, 1) := by decide +kernel
theorem dX7_counters_29 : decode cX7_counters 29 = .ok (.iconst 1, 1) := by decide +kernel
theorem dX7_counters_30 : decode cX7_counters 30 = .ok (.if_icmp .le 12, 3) := by decide +kernel
theorem dX7_counters_33 : decode cX7_counters 33 = .ok (.aload_n 0, 1) := by decide +kernel
theorem dX7_counters_34 : decode cX7_counters 34 = .ok (.getfield 26, 3) := by decide +kernel
theorem dX7_counters_37 : decode cX7_counters 37 = .ok (.iload_n 3, 1) := by decide +kernel
theorem dX7_counters_38 : decode cX7_counters 38 = .ok (.iaload, 1) := by decide +kernel
theorem dX7_counters_39 : decode cX7_counters 39 = .ok (.goto 4, 3) := by decide +kernel
theorem dX7_counters_42 : decode cX7_counters 42 = .ok (.iconst 0, 1) := by decide +kernel
theorem dX7_counters_43 : decode cX7_counters 43 = .ok (.istore 4, 2) := by decide +kernel
theorem dX7_counters_45 : decode cX7_counters 45 = .ok (.aload_n 0, 1) := by decide +kernel
theorem dX7_counters_46 : decode cX7_counters 46 = .ok (.getfield 26, 3) := by decide +kernel
theorem dX7_counters_49 : decode cX7_counters 49 = .ok (.iload_n 3, 1) := by decide +kernel
theorem dX7_counters_50 : decode cX7_counters 50 = .ok (.iaload, 1) := by decide +kernel
theorem dX7_counters_51 : decode cX7_counters 51 = .ok (.ifCond .le 14, 3) := by decide +kernel
theorem dX7_counters_54 : decode cX7_counters 54 = .ok (.aload_n 0, 1) := by decide +kernel
theorem dX7_counters_55 : decode cX7_counters 55 = .ok (.getfield 26, 3) := by decide +kernel
theorem dX7_counters_58 : decode cX7_counters 58 = .ok (.iload_n 3, 1) := by decide +kernel
theorem dX7_counters_59 : decode cX7_counters 59 = .ok (.iaload, 1) := by decide +kernel
theorem dX7_counters_60 : decode cX7_counters 60 = .ok (.iconst 1, 1) := by decide +kernel
theorem dX7_counters_61 : decode cX7_counters 61 = .ok (.iadd, 1) := by decide +kernel
theorem dX7_counters_62 : decode cX7_counters 62 = .ok (.goto 4, 3) := by decide +kernel
theorem dX7_counters_65 : decode cX7_counters 65 = .ok (.iconst 0, 1) := by decide +kernel
theorem dX7_counters_66 : decode cX7_counters 66 = .ok (.istore 5, 2) := by decide +kernel
theorem dX7_counters_68 : decode cX7_counters 68 = .ok (.iload_n 2, 1) := by decide +kernel
theorem dX7_counters_69 : decode cX7_counters 69 = .ok (.aload_n 0, 1) := by decide +kernel
theorem dX7_counters_70 : decode cX7_counters 70 = .ok (.getfield 7, 3) := by decide +kernel
theorem dX7_counters_73 : decode cX7_counters 73 = .ok (.iload_n 3, 1) := by decide +kernel
theorem dX7_counters_74 : decode cX7_counters 74 = .ok (.iaload, 1) := by decide +kernel
theorem dX7_counters_75 : decode cX7_counters 75 = .ok (.iload_n 1, 1) := by decide +kernel
theorem dX7_counters_76 : decode cX7_counters 76 = .ok (.if_icmp .ne 11, 3) := by decide +kernel
theorem dX7_counters_79 : decode cX7_counters 79 = .ok (.iload 5, 2) := by decide +kernel
theorem dX7_counters_81 : decode cX7_counters 81 = .ok (.iload 4, 2) := by decide +kernel
theorem dX7_counters_83 : decode cX7_counters 83 = .ok (.isub, 1) := by decide +kernel
theorem dX7_counters_84 : decode cX7_counters 84 = .ok (.goto 4, 3) := by decide +kernel
theorem dX7_counters_87 : decode cX7_counters 87 = .ok (.iconst 0, 1) := by decide +kernel
theorem dX7_counters_88 : decode cX7_counters 88 = .ok (.iadd, 1) := by decide +kernel
theorem dX7_counters_89 : decode cX7_counters 89 = .ok (.istore_n 2, 1) := by decide +kernel
theorem dX7_counters_90 : decode cX7_counters 90 = .ok (.iinc 3 1, 3) := by decide +kernel
theorem dX7_counters_93 : decode cX7_counters 93 = .ok (.goto (-78), 3) := by decide +kernel
theorem dX7_counters_96 : decode cX7_counters 96 = .ok (.iload_n 2, 1) := by decide +kernel
theorem dX7_counters_97 : decode cX7_counters 97 = .ok (.ireturn, 1) := by decide +kernel
theorem dX7_digs_0 : decode cX7_digs 0 = .ok (.iconst 0, 1) := by decide +kernel
theorem dX7_digs_1 : decode cX7_digs 1 = .ok (.istore_n 3, 1) := by decide +kernel
theorem dX7_digs_2 : decode cX7_digs 2 = .ok (.iload_n 3, 1) := by decide +kernel
theorem dX7_digs_3 : decode cX7_digs 3 = .ok (.aload_n 0, 1) := by decide +kernel
theorem dX7_digs_4 : decode cX7_digs 4 = .ok (.getfield 96, 3) := by decide +kernel
theorem dX7_digs_7 : decode cX7_digs 7 = .ok (.if_icmp .ge 61, 3) := by decide +kernel
theorem dX7_digs_10 : decode cX7_digs 10 = .ok (.iload_n 2, 1) := by decide +kernel
theorem dX7_digs_11 : decode cX7_digs 11 = .ok (.iconst 2, 1) := by decide +kernel
theorem dX7_digs_12 : decode cX7_digs 12 = .ok (.if_icmp .ne 50, 3) := by decide +kernel
theorem dX7_digs_15 : decode cX7_digs 15 = .ok (.aload_n 0, 1) := by decide +kernel
theorem dX7_digs_16 : decode cX7_digs 16 = .ok (.getfield 7, 3) := by decide +kernel
theorem dX7_digs_19 : decode cX7_digs 19 = .ok (.iload_n 3, 1) := by decide +kernel
theorem dX7_digs_20 : decode cX7_digs 20 = .ok (.iaload, 1) := by decide +kernel
theorem dX7_digs_21 : decode cX7_digs 21 = .ok (.iload_n 1, 1) := by decide +kernel
theorem dX7_digs_22 : decode cX7_digs 22 = .ok (.if_icmp .ne 40, 3) := by decide +kernel
theorem dX7_digs_25 : decode cX7_digs 25 = .ok (.aload_n 0, 1) := by decide +kernel
theorem dX7_digs_26 : decode cX7_digs 26 = .ok (.getfield 26, 3) := by decide +kernel
theorem dX7_digs_29 : decode cX7_digs 29 = .ok (.bipush 16, 2) := by decide +kernel
theorem dX7_digs_31 : decode cX7_digs 31 = .ok (.iload_n 3, 1) := by decide +kernel
theorem dX7_digs_32 : decode cX7_digs 32 = .ok (.iadd, 1) := by decide +kernel
theorem dX7_digs_33 : decode cX7_digs 33 = .ok (.aload_n 0, 1) := by decide +kernel
theorem dX7_digs_34 : decode cX7_digs 34 = .ok (.getfield 26, 3) := by decide +kernel
theorem dX7_digs_37 : decode cX7_digs 37 = .ok (.bipush 16, 2) := by decide +kernel
theorem dX7_digs_39 : decode cX7_digs 39 = .ok (.iload_n 3, 1) := by decide +kernel
theorem dX7_digs_40 : decode cX7_digs 40 = .ok (.iadd, 1) := by decide +kernel
theorem dX7_digs_41 : decode cX7_digs 41 = .ok (.iaload, 1) := by decide +kernel
theorem dX7_digs_42 : decode cX7_digs 42 = .ok (.iconst 2, 1) := by decide +kernel
theorem dX7_digs_43 : decode cX7_digs 43 = .ok (.if_icmp .le 17, 3) := by decide +kernel
theorem dX7_digs_46 : decode cX7_digs 46 = .ok (.aload_n 0, 1) := by decide +kernel
theorem dX7_digs_47 : decode cX7_digs 47 = .ok (.getfield 26, 3) := by decide +kernel
theorem dX7_digs_50 : decode cX7_digs 50 = .ok (.bipush 16, 2) := by decide +kernel
theorem dX7_digs_52 : decode cX7_digs 52 = .ok (.iload_n 3, 1) := by decide +kernel
theorem dX7_digs_53 : decode cX7_digs 53 = .ok (.iadd, 1) := by decide +kernel
theorem dX7_digs_54 : decode cX7_digs 54 = .ok (.iaload, 1) := by decide +kernel
theorem dX7_digs_55 : decode cX7_digs 55 = .ok (.iconst 2, 1) := by decide +kernel
theorem dX7_digs_56 : decode cX7_digs 56 = .ok (.isub, 1) := by decide +kernel
theorem dX7_digs_57 : decode cX7_digs 57 = .ok (.goto 4, 3) := by decide +kernel
theorem dX7_digs_60 : decode cX7_digs 60 = .ok (.iconst 0, 1) := by decide +kernel
theorem dX7_digs_61 : decode cX7_digs 61 = .ok (.iastore, 1) := by decide +kernel
theorem dX7_digs_62 : decode cX7_digs 62 = .ok (.iinc 3 1, 3) := by decide +kernel
theorem dX7_digs_65 : decode cX7_digs 65 = .ok (.goto (-63), 3) := by decide +kernel
theorem dX7_digs_68 : decode cX7_digs 68 = .ok (.return_, 1) := by decide +kernel
theorem dX7_smoke_0 : decode cX7_smoke 0 = .ok (.iconst 0, 1) := by decide +kernel
theorem dX7_smoke_1 : decode cX7_smoke 1 = .ok (.istore_n 2, 1) := by decide +kernel
theorem dX7_smoke_2 : decode cX7_smoke 2 = .ok (.iload_n 2, 1) := by decide +kernel
theorem dX7_smoke_3 : decode cX7_smoke 3 = .ok (.aload_n 0, 1) := by decide +kernel
theorem dX7_smoke_4 : decode cX7_smoke 4 = .ok (.getfield 96, 3) := by decide +kernel
theorem dX7_smoke_7 : decode cX7_smoke 7 = .ok (.if_icmp .ge 36, 3) := by decide +kernel
theorem dX7_smoke_10 : decode cX7_smoke 10 = .ok (.aload_n 0, 1) := by decide +kernel
theorem dX7_smoke_11 : decode cX7_smoke 11 = .ok (.getfield 26, 3) := by decide +kernel
theorem dX7_smoke_14 : decode cX7_smoke 14 = .ok (.bipush 16, 2) := by decide +kernel
theorem dX7_smoke_16 : decode cX7_smoke 16 = .ok (.iload_n 2, 1) := by decide +kernel
theorem dX7_smoke_17 : decode cX7_smoke 17 = .ok (.iadd, 1) := by decide +kernel
theorem dX7_smoke_18 : decode cX7_smoke 18 = .ok (.dup2, 1) := by decide +kernel
theorem dX7_smoke_19 : decode cX7_smoke 19 = .ok (.iaload, 1) := by decide +kernel
theorem dX7_smoke_20 : decode cX7_smoke 20 = .ok (.aload_n 0, 1) := by decide +kernel
theorem dX7_smoke_21 : decode cX7_smoke 21 = .ok (.getfield 7, 3) := by decide +kernel
theorem dX7_smoke_24 : decode cX7_smoke 24 = .ok (.iload_n 2, 1) := by decide +kernel
theorem dX7_smoke_25 : decode cX7_smoke 25 = .ok (.iaload, 1) := by decide +kernel
theorem dX7_smoke_26 : decode cX7_smoke 26 = .ok (.iload_n 1, 1) := by decide +kernel
theorem dX7_smoke_27 : decode cX7_smoke 27 = .ok (.if_icmp .ne 7, 3) := by decide +kernel
theorem dX7_smoke_30 : decode cX7_smoke 30 = .ok (.iconst 2, 1) := by decide +kernel
theorem dX7_smoke_31 : decode cX7_smoke 31 = .ok (.goto 4, 3) := by decide +kernel
theorem dX7_smoke_34 : decode cX7_smoke 34 = .ok (.iconst 0, 1) := by decide +kernel
theorem dX7_smoke_35 : decode cX7_smoke 35 = .ok (.iadd, 1) := by decide +kernel
theorem dX7_smoke_36 : decode cX7_smoke 36 = .ok (.iastore, 1) := by decide +kernel
theorem dX7_smoke_37 : decode cX7_smoke 37 = .ok (.iinc 2 1, 3) := by decide +kernel
theorem dX7_smoke_40 : decode cX7_smoke 40 = .ok (.goto (-38), 3) := by decide +kernel
theorem dX7_smoke_43 : decode cX7_smoke 43 = .ok (.return_, 1) := by decide +kernel
theorem dX7_findGains_0 : decode cX7_findGains 0 = .ok (.aload_n 0, 1) := by decide +kernel
theorem dX7_findGains_1 : decode cX7_findGains 1 = .ok (.invokevirtual 257, 3) := by decide +kernel
theorem dX7_findGains_4 : decode cX7_findGains 4 = .ok (.iconst 0, 1) := by decide +kernel
theorem dX7_findGains_5 : decode cX7_findGains 5 = .ok (.istore_n 3, 1) := by decide +kernel
theorem dX7_findGains_6 : decode cX7_findGains 6 = .ok (.iload_n 3, 1) := by decide +kernel
theorem dX7_findGains_7 : decode cX7_findGains 7 = .ok (.bipush 9, 2) := by decide +kernel
theorem dX7_findGains_9 : decode cX7_findGains 9 = .ok (.if_icmp .ge 84, 3) := by decide +kernel
theorem dX7_findGains_12 : decode cX7_findGains 12 = .ok (.aload_n 0, 1) := by decide +kernel
theorem dX7_findGains_13 : decode cX7_findGains 13 = .ok (.iload_n 1, 1) := by decide +kernel
theorem dX7_findGains_14 : decode cX7_findGains 14 = .ok (.iload_n 3, 1) := by decide +kernel
theorem dX7_findGains_15 : decode cX7_findGains 15 = .ok (.iconst 3, 1) := by decide +kernel
theorem dX7_findGains_16 : decode cX7_findGains 16 = .ok (.idiv, 1) := by decide +kernel
theorem dX7_findGains_17 : decode cX7_findGains 17 = .ok (.invokevirtual 272, 3) := by decide +kernel
theorem dX7_findGains_20 : decode cX7_findGains 20 = .ok (.aload_n 0, 1) := by decide +kernel
theorem dX7_findGains_21 : decode cX7_findGains 21 = .ok (.iload_n 2, 1) := by decide +kernel
theorem dX7_findGains_22 : decode cX7_findGains 22 = .ok (.iload_n 3, 1) := by decide +kernel
theorem dX7_findGains_23 : decode cX7_findGains 23 = .ok (.iconst 3, 1) := by decide +kernel
theorem dX7_findGains_24 : decode cX7_findGains 24 = .ok (.irem, 1) := by decide +kernel
theorem dX7_findGains_25 : decode cX7_findGains 25 = .ok (.invokevirtual 272, 3) := by decide +kernel
theorem dX7_findGains_28 : decode cX7_findGains 28 = .ok (.iload_n 3, 1) := by decide +kernel
theorem dX7_findGains_29 : decode cX7_findGains 29 = .ok (.iconst 3, 1) := by decide +kernel
theorem dX7_findGains_30 : decode cX7_findGains 30 = .ok (.idiv, 1) := by decide +kernel
theorem dX7_findGains_31 : decode cX7_findGains 31 = .ok (.iconst 1, 1) := by decide +kernel
theorem dX7_findGains_32 : decode cX7_findGains 32 = .ok (.if_icmp .ne 8, 3) := by decide +kernel
theorem dX7_findGains_35 : decode cX7_findGains 35 = .ok (.aload_n 0, 1) := by decide +kernel
theorem dX7_findGains_36 : decode cX7_findGains 36 = .ok (.iload_n 2, 1) := by decide +kernel
theorem dX7_findGains_37 : decode cX7_findGains 37 = .ok (.invokevirtual 275, 3) := by decide +kernel
theorem dX7_findGains_40 : decode cX7_findGains 40 = .ok (.iload_n 3, 1) := by decide +kernel
theorem dX7_findGains_41 : decode cX7_findGains 41 = .ok (.iconst 3, 1) := by decide +kernel
theorem dX7_findGains_42 : decode cX7_findGains 42 = .ok (.irem, 1) := by decide +kernel
theorem dX7_findGains_43 : decode cX7_findGains 43 = .ok (.iconst 1, 1) := by decide +kernel
theorem dX7_findGains_44 : decode cX7_findGains 44 = .ok (.if_icmp .ne 8, 3) := by decide +kernel
theorem dX7_findGains_47 : decode cX7_findGains 47 = .ok (.aload_n 0, 1) := by decide +kernel
theorem dX7_findGains_48 : decode cX7_findGains 48 = .ok (.iload_n 1, 1) := by decide +kernel
theorem dX7_findGains_49 : decode cX7_findGains 49 = .ok (.invokevirtual 275, 3) := by decide +kernel
theorem dX7_findGains_52 : decode cX7_findGains 52 = .ok (.aload_n 0, 1) := by decide +kernel
theorem dX7_findGains_53 : decode cX7_findGains 53 = .ok (.invokevirtual 222, 3) := by decide +kernel
theorem dX7_findGains_56 : decode cX7_findGains 56 = .ok (.aload_n 0, 1) := by decide +kernel
theorem dX7_findGains_57 : decode cX7_findGains 57 = .ok (.getfield 65, 3) := by decide +kernel
theorem dX7_findGains_60 : decode cX7_findGains 60 = .ok (.iload_n 3, 1) := by decide +kernel
theorem dX7_findGains_61 : decode cX7_findGains 61 = .ok (.aload_n 0, 1) := by decide +kernel
theorem dX7_findGains_62 : decode cX7_findGains 62 = .ok (.iload_n 1, 1) := by decide +kernel
theorem dX7_findGains_63 : decode cX7_findGains 63 = .ok (.invokevirtual 260, 3) := by decide +kernel
theorem dX7_findGains_66 : decode cX7_findGains 66 = .ok (.aload_n 0, 1) := by decide +kernel
theorem dX7_findGains_67 : decode cX7_findGains 67 = .ok (.getfield 156, 3) := by decide +kernel
theorem dX7_findGains_70 : decode cX7_findGains 70 = .ok (.idiv, 1) := by decide +kernel
theorem dX7_findGains_71 : decode cX7_findGains 71 = .ok (.aload_n 0, 1) := by decide +kernel
theorem dX7_findGains_72 : decode cX7_findGains 72 = .ok (.iload_n 2, 1) := by decide +kernel
theorem dX7_findGains_73 : decode cX7_findGains 73 = .ok (.invokevirtual 260, 3) := by decide +kernel
theorem dX7_findGains_76 : decode cX7_findGains 76 = .ok (.aload_n 0, 1) := by decide +kernel
theorem dX7_findGains_77 : decode cX7_findGains 77 = .ok (.getfield 156, 3) := by decide +kernel
theorem dX7_findGains_80 : decode cX7_findGains 80 = .ok (.idiv, 1) := by decide +kernel
theorem dX7_findGains_81 : decode cX7_findGains 81 = .ok (.isub, 1) := by decide +kernel
theorem dX7_findGains_82 : decode cX7_findGains 82 = .ok (.iastore, 1) := by decide +kernel
theorem dX7_findGains_83 : decode cX7_findGains 83 = .ok (.aload_n 0, 1) := by decide +kernel
theorem dX7_findGains_84 : decode cX7_findGains 84 = .ok (.invokevirtual 263, 3) := by decide +kernel
theorem dX7_findGains_87 : decode cX7_findGains 87 = .ok (.iinc 3 1, 3) := by decide +kernel
theorem dX7_findGains_90 : decode cX7_findGains 90 = .ok (.goto (-84), 3) := by decide +kernel
theorem dX7_findGains_93 : decode cX7_findGains 93 = .ok (.return_, 1) := by decide +kernel
theorem dX7_cost_0 : decode cX7_cost 0 = .ok (.iload_n 0, 1) := by decide +kernel
theorem dX7_cost_1 : decode cX7_cost 1 = .ok (.ifCond .le 7, 3) := by decide +kernel
theorem dX7_cost_4 : decode cX7_cost 4 = .ok (.iconst 1, 1) := by decide +kernel
theorem dX7_cost_5 : decode cX7_cost 5 = .ok (.goto 4, 3) := by decide +kernel
theorem dX7_cost_8 : decode cX7_cost 8 = .ok (.iconst 0, 1) := by decide +kernel
theorem dX7_cost_9 : decode cX7_cost 9 = .ok (.ireturn, 1) := by decide +kernel
theorem dX7_stays_0 : decode cX7_stays 0 = .ok (.iconst 1, 1) := by decide +kernel
theorem dX7_stays_1 : decode cX7_stays 1 = .ok (.istore_n 2, 1) := by decide +kernel
theorem dX7_stays_2 : decode cX7_stays 2 = .ok (.iconst 0, 1) := by decide +kernel
theorem dX7_stays_3 : decode cX7_stays 3 = .ok (.istore_n 3, 1) := by decide +kernel
theorem dX7_stays_4 : decode cX7_stays 4 = .ok (.iload_n 3, 1) := by decide +kernel
theorem dX7_stays_5 : decode cX7_stays 5 = .ok (.iconst 3, 1) := by decide +kernel
theorem dX7_stays_6 : decode cX7_stays 6 = .ok (.if_icmp .ge 97, 3) := by decide +kernel
theorem dX7_stays_9 : decode cX7_stays 9 = .ok (.iload_n 2, 1) := by decide +kernel
theorem dX7_stays_10 : decode cX7_stays 10 = .ok (.ifCond .eq 40, 3) := by decide +kernel
theorem dX7_stays_13 : decode cX7_stays 13 = .ok (.aload_n 0, 1) := by decide +kernel
theorem dX7_stays_14 : decode cX7_stays 14 = .ok (.getfield 65, 3) := by decide +kernel
theorem dX7_stays_17 : decode cX7_stays 17 = .ok (.iconst 3, 1) := by decide +kernel
theorem dX7_stays_18 : decode cX7_stays 18 = .ok (.iload_n 3, 1) := by decide +kernel
theorem dX7_stays_19 : decode cX7_stays 19 = .ok (.imul, 1) := by decide +kernel
theorem dX7_stays_20 : decode cX7_stays 20 = .ok (.iload_n 1, 1) := by decide +kernel
theorem dX7_stays_21 : decode cX7_stays 21 = .ok (.iconst 3, 1) := by decide +kernel
theorem dX7_stays_22 : decode cX7_stays 22 = .ok (.irem, 1) := by decide +kernel
theorem dX7_stays_23 : decode cX7_stays 23 = .ok (.iadd, 1) := by decide +kernel
theorem dX7_stays_24 : decode cX7_stays 24 = .ok (.iaload, 1) := by decide +kernel
theorem dX7_stays_25 : decode cX7_stays 25 = .ok (.iload_n 3, 1) := by decide +kernel
theorem dX7_stays_26 : decode cX7_stays 26 = .ok (.invokestatic 278, 3) := by decide +kernel
theorem dX7_stays_29 : decode cX7_stays 29 = .ok (.isub, 1) := by decide +kernel
theorem dX7_stays_30 : decode cX7_stays 30 = .ok (.aload_n 0, 1) := by decide +kernel
theorem dX7_stays_31 : decode cX7_stays 31 = .ok (.getfield 65, 3) := by decide +kernel
theorem dX7_stays_34 : decode cX7_stays 34 = .ok (.iload_n 1, 1) := by decide +kernel
theorem dX7_stays_35 : decode cX7_stays 35 = .ok (.iaload, 1) := by decide +kernel
theorem dX7_stays_36 : decode cX7_stays 36 = .ok (.iload_n 1, 1) := by decide +kernel
theorem dX7_stays_37 : decode cX7_stays 37 = .ok (.iconst 3, 1) := by decide +kernel
theorem dX7_stays_38 : decode cX7_stays 38 = .ok (.idiv, 1) := by decide +kernel
theorem dX7_stays_39 : decode cX7_stays 39 = .ok (.invokestatic 278, 3) := by decide +kernel
theorem dX7_stays_42 : decode cX7_stays 42 = .ok (.isub, 1) := by decide +kernel
theorem dX7_stays_43 : decode cX7_stays 43 = .ok (.if_icmp .gt 7, 3) := by decide +kernel
theorem dX7_stays_46 : decode cX7_stays 46 = .ok (.iconst 1, 1) := by decide +kernel
theorem dX7_stays_47 : decode cX7_stays 47 = .ok (.goto 4, 3) := by decide +kernel
theorem dX7_stays_50 : decode cX7_stays 50 = .ok (.iconst 0, 1) := by decide +kernel
theorem dX7_stays_51 : decode cX7_stays 51 = .ok (.istore_n 2, 1) := by decide +kernel
theorem dX7_stays_52 : decode cX7_stays 52 = .ok (.iload_n 2, 1) := by decide +kernel
theorem dX7_stays_53 : decode cX7_stays 53 = .ok (.ifCond .eq 42, 3) := by decide +kernel
theorem dX7_stays_56 : decode cX7_stays 56 = .ok (.aload_n 0, 1) := by decide +kernel
theorem dX7_stays_57 : decode cX7_stays 57 = .ok (.getfield 65, 3) := by decide +kernel
theorem dX7_stays_60 : decode cX7_stays 60 = .ok (.iload_n 1, 1) := by decide +kernel
theorem dX7_stays_61 : decode cX7_stays 61 = .ok (.iconst 3, 1) := by decide +kernel
theorem dX7_stays_62 : decode cX7_stays 62 = .ok (.idiv, 1) := by decide +kernel
theorem dX7_stays_63 : decode cX7_stays 63 = .ok (.iconst 3, 1) := by decide +kernel
theorem dX7_stays_64 : decode cX7_stays 64 = .ok (.imul, 1) := by decide +kernel
theorem dX7_stays_65 : decode cX7_stays 65 = .ok (.iload_n 3, 1) := by decide +kernel
theorem dX7_stays_66 : decode cX7_stays 66 = .ok (.iadd, 1) := by decide +kernel
theorem dX7_stays_67 : decode cX7_stays 67 = .ok (.iaload, 1) := by decide +kernel
theorem dX7_stays_68 : decode cX7_stays 68 = .ok (.ineg, 1) := by decide +kernel
theorem dX7_stays_69 : decode cX7_stays 69 = .ok (.iload_n 3, 1) := by decide +kernel
theorem dX7_stays_70 : decode cX7_stays 70 = .ok (.invokestatic 278, 3) := by decide +kernel
theorem dX7_stays_73 : decode cX7_stays 73 = .ok (.isub, 1) := by decide +kernel
theorem dX7_stays_74 : decode cX7_stays 74 = .ok (.aload_n 0, 1) := by decide +kernel
theorem dX7_stays_75 : decode cX7_stays 75 = .ok (.getfield 65, 3) := by decide +kernel
theorem dX7_stays_78 : decode cX7_stays 78 = .ok (.iload_n 1, 1) := by decide +kernel
theorem dX7_stays_79 : decode cX7_stays 79 = .ok (.iaload, 1) := by decide +kernel
theorem dX7_stays_80 : decode cX7_stays 80 = .ok (.ineg, 1) := by decide +kernel
theorem dX7_stays_81 : decode cX7_stays 81 = .ok (.iload_n 1, 1) := by decide +kernel
theorem dX7_stays_82 : decode cX7_stays 82 = .ok (.iconst 3, 1) := by decide +kernel
theorem dX7_stays_83 : decode cX7_stays 83 = .ok (.irem, 1) := by decide +kernel
theorem dX7_stays_84 : decode cX7_stays 84 = .ok (.invokestatic 278, 3) := by decide +kernel
theorem dX7_stays_87 : decode cX7_stays 87 = .ok (.isub, 1) := by decide +kernel
theorem dX7_stays_88 : decode cX7_stays 88 = .ok (.if_icmp .gt 7, 3) := by decide +kernel
theorem dX7_stays_91 : decode cX7_stays 91 = .ok (.iconst 1, 1) := by decide +kernel
theorem dX7_stays_92 : decode cX7_stays 92 = .ok (.goto 4, 3) := by decide +kernel
theorem dX7_stays_95 : decode cX7_stays 95 = .ok (.iconst 0, 1) := by decide +kernel
theorem dX7_stays_96 : decode cX7_stays 96 = .ok (.istore_n 2, 1) := by decide +kernel
theorem dX7_stays_97 : decode cX7_stays 97 = .ok (.iinc 3 1, 3) := by decide +kernel
theorem dX7_stays_100 : decode cX7_stays 100 = .ok (.goto (-96), 3) := by decide +kernel
theorem dX7_stays_103 : decode cX7_stays 103 = .ok (.iload_n 2, 1) := by decide +kernel
theorem dX7_stays_104 : decode cX7_stays 104 = .ok (.ireturn, 1) := by decide +kernel
theorem dX7_game_0 : decode cX7_game 0 = .ok (.aload_n 0, 1) := by decide +kernel
theorem dX7_game_1 : decode cX7_game 1 = .ok (.iload_n 1, 1) := by decide +kernel
theorem dX7_game_2 : decode cX7_game 2 = .ok (.invokevirtual 250, 3) := by decide +kernel
theorem dX7_game_5 : decode cX7_game 5 = .ok (.ifCond .eq 16, 3) := by decide +kernel
theorem dX7_game_8 : decode cX7_game 8 = .ok (.aload_n 0, 1) := by decide +kernel
theorem dX7_game_9 : decode cX7_game 9 = .ok (.iload_n 2, 1) := by decide +kernel
theorem dX7_game_10 : decode cX7_game 10 = .ok (.invokevirtual 250, 3) := by decide +kernel
theorem dX7_game_13 : decode cX7_game 13 = .ok (.ifCond .eq 8, 3) := by decide +kernel
theorem dX7_game_16 : decode cX7_game 16 = .ok (.iload_n 1, 1) := by decide +kernel
theorem dX7_game_17 : decode cX7_game 17 = .ok (.iload_n 2, 1) := by decide +kernel
theorem dX7_game_18 : decode cX7_game 18 = .ok (.if_icmp .ne 6, 3) := by decide +kernel
theorem dX7_game_21 : decode cX7_game 21 = .ok (.ldc 188, 2) := by decide +kernel
theorem dX7_game_23 : decode cX7_game 23 = .ok (.ireturn, 1) := by decide +kernel
theorem dX7_game_24 : decode cX7_game 24 = .ok (.aload_n 0, 1) := by decide +kernel
theorem dX7_game_25 : decode cX7_game 25 = .ok (.iload_n 1, 1) := by decide +kernel
theorem dX7_game_26 : decode cX7_game 26 = .ok (.iload_n 2, 1) := by decide +kernel
theorem dX7_game_27 : decode cX7_game 27 = .ok (.invokevirtual 281, 3) := by decide +kernel
theorem dX7_game_30 : decode cX7_game 30 = .ok (.iconst 0, 1) := by decide +kernel
theorem dX7_game_31 : decode cX7_game 31 = .ok (.istore 4, 2) := by decide +kernel
theorem dX7_game_33 : decode cX7_game 33 = .ok (.iconst 0, 1) := by decide +kernel
theorem dX7_game_34 : decode cX7_game 34 = .ok (.istore 5, 2) := by decide +kernel
theorem dX7_game_36 : decode cX7_game 36 = .ok (.iload 5, 2) := by decide +kernel
theorem dX7_game_38 : decode cX7_game 38 = .ok (.bipush 9, 2) := by decide +kernel
theorem dX7_game_40 : decode cX7_game 40 = .ok (.if_icmp .ge 40, 3) := by decide +kernel
theorem dX7_game_43 : decode cX7_game 43 = .ok (.aload_n 0, 1) := by decide +kernel
theorem dX7_game_44 : decode cX7_game 44 = .ok (.iload 5, 2) := by decide +kernel
theorem dX7_game_46 : decode cX7_game 46 = .ok (.invokevirtual 284, 3) := by decide +kernel
theorem dX7_game_49 : decode cX7_game 49 = .ok (.ifCond .eq 25, 3) := by decide +kernel
theorem dX7_game_52 : decode cX7_game 52 = .ok (.iload 4, 2) := by decide +kernel
theorem dX7_game_54 : decode cX7_game 54 = .ok (.iload_n 3, 1) := by decide +kernel
theorem dX7_game_55 : decode cX7_game 55 = .ok (.if_icmp .ne 16, 3) := by decide +kernel
theorem dX7_game_58 : decode cX7_game 58 = .ok (.bipush 10, 2) := by decide +kernel
theorem dX7_game_60 : decode cX7_game 60 = .ok (.iload 5, 2) := by decide +kernel
theorem dX7_game_62 : decode cX7_game 62 = .ok (.iconst 3, 1) := by decide +kernel
theorem dX7_game_63 : decode cX7_game 63 = .ok (.idiv, 1) := by decide +kernel
theorem dX7_game_64 : decode cX7_game 64 = .ok (.imul, 1) := by decide +kernel
theorem dX7_game_65 : decode cX7_game 65 = .ok (.iload 5, 2) := by decide +kernel
theorem dX7_game_67 : decode cX7_game 67 = .ok (.iconst 3, 1) := by decide +kernel
theorem dX7_game_68 : decode cX7_game 68 = .ok (.irem, 1) := by decide +kernel
theorem dX7_game_69 : decode cX7_game 69 = .ok (.iadd, 1) := by decide +kernel
theorem dX7_game_70 : decode cX7_game 70 = .ok (.ireturn, 1) := by decide +kernel
theorem dX7_game_71 : decode cX7_game 71 = .ok (.iinc 4 1, 3) := by decide +kernel
theorem dX7_game_74 : decode cX7_game 74 = .ok (.iinc 5 1, 3) := by decide +kernel
theorem dX7_game_77 : decode cX7_game 77 = .ok (.goto (-41), 3) := by decide +kernel
theorem dX7_game_80 : decode cX7_game 80 = .ok (.iload_n 3, 1) := by decide +kernel
theorem dX7_game_81 : decode cX7_game 81 = .ok (.iconst (-1), 1) := by decide +kernel
theorem dX7_game_82 : decode cX7_game 82 = .ok (.if_icmp .ne 8, 3) := by decide +kernel
theorem dX7_game_85 : decode cX7_game 85 = .ok (.iload 4, 2) := by decide +kernel
theorem dX7_game_87 : decode cX7_game 87 = .ok (.goto 4, 3) := by decide +kernel
theorem dX7_game_90 : decode cX7_game 90 = .ok (.iconst (-1), 1) := by decide +kernel
theorem dX7_game_91 : decode cX7_game 91 = .ok (.ireturn, 1) := by decide +kernel
theorem dX7_figure_0 : decode cX7_figure 0 = .ok (.iload_n 0, 1) := by decide +kernel
theorem dX7_figure_1 : decode cX7_figure 1 = .ok (.istore_n 2, 1) := by decide +kernel
theorem dX7_figure_2 : decode cX7_figure 2 = .ok (.bipush 7, 2) := by decide +kernel
theorem dX7_figure_4 : decode cX7_figure 4 = .ok (.istore_n 3, 1) := by decide +kernel
theorem dX7_figure_5 : decode cX7_figure 5 = .ok (.iload_n 3, 1) := by decide +kernel
theorem dX7_figure_6 : decode cX7_figure 6 = .ok (.iload_n 1, 1) := by decide +kernel
theorem dX7_figure_7 : decode cX7_figure 7 = .ok (.if_icmp .le 14, 3) := by decide +kernel
theorem dX7_figure_10 : decode cX7_figure 10 = .ok (.iload_n 2, 1) := by decide +kernel
theorem dX7_figure_11 : decode cX7_figure 11 = .ok (.bipush 6, 2) := by decide +kernel
theorem dX7_figure_13 : decode cX7_figure 13 = .ok (.idiv, 1) := by decide +kernel
theorem dX7_figure_14 : decode cX7_figure 14 = .ok (.istore_n 2, 1) := by decide +kernel
theorem dX7_figure_15 : decode cX7_figure 15 = .ok (.iinc 3 (-1), 3) := by decide +kernel
theorem dX7_figure_18 : decode cX7_figure 18 = .ok (.goto (-13), 3) := by decide +kernel
theorem dX7_figure_21 : decode cX7_figure 21 = .ok (.iload_n 2, 1) := by decide +kernel
theorem dX7_figure_22 : decode cX7_figure 22 = .ok (.bipush 6, 2) := by decide +kernel
theorem dX7_figure_24 : decode cX7_figure 24 = .ok (.irem, 1) := by decide +kernel
theorem dX7_figure_25 : decode cX7_figure 25 = .ok (.ireturn, 1) := by decide +kernel
theorem dX7_brings_0 : decode cX7_brings 0 = .ok (.iconst 0, 1) := by decide +kernel
theorem dX7_brings_1 : decode cX7_brings 1 = .ok (.istore 4, 2) := by decide +kernel
theorem dX7_brings_3 : decode cX7_brings 3 = .ok (.iload 4, 2) := by decide +kernel
theorem dX7_brings_5 : decode cX7_brings 5 = .ok (.aload_n 0, 1) := by decide +kernel
theorem dX7_brings_6 : decode cX7_brings 6 = .ok (.getfield 96, 3) := by decide +kernel
theorem dX7_brings_9 : decode cX7_brings 9 = .ok (.if_icmp .ge 59, 3) := by decide +kernel
theorem dX7_brings_12 : decode cX7_brings 12 = .ok (.iload_n 2, 1) := by decide +kernel
theorem dX7_brings_13 : decode cX7_brings 13 = .ok (.iload 4, 2) := by decide +kernel
theorem dX7_brings_15 : decode cX7_brings 15 = .ok (.invokestatic 287, 3) := by decide +kernel
theorem dX7_brings_18 : decode cX7_brings 18 = .ok (.istore 5, 2) := by decide +kernel
theorem dX7_brings_20 : decode cX7_brings 20 = .ok (.aload_n 0, 1) := by decide +kernel
theorem dX7_brings_21 : decode cX7_brings 21 = .ok (.getfield 26, 3) := by decide +kernel
theorem dX7_brings_24 : decode cX7_brings 24 = .ok (.bipush 16, 2) := by decide +kernel
theorem dX7_brings_26 : decode cX7_brings 26 = .ok (.iload 4, 2) := by decide +kernel
theorem dX7_brings_28 : decode cX7_brings 28 = .ok (.iadd, 1) := by decide +kernel
theorem dX7_brings_29 : decode cX7_brings 29 = .ok (.aload_n 0, 1) := by decide +kernel
theorem dX7_brings_30 : decode cX7_brings 30 = .ok (.getfield 26, 3) := by decide +kernel
theorem dX7_brings_33 : decode cX7_brings 33 = .ok (.bipush 16, 2) := by decide +kernel
theorem dX7_brings_35 : decode cX7_brings 35 = .ok (.iload 4, 2) := by decide +kernel
theorem dX7_brings_37 : decode cX7_brings 37 = .ok (.iadd, 1) := by decide +kernel
theorem dX7_brings_38 : decode cX7_brings 38 = .ok (.iaload, 1) := by decide +kernel
theorem dX7_brings_39 : decode cX7_brings 39 = .ok (.iload 5, 2) := by decide +kernel
theorem dX7_brings_41 : decode cX7_brings 41 = .ok (.if_icmp .le 19, 3) := by decide +kernel
theorem dX7_brings_44 : decode cX7_brings 44 = .ok (.aload_n 0, 1) := by decide +kernel
theorem dX7_brings_45 : decode cX7_brings 45 = .ok (.getfield 26, 3) := by decide +kernel
theorem dX7_brings_48 : decode cX7_brings 48 = .ok (.bipush 16, 2) := by decide +kernel
theorem dX7_brings_50 : decode cX7_brings 50 = .ok (.iload 4, 2) := by decide +kernel
theorem dX7_brings_52 : decode cX7_brings 52 = .ok (.iadd, 1) := by decide +kernel
theorem dX7_brings_53 : decode cX7_brings 53 = .ok (.iaload, 1) := by decide +kernel
theorem dX7_brings_54 : decode cX7_brings 54 = .ok (.iload 5, 2) := by decide +kernel
theorem dX7_brings_56 : decode cX7_brings 56 = .ok (.isub, 1) := by decide +kernel
theorem dX7_brings_57 : decode cX7_brings 57 = .ok (.goto 4, 3) := by decide +kernel
theorem dX7_brings_60 : decode cX7_brings 60 = .ok (.iconst 0, 1) := by decide +kernel
theorem dX7_brings_61 : decode cX7_brings 61 = .ok (.iastore, 1) := by decide +kernel
theorem dX7_brings_62 : decode cX7_brings 62 = .ok (.iinc 4 1, 3) := by decide +kernel
theorem dX7_brings_65 : decode cX7_brings 65 = .ok (.goto (-62), 3) := by decide +kernel
theorem dX7_brings_68 : decode cX7_brings 68 = .ok (.aload_n 0, 1) := by decide +kernel
theorem dX7_brings_69 : decode cX7_brings 69 = .ok (.invokevirtual 222, 3) := by decide +kernel
theorem dX7_brings_72 : decode cX7_brings 72 = .ok (.aload_n 0, 1) := by decide +kernel
theorem dX7_brings_73 : decode cX7_brings 73 = .ok (.iload_n 1, 1) := by decide +kernel
theorem dX7_brings_74 : decode cX7_brings 74 = .ok (.invokevirtual 260, 3) := by decide +kernel
theorem dX7_brings_77 : decode cX7_brings 77 = .ok (.aload_n 0, 1) := by decide +kernel
theorem dX7_brings_78 : decode cX7_brings 78 = .ok (.getfield 156, 3) := by decide +kernel
theorem dX7_brings_81 : decode cX7_brings 81 = .ok (.idiv, 1) := by decide +kernel
theorem dX7_brings_82 : decode cX7_brings 82 = .ok (.istore 4, 2) := by decide +kernel
theorem dX7_brings_84 : decode cX7_brings 84 = .ok (.aload_n 0, 1) := by decide +kernel
theorem dX7_brings_85 : decode cX7_brings 85 = .ok (.invokevirtual 263, 3) := by decide +kernel
theorem dX7_brings_88 : decode cX7_brings 88 = .ok (.iload 4, 2) := by decide +kernel
theorem dX7_brings_90 : decode cX7_brings 90 = .ok (.iload_n 3, 1) := by decide +kernel
theorem dX7_brings_91 : decode cX7_brings 91 = .ok (.if_icmp .le 7, 3) := by decide +kernel
theorem dX7_brings_94 : decode cX7_brings 94 = .ok (.iconst 1, 1) := by decide +kernel
theorem dX7_brings_95 : decode cX7_brings 95 = .ok (.goto 4, 3) := by decide +kernel
theorem dX7_brings_98 : decode cX7_brings 98 = .ok (.iconst 0, 1) := by decide +kernel
theorem dX7_brings_99 : decode cX7_brings 99 = .ok (.ireturn, 1) := by decide +kernel
theorem dX7_codeOf_0 : decode cX7_codeOf 0 = .ok (.iconst 0, 1) := by decide +kernel
theorem dX7_codeOf_1 : decode cX7_codeOf 1 = .ok (.istore_n 1, 1) := by decide +kernel
theorem dX7_codeOf_2 : decode cX7_codeOf 2 = .ok (.iconst 0, 1) := by decide +kernel
theorem dX7_codeOf_3 : decode cX7_codeOf 3 = .ok (.istore_n 2, 1) := by decide +kernel
theorem dX7_codeOf_4 : decode cX7_codeOf 4 = .ok (.iload_n 2, 1) := by decide +kernel
theorem dX7_codeOf_5 : decode cX7_codeOf 5 = .ok (.bipush 8, 2) := by decide +kernel
theorem dX7_codeOf_7 : decode cX7_codeOf 7 = .ok (.if_icmp .ge 21, 3) := by decide +kernel
theorem dX7_codeOf_10 : decode cX7_codeOf 10 = .ok (.bipush 6, 2) := by decide +kernel
theorem dX7_codeOf_12 : decode cX7_codeOf 12 = .ok (.iload_n 1, 1) := by decide +kernel
theorem dX7_codeOf_13 : decode cX7_codeOf 13 = .ok (.imul, 1) := by decide +kernel
theorem dX7_codeOf_14 : decode cX7_codeOf 14 = .ok (.aload_n 0, 1) := by decide +kernel
theorem dX7_codeOf_15 : decode cX7_codeOf 15 = .ok (.getfield 68, 3) := by decide +kernel
theorem dX7_codeOf_18 : decode cX7_codeOf 18 = .ok (.iload_n 2, 1) := by decide +kernel
theorem dX7_codeOf_19 : decode cX7_codeOf 19 = .ok (.iaload, 1) := by decide +kernel
theorem dX7_codeOf_20 : decode cX7_codeOf 20 = .ok (.iadd, 1) := by decide +kernel
theorem dX7_codeOf_21 : decode cX7_codeOf 21 = .ok (.istore_n 1, 1) := by decide +kernel
theorem dX7_codeOf_22 : decode cX7_codeOf 22 = .ok (.iinc 2 1, 3) := by decide +kernel
theorem dX7_codeOf_25 : decode cX7_codeOf 25 = .ok (.goto (-21), 3) := by decide +kernel
theorem dX7_codeOf_28 : decode cX7_codeOf 28 = .ok (.iload_n 1, 1) := by decide +kernel
theorem dX7_codeOf_29 : decode cX7_codeOf 29 = .ok (.ireturn, 1) := by decide +kernel
theorem dX7_nextRow_0 : decode cX7_nextRow 0 = .ok (.iconst (-1), 1) := by decide +kernel
theorem dX7_nextRow_1 : decode cX7_nextRow 1 = .ok (.istore_n 2, 1) := by decide +kernel
theorem dX7_nextRow_2 : decode cX7_nextRow 2 = .ok (.iconst 0, 1) := by decide +kernel
theorem dX7_nextRow_3 : decode cX7_nextRow 3 = .ok (.istore_n 3, 1) := by decide +kernel
theorem dX7_nextRow_4 : decode cX7_nextRow 4 = .ok (.iload_n 3, 1) := by decide +kernel
theorem dX7_nextRow_5 : decode cX7_nextRow 5 = .ok (.aload_n 0, 1) := by decide +kernel
theorem dX7_nextRow_6 : decode cX7_nextRow 6 = .ok (.getfield 96, 3) := by decide +kernel
theorem dX7_nextRow_9 : decode cX7_nextRow 9 = .ok (.if_icmp .ge 23, 3) := by decide +kernel
theorem dX7_nextRow_12 : decode cX7_nextRow 12 = .ok (.iload_n 1, 1) := by decide +kernel
theorem dX7_nextRow_13 : decode cX7_nextRow 13 = .ok (.iload_n 3, 1) := by decide +kernel
theorem dX7_nextRow_14 : decode cX7_nextRow 14 = .ok (.invokestatic 189, 3) := by decide +kernel
theorem dX7_nextRow_17 : decode cX7_nextRow 17 = .ok (.ifCond .eq 7, 3) := by decide +kernel
theorem dX7_nextRow_20 : decode cX7_nextRow 20 = .ok (.iload_n 3, 1) := by decide +kernel
theorem dX7_nextRow_21 : decode cX7_nextRow 21 = .ok (.goto 4, 3) := by decide +kernel
theorem dX7_nextRow_24 : decode cX7_nextRow 24 = .ok (.iload_n 2, 1) := by decide +kernel
theorem dX7_nextRow_25 : decode cX7_nextRow 25 = .ok (.istore_n 2, 1) := by decide +kernel
theorem dX7_nextRow_26 : decode cX7_nextRow 26 = .ok (.iinc 3 1, 3) := by decide +kernel
theorem dX7_nextRow_29 : decode cX7_nextRow 29 = .ok (.goto (-25), 3) := by decide +kernel
theorem dX7_nextRow_32 : decode cX7_nextRow 32 = .ok (.iload_n 2, 1) := by decide +kernel
theorem dX7_nextRow_33 : decode cX7_nextRow 33 = .ok (.istore_n 3, 1) := by decide +kernel
theorem dX7_nextRow_34 : decode cX7_nextRow 34 = .ok (.iconst 0, 1) := by decide +kernel
theorem dX7_nextRow_35 : decode cX7_nextRow 35 = .ok (.istore 4, 2) := by decide +kernel
theorem dX7_nextRow_37 : decode cX7_nextRow 37 = .ok (.iload_n 3, 1) := by decide +kernel
theorem dX7_nextRow_38 : decode cX7_nextRow 38 = .ok (.ifCond .lt 87, 3) := by decide +kernel
theorem dX7_nextRow_41 : decode cX7_nextRow 41 = .ok (.iload 4, 2) := by decide +kernel
theorem dX7_nextRow_43 : decode cX7_nextRow 43 = .ok (.aload_n 0, 1) := by decide +kernel
theorem dX7_nextRow_44 : decode cX7_nextRow 44 = .ok (.getfield 68, 3) := by decide +kernel
theorem dX7_nextRow_47 : decode cX7_nextRow 47 = .ok (.iload_n 3, 1) := by decide +kernel
theorem dX7_nextRow_48 : decode cX7_nextRow 48 = .ok (.iaload, 1) := by decide +kernel
theorem dX7_nextRow_49 : decode cX7_nextRow 49 = .ok (.iadd, 1) := by decide +kernel
theorem dX7_nextRow_50 : decode cX7_nextRow 50 = .ok (.istore 4, 2) := by decide +kernel
theorem dX7_nextRow_52 : decode cX7_nextRow 52 = .ok (.aload_n 0, 1) := by decide +kernel
theorem dX7_nextRow_53 : decode cX7_nextRow 53 = .ok (.getfield 68, 3) := by decide +kernel
theorem dX7_nextRow_56 : decode cX7_nextRow 56 = .ok (.iload_n 3, 1) := by decide +kernel
theorem dX7_nextRow_57 : decode cX7_nextRow 57 = .ok (.iconst 0, 1) := by decide +kernel
theorem dX7_nextRow_58 : decode cX7_nextRow 58 = .ok (.iastore, 1) := by decide +kernel
theorem dX7_nextRow_59 : decode cX7_nextRow 59 = .ok (.iload_n 3, 1) := by decide +kernel
theorem dX7_nextRow_60 : decode cX7_nextRow 60 = .ok (.iconst 1, 1) := by decide +kernel
theorem dX7_nextRow_61 : decode cX7_nextRow 61 = .ok (.isub, 1) := by decide +kernel
theorem dX7_nextRow_62 : decode cX7_nextRow 62 = .ok (.istore 5, 2) := by decide +kernel
theorem dX7_nextRow_64 : decode cX7_nextRow 64 = .ok (.iload 5, 2) := by decide +kernel
theorem dX7_nextRow_66 : decode cX7_nextRow 66 = .ok (.ifCond .lt 18, 3) := by decide +kernel
theorem dX7_nextRow_69 : decode cX7_nextRow 69 = .ok (.iload_n 1, 1) := by decide +kernel
theorem dX7_nextRow_70 : decode cX7_nextRow 70 = .ok (.iload 5, 2) := by decide +kernel
theorem dX7_nextRow_72 : decode cX7_nextRow 72 = .ok (.invokestatic 189, 3) := by decide +kernel
theorem dX7_nextRow_75 : decode cX7_nextRow 75 = .ok (.ifCond .ne 9, 3) := by decide +kernel
theorem dX7_nextRow_78 : decode cX7_nextRow 78 = .ok (.iinc 5 (-1), 3) := by decide +kernel
theorem dX7_nextRow_81 : decode cX7_nextRow 81 = .ok (.goto (-17), 3) := by decide +kernel
theorem dX7_nextRow_84 : decode cX7_nextRow 84 = .ok (.iload 5, 2) := by decide +kernel
theorem dX7_nextRow_86 : decode cX7_nextRow 86 = .ok (.ifCond .ge 5, 3) := by decide +kernel
theorem dX7_nextRow_89 : decode cX7_nextRow 89 = .ok (.iconst 0, 1) := by decide +kernel
theorem dX7_nextRow_90 : decode cX7_nextRow 90 = .ok (.ireturn, 1) := by decide +kernel
theorem dX7_nextRow_91 : decode cX7_nextRow 91 = .ok (.iload 4, 2) := by decide +kernel
theorem dX7_nextRow_93 : decode cX7_nextRow 93 = .ok (.ifCond .le 26, 3) := by decide +kernel
theorem dX7_nextRow_96 : decode cX7_nextRow 96 = .ok (.aload_n 0, 1) := by decide +kernel
theorem dX7_nextRow_97 : decode cX7_nextRow 97 = .ok (.getfield 68, 3) := by decide +kernel
theorem dX7_nextRow_100 : decode cX7_nextRow 100 = .ok (.iload 5, 2) := by decide +kernel
theorem dX7_nextRow_102 : decode cX7_nextRow 102 = .ok (.dup2, 1) := by decide +kernel
theorem dX7_nextRow_103 : decode cX7_nextRow 103 = .ok (.iaload, 1) := by decide +kernel
theorem dX7_nextRow_104 : decode cX7_nextRow 104 = .ok (.iconst 1, 1) := by decide +kernel
theorem dX7_nextRow_105 : decode cX7_nextRow 105 = .ok (.iadd, 1) := by decide +kernel
theorem dX7_nextRow_106 : decode cX7_nextRow 106 = .ok (.iastore, 1) := by decide +kernel
theorem dX7_nextRow_107 : decode cX7_nextRow 107 = .ok (.aload_n 0, 1) := by decide +kernel
theorem dX7_nextRow_108 : decode cX7_nextRow 108 = .ok (.getfield 68, 3) := by decide +kernel
theorem dX7_nextRow_111 : decode cX7_nextRow 111 = .ok (.iload_n 2, 1) := by decide +kernel
theorem dX7_nextRow_112 : decode cX7_nextRow 112 = .ok (.iload 4, 2) := by decide +kernel
theorem dX7_nextRow_114 : decode cX7_nextRow 114 = .ok (.iconst 1, 1) := by decide +kernel
theorem dX7_nextRow_115 : decode cX7_nextRow 115 = .ok (.isub, 1) := by decide +kernel
theorem dX7_nextRow_116 : decode cX7_nextRow 116 = .ok (.iastore, 1) := by decide +kernel
theorem dX7_nextRow_117 : decode cX7_nextRow 117 = .ok (.iconst 1, 1) := by decide +kernel
theorem dX7_nextRow_118 : decode cX7_nextRow 118 = .ok (.ireturn, 1) := by decide +kernel
theorem dX7_nextRow_119 : decode cX7_nextRow 119 = .ok (.iload 5, 2) := by decide +kernel
theorem dX7_nextRow_121 : decode cX7_nextRow 121 = .ok (.istore_n 3, 1) := by decide +kernel
theorem dX7_nextRow_122 : decode cX7_nextRow 122 = .ok (.goto (-85), 3) := by decide +kernel
theorem dX7_nextRow_125 : decode cX7_nextRow 125 = .ok (.iconst 0, 1) := by decide +kernel
theorem dX7_nextRow_126 : decode cX7_nextRow 126 = .ok (.ireturn, 1) := by decide +kernel
theorem dX7_findMud_0 : decode cX7_findMud 0 = .ok (.aload_n 0, 1) := by decide +kernel
theorem dX7_findMud_1 : decode cX7_findMud 1 = .ok (.iload_n 1, 1) := by decide +kernel
theorem dX7_findMud_2 : decode cX7_findMud 2 = .ok (.invokevirtual 266, 3) := by decide +kernel
theorem dX7_findMud_5 : decode cX7_findMud 5 = .ok (.istore_n 2, 1) := by decide +kernel
theorem dX7_findMud_6 : decode cX7_findMud 6 = .ok (.aload_n 0, 1) := by decide +kernel
theorem dX7_findMud_7 : decode cX7_findMud 7 = .ok (.invokevirtual 257, 3) := by decide +kernel
theorem dX7_findMud_10 : decode cX7_findMud 10 = .ok (.aload_n 0, 1) := by decide +kernel
theorem dX7_findMud_11 : decode cX7_findMud 11 = .ok (.invokevirtual 222, 3) := by decide +kernel
theorem dX7_findMud_14 : decode cX7_findMud 14 = .ok (.aload_n 0, 1) := by decide +kernel
theorem dX7_findMud_15 : decode cX7_findMud 15 = .ok (.iload_n 1, 1) := by decide +kernel
theorem dX7_findMud_16 : decode cX7_findMud 16 = .ok (.invokevirtual 260, 3) := by decide +kernel
theorem dX7_findMud_19 : decode cX7_findMud 19 = .ok (.aload_n 0, 1) := by decide +kernel
theorem dX7_findMud_20 : decode cX7_findMud 20 = .ok (.getfield 156, 3) := by decide +kernel
theorem dX7_findMud_23 : decode cX7_findMud 23 = .ok (.idiv, 1) := by decide +kernel
theorem dX7_findMud_24 : decode cX7_findMud 24 = .ok (.istore_n 3, 1) := by decide +kernel
theorem dX7_findMud_25 : decode cX7_findMud 25 = .ok (.aload_n 0, 1) := by decide +kernel
theorem dX7_findMud_26 : decode cX7_findMud 26 = .ok (.invokevirtual 263, 3) := by decide +kernel
theorem dX7_findMud_29 : decode cX7_findMud 29 = .ok (.iconst (-1), 1) := by decide +kernel
theorem dX7_findMud_30 : decode cX7_findMud 30 = .ok (.istore 4, 2) := by decide +kernel
theorem dX7_findMud_32 : decode cX7_findMud 32 = .ok (.iconst 0, 1) := by decide +kernel
theorem dX7_findMud_33 : decode cX7_findMud 33 = .ok (.istore 5, 2) := by decide +kernel
theorem dX7_findMud_35 : decode cX7_findMud 35 = .ok (.iload 5, 2) := by decide +kernel
theorem dX7_findMud_37 : decode cX7_findMud 37 = .ok (.aload_n 0, 1) := by decide +kernel
theorem dX7_findMud_38 : decode cX7_findMud 38 = .ok (.getfield 96, 3) := by decide +kernel
theorem dX7_findMud_41 : decode cX7_findMud 41 = .ok (.if_icmp .ge 27, 3) := by decide +kernel
theorem dX7_findMud_44 : decode cX7_findMud 44 = .ok (.iload_n 2, 1) := by decide +kernel
theorem dX7_findMud_45 : decode cX7_findMud 45 = .ok (.iload 5, 2) := by decide +kernel
theorem dX7_findMud_47 : decode cX7_findMud 47 = .ok (.invokestatic 189, 3) := by decide +kernel
theorem dX7_findMud_50 : decode cX7_findMud 50 = .ok (.ifCond .eq 8, 3) := by decide +kernel
theorem dX7_findMud_53 : decode cX7_findMud 53 = .ok (.iload 5, 2) := by decide +kernel
theorem dX7_findMud_55 : decode cX7_findMud 55 = .ok (.goto 5, 3) := by decide +kernel
theorem dX7_findMud_58 : decode cX7_findMud 58 = .ok (.iload 4, 2) := by decide +kernel
theorem dX7_findMud_60 : decode cX7_findMud 60 = .ok (.istore 4, 2) := by decide +kernel
theorem dX7_findMud_62 : decode cX7_findMud 62 = .ok (.iinc 5 1, 3) := by decide +kernel
theorem dX7_findMud_65 : decode cX7_findMud 65 = .ok (.goto (-30), 3) := by decide +kernel
theorem dX7_findMud_68 : decode cX7_findMud 68 = .ok (.iconst 1, 1) := by decide +kernel
theorem dX7_findMud_69 : decode cX7_findMud 69 = .ok (.istore 5, 2) := by decide +kernel
theorem dX7_findMud_71 : decode cX7_findMud 71 = .ok (.iload 5, 2) := by decide +kernel
theorem dX7_findMud_73 : decode cX7_findMud 73 = .ok (.bipush 6, 2) := by decide +kernel
theorem dX7_findMud_75 : decode cX7_findMud 75 = .ok (.if_icmp .ge 92, 3) := by decide +kernel
theorem dX7_findMud_78 : decode cX7_findMud 78 = .ok (.iload 4, 2) := by decide +kernel
theorem dX7_findMud_80 : decode cX7_findMud 80 = .ok (.ifCond .lt 87, 3) := by decide +kernel
theorem dX7_findMud_83 : decode cX7_findMud 83 = .ok (.iconst 0, 1) := by decide +kernel
theorem dX7_findMud_84 : decode cX7_findMud 84 = .ok (.istore 6, 2) := by decide +kernel
theorem dX7_findMud_86 : decode cX7_findMud 86 = .ok (.iload 6, 2) := by decide +kernel
theorem dX7_findMud_88 : decode cX7_findMud 88 = .ok (.bipush 8, 2) := by decide +kernel
theorem dX7_findMud_90 : decode cX7_findMud 90 = .ok (.if_icmp .ge 29, 3) := by decide +kernel
theorem dX7_findMud_93 : decode cX7_findMud 93 = .ok (.aload_n 0, 1) := by decide +kernel
theorem dX7_findMud_94 : decode cX7_findMud 94 = .ok (.getfield 68, 3) := by decide +kernel
theorem dX7_findMud_97 : decode cX7_findMud 97 = .ok (.iload 6, 2) := by decide +kernel
theorem dX7_findMud_99 : decode cX7_findMud 99 = .ok (.iload 6, 2) := by decide +kernel
theorem dX7_findMud_101 : decode cX7_findMud 101 = .ok (.iload 4, 2) := by decide +kernel
theorem dX7_findMud_103 : decode cX7_findMud 103 = .ok (.if_icmp .ne 8, 3) := by decide +kernel
theorem dX7_findMud_106 : decode cX7_findMud 106 = .ok (.iload 5, 2) := by decide +kernel
theorem dX7_findMud_108 : decode cX7_findMud 108 = .ok (.goto 4, 3) := by decide +kernel
theorem dX7_findMud_111 : decode cX7_findMud 111 = .ok (.iconst 0, 1) := by decide +kernel
theorem dX7_findMud_112 : decode cX7_findMud 112 = .ok (.iastore, 1) := by decide +kernel
theorem dX7_findMud_113 : decode cX7_findMud 113 = .ok (.iinc 6 1, 3) := by decide +kernel
theorem dX7_findMud_116 : decode cX7_findMud 116 = .ok (.goto (-30), 3) := by decide +kernel
theorem dX7_findMud_119 : decode cX7_findMud 119 = .ok (.iconst 1, 1) := by decide +kernel
theorem dX7_findMud_120 : decode cX7_findMud 120 = .ok (.istore 6, 2) := by decide +kernel
theorem dX7_findMud_122 : decode cX7_findMud 122 = .ok (.iload 6, 2) := by decide +kernel
theorem dX7_findMud_124 : decode cX7_findMud 124 = .ok (.ifCond .eq 37, 3) := by decide +kernel
theorem dX7_findMud_127 : decode cX7_findMud 127 = .ok (.aload_n 0, 1) := by decide +kernel
theorem dX7_findMud_128 : decode cX7_findMud 128 = .ok (.aload_n 0, 1) := by decide +kernel
theorem dX7_findMud_129 : decode cX7_findMud 129 = .ok (.invokevirtual 290, 3) := by decide +kernel
theorem dX7_findMud_132 : decode cX7_findMud 132 = .ok (.putfield 293, 3) := by decide +kernel
theorem dX7_findMud_135 : decode cX7_findMud 135 = .ok (.aload_n 0, 1) := by decide +kernel
theorem dX7_findMud_136 : decode cX7_findMud 136 = .ok (.iload_n 1, 1) := by decide +kernel
theorem dX7_findMud_137 : decode cX7_findMud 137 = .ok (.aload_n 0, 1) := by decide +kernel
theorem dX7_findMud_138 : decode cX7_findMud 138 = .ok (.getfield 293, 3) := by decide +kernel
theorem dX7_findMud_141 : decode cX7_findMud 141 = .ok (.iload_n 3, 1) := by decide +kernel
theorem dX7_findMud_142 : decode cX7_findMud 142 = .ok (.invokevirtual 296, 3) := by decide +kernel
theorem dX7_findMud_145 : decode cX7_findMud 145 = .ok (.ifCond .eq 6, 3) := by decide +kernel
theorem dX7_findMud_148 : decode cX7_findMud 148 = .ok (.iload 5, 2) := by decide +kernel
theorem dX7_findMud_150 : decode cX7_findMud 150 = .ok (.ireturn, 1) := by decide +kernel
theorem dX7_findMud_151 : decode cX7_findMud 151 = .ok (.aload_n 0, 1) := by decide +kernel
theorem dX7_findMud_152 : decode cX7_findMud 152 = .ok (.iload_n 2, 1) := by decide +kernel
theorem dX7_findMud_153 : decode cX7_findMud 153 = .ok (.invokevirtual 299, 3) := by decide +kernel
theorem dX7_findMud_156 : decode cX7_findMud 156 = .ok (.istore 6, 2) := by decide +kernel
theorem dX7_findMud_158 : decode cX7_findMud 158 = .ok (.goto (-36), 3) := by decide +kernel
theorem dX7_findMud_161 : decode cX7_findMud 161 = .ok (.iinc 5 1, 3) := by decide +kernel
theorem dX7_findMud_164 : decode cX7_findMud 164 = .ok (.goto (-93), 3) := by decide +kernel
theorem dX7_findMud_167 : decode cX7_findMud 167 = .ok (.iconst (-1), 1) := by decide +kernel
theorem dX7_findMud_168 : decode cX7_findMud 168 = .ok (.ireturn, 1) := by decide +kernel
theorem dX7_leastMud_0 : decode cX7_leastMud 0 = .ok (.aload_n 0, 1) := by decide +kernel
theorem dX7_leastMud_1 : decode cX7_leastMud 1 = .ok (.iload_n 1, 1) := by decide +kernel
theorem dX7_leastMud_2 : decode cX7_leastMud 2 = .ok (.invokevirtual 250, 3) := by decide +kernel
theorem dX7_leastMud_5 : decode cX7_leastMud 5 = .ok (.ifCond .eq 26, 3) := by decide +kernel
theorem dX7_leastMud_8 : decode cX7_leastMud 8 = .ok (.iload_n 2, 1) := by decide +kernel
theorem dX7_leastMud_9 : decode cX7_leastMud 9 = .ok (.iconst (-1), 1) := by decide +kernel
theorem dX7_leastMud_10 : decode cX7_leastMud 10 = .ok (.if_icmp .eq 24, 3) := by decide +kernel
theorem dX7_leastMud_13 : decode cX7_leastMud 13 = .ok (.aload_n 0, 1) := by decide +kernel
theorem dX7_leastMud_14 : decode cX7_leastMud 14 = .ok (.iload_n 2, 1) := by decide +kernel
theorem dX7_leastMud_15 : decode cX7_leastMud 15 = .ok (.invokevirtual 184, 3) := by decide +kernel
theorem dX7_leastMud_18 : decode cX7_leastMud 18 = .ok (.ifCond .eq 13, 3) := by decide +kernel
theorem dX7_leastMud_21 : decode cX7_leastMud 21 = .ok (.aload_n 0, 1) := by decide +kernel
theorem dX7_leastMud_22 : decode cX7_leastMud 22 = .ok (.getfield 7, 3) := by decide +kernel
theorem dX7_leastMud_25 : decode cX7_leastMud 25 = .ok (.iload_n 2, 1) := by decide +kernel
theorem dX7_leastMud_26 : decode cX7_leastMud 26 = .ok (.iaload, 1) := by decide +kernel
theorem dX7_leastMud_27 : decode cX7_leastMud 27 = .ok (.iload_n 1, 1) := by decide +kernel
theorem dX7_leastMud_28 : decode cX7_leastMud 28 = .ok (.if_icmp .eq 6, 3) := by decide +kernel
theorem dX7_leastMud_31 : decode cX7_leastMud 31 = .ok (.ldc 188, 2) := by decide +kernel
theorem dX7_leastMud_33 : decode cX7_leastMud 33 = .ok (.ireturn, 1) := by decide +kernel
theorem dX7_leastMud_34 : decode cX7_leastMud 34 = .ok (.aload_n 0, 1) := by decide +kernel
theorem dX7_leastMud_35 : decode cX7_leastMud 35 = .ok (.iload_n 1, 1) := by decide +kernel
theorem dX7_leastMud_36 : decode cX7_leastMud 36 = .ok (.invokevirtual 302, 3) := by decide +kernel
theorem dX7_leastMud_39 : decode cX7_leastMud 39 = .ok (.istore_n 3, 1) := by decide +kernel
theorem dX7_leastMud_40 : decode cX7_leastMud 40 = .ok (.iload_n 3, 1) := by decide +kernel
theorem dX7_leastMud_41 : decode cX7_leastMud 41 = .ok (.ifCond .lt 8, 3) := by decide +kernel
theorem dX7_leastMud_44 : decode cX7_leastMud 44 = .ok (.iload_n 2, 1) := by decide +kernel
theorem dX7_leastMud_45 : decode cX7_leastMud 45 = .ok (.iconst (-1), 1) := by decide +kernel
theorem dX7_leastMud_46 : decode cX7_leastMud 46 = .ok (.if_icmp .ne 7, 3) := by decide +kernel
theorem dX7_leastMud_49 : decode cX7_leastMud 49 = .ok (.iload_n 3, 1) := by decide +kernel
theorem dX7_leastMud_50 : decode cX7_leastMud 50 = .ok (.goto 11, 3) := by decide +kernel
theorem dX7_leastMud_53 : decode cX7_leastMud 53 = .ok (.aload_n 0, 1) := by decide +kernel
theorem dX7_leastMud_54 : decode cX7_leastMud 54 = .ok (.getfield 293, 3) := by decide +kernel
theorem dX7_leastMud_57 : decode cX7_leastMud 57 = .ok (.iload_n 2, 1) := by decide +kernel
theorem dX7_leastMud_58 : decode cX7_leastMud 58 = .ok (.invokestatic 287, 3) := by decide +kernel
theorem dX7_leastMud_61 : decode cX7_leastMud 61 = .ok (.ireturn, 1) := by decide +kernel
theorem dX7_votes_0 : decode cX7_votes 0 = .ok (.aload_n 0, 1) := by decide +kernel
theorem dX7_votes_1 : decode cX7_votes 1 = .ok (.iload_n 1, 1) := by decide +kernel
theorem dX7_votes_2 : decode cX7_votes 2 = .ok (.invokevirtual 250, 3) := by decide +kernel
theorem dX7_votes_5 : decode cX7_votes 5 = .ok (.ifCond .ne 6, 3) := by decide +kernel
theorem dX7_votes_8 : decode cX7_votes 8 = .ok (.ldc 188, 2) := by decide +kernel
theorem dX7_votes_10 : decode cX7_votes 10 = .ok (.ireturn, 1) := by decide +kernel
theorem dX7_votes_11 : decode cX7_votes 11 = .ok (.iconst 0, 1) := by decide +kernel
theorem dX7_votes_12 : decode cX7_votes 12 = .ok (.istore_n 2, 1) := by decide +kernel
theorem dX7_votes_13 : decode cX7_votes 13 = .ok (.iconst 0, 1) := by decide +kernel
theorem dX7_votes_14 : decode cX7_votes 14 = .ok (.istore_n 3, 1) := by decide +kernel
theorem dX7_votes_15 : decode cX7_votes 15 = .ok (.iload_n 3, 1) := by decide +kernel
theorem dX7_votes_16 : decode cX7_votes 16 = .ok (.aload_n 0, 1) := by decide +kernel
theorem dX7_votes_17 : decode cX7_votes 17 = .ok (.getfield 96, 3) := by decide +kernel
theorem dX7_votes_20 : decode cX7_votes 20 = .ok (.if_icmp .ge 35, 3) := by decide +kernel
theorem dX7_votes_23 : decode cX7_votes 23 = .ok (.iload_n 2, 1) := by decide +kernel
theorem dX7_votes_24 : decode cX7_votes 24 = .ok (.aload_n 0, 1) := by decide +kernel
theorem dX7_votes_25 : decode cX7_votes 25 = .ok (.getfield 7, 3) := by decide +kernel
theorem dX7_votes_28 : decode cX7_votes 28 = .ok (.iload_n 3, 1) := by decide +kernel
theorem dX7_votes_29 : decode cX7_votes 29 = .ok (.iaload, 1) := by decide +kernel
theorem dX7_votes_30 : decode cX7_votes 30 = .ok (.iload_n 1, 1) := by decide +kernel
theorem dX7_votes_31 : decode cX7_votes 31 = .ok (.if_icmp .ne 15, 3) := by decide +kernel
theorem dX7_votes_34 : decode cX7_votes 34 = .ok (.aload_n 0, 1) := by decide +kernel
theorem dX7_votes_35 : decode cX7_votes 35 = .ok (.getfield 26, 3) := by decide +kernel
theorem dX7_votes_38 : decode cX7_votes 38 = .ok (.bipush 8, 2) := by decide +kernel
theorem dX7_votes_40 : decode cX7_votes 40 = .ok (.iload_n 3, 1) := by decide +kernel
theorem dX7_votes_41 : decode cX7_votes 41 = .ok (.iadd, 1) := by decide +kernel
theorem dX7_votes_42 : decode cX7_votes 42 = .ok (.iaload, 1) := by decide +kernel
theorem dX7_votes_43 : decode cX7_votes 43 = .ok (.goto 4, 3) := by decide +kernel
theorem dX7_votes_46 : decode cX7_votes 46 = .ok (.iconst 0, 1) := by decide +kernel
theorem dX7_votes_47 : decode cX7_votes 47 = .ok (.iadd, 1) := by decide +kernel
theorem dX7_votes_48 : decode cX7_votes 48 = .ok (.istore_n 2, 1) := by decide +kernel
theorem dX7_votes_49 : decode cX7_votes 49 = .ok (.iinc 3 1, 3) := by decide +kernel
theorem dX7_votes_52 : decode cX7_votes 52 = .ok (.goto (-37), 3) := by decide +kernel
theorem dX7_votes_55 : decode cX7_votes 55 = .ok (.iload_n 2, 1) := by decide +kernel
theorem dX7_votes_56 : decode cX7_votes 56 = .ok (.ireturn, 1) := by decide +kernel
theorem dX7_elected_0 : decode cX7_elected 0 = .ok (.iconst (-1), 1) := by decide +kernel
theorem dX7_elected_1 : decode cX7_elected 1 = .ok (.istore_n 1, 1) := by decide +kernel
theorem dX7_elected_2 : decode cX7_elected 2 = .ok (.iconst (-1), 1) := by decide +kernel
theorem dX7_elected_3 : decode cX7_elected 3 = .ok (.istore_n 2, 1) := by decide +kernel
theorem dX7_elected_4 : decode cX7_elected 4 = .ok (.iconst 0, 1) := by decide +kernel
theorem dX7_elected_5 : decode cX7_elected 5 = .ok (.istore_n 3, 1) := by decide +kernel
theorem dX7_elected_6 : decode cX7_elected 6 = .ok (.iload_n 3, 1) := by decide +kernel
theorem dX7_elected_7 : decode cX7_elected 7 = .ok (.aload_n 0, 1) := by decide +kernel
theorem dX7_elected_8 : decode cX7_elected 8 = .ok (.getfield 103, 3) := by decide +kernel
theorem dX7_elected_11 : decode cX7_elected 11 = .ok (.if_icmp .ge 43, 3) := by decide +kernel
theorem dX7_elected_14 : decode cX7_elected 14 = .ok (.aload_n 0, 1) := by decide +kernel
theorem dX7_elected_15 : decode cX7_elected 15 = .ok (.iload_n 3, 1) := by decide +kernel
theorem dX7_elected_16 : decode cX7_elected 16 = .ok (.invokevirtual 305, 3) := by decide +kernel
theorem dX7_elected_19 : decode cX7_elected 19 = .ok (.iload_n 2, 1) := by decide +kernel
theorem dX7_elected_20 : decode cX7_elected 20 = .ok (.if_icmp .le 7, 3) := by decide +kernel
theorem dX7_elected_23 : decode cX7_elected 23 = .ok (.iload_n 3, 1) := by decide +kernel
theorem dX7_elected_24 : decode cX7_elected 24 = .ok (.goto 4, 3) := by decide +kernel
theorem dX7_elected_27 : decode cX7_elected 27 = .ok (.iload_n 1, 1) := by decide +kernel
theorem dX7_elected_28 : decode cX7_elected 28 = .ok (.istore_n 1, 1) := by decide +kernel
theorem dX7_elected_29 : decode cX7_elected 29 = .ok (.aload_n 0, 1) := by decide +kernel
theorem dX7_elected_30 : decode cX7_elected 30 = .ok (.iload_n 3, 1) := by decide +kernel
theorem dX7_elected_31 : decode cX7_elected 31 = .ok (.invokevirtual 305, 3) := by decide +kernel
theorem dX7_elected_34 : decode cX7_elected 34 = .ok (.iload_n 2, 1) := by decide +kernel
theorem dX7_elected_35 : decode cX7_elected 35 = .ok (.if_icmp .le 11, 3) := by decide +kernel
theorem dX7_elected_38 : decode cX7_elected 38 = .ok (.aload_n 0, 1) := by decide +kernel
theorem dX7_elected_39 : decode cX7_elected 39 = .ok (.iload_n 3, 1) := by decide +kernel
theorem dX7_elected_40 : decode cX7_elected 40 = .ok (.invokevirtual 305, 3) := by decide +kernel
theorem dX7_elected_43 : decode cX7_elected 43 = .ok (.goto 4, 3) := by decide +kernel
theorem dX7_elected_46 : decode cX7_elected 46 = .ok (.iload_n 2, 1) := by decide +kernel
theorem dX7_elected_47 : decode cX7_elected 47 = .ok (.istore_n 2, 1) := by decide +kernel
theorem dX7_elected_48 : decode cX7_elected 48 = .ok (.iinc 3 1, 3) := by decide +kernel
theorem dX7_elected_51 : decode cX7_elected 51 = .ok (.goto (-45), 3) := by decide +kernel
theorem dX7_elected_54 : decode cX7_elected 54 = .ok (.iload_n 1, 1) := by decide +kernel
theorem dX7_elected_55 : decode cX7_elected 55 = .ok (.ireturn, 1) := by decide +kernel
theorem dX7_spring_0 : decode cX7_spring 0 = .ok (.iload_n 1, 1) := by decide +kernel
theorem dX7_spring_1 : decode cX7_spring 1 = .ok (.i2l, 1) := by decide +kernel
theorem dX7_spring_2 : decode cX7_spring 2 = .ok (.lconst 0, 1) := by decide +kernel
theorem dX7_spring_3 : decode cX7_spring 3 = .ok (.ldc2_w 308, 3) := by decide +kernel
theorem dX7_spring_6 : decode cX7_spring 6 = .ok (.invokestatic 99, 3) := by decide +kernel
theorem dX7_spring_9 : decode cX7_spring 9 = .ok (.ifCond .eq 15, 3) := by decide +kernel
theorem dX7_spring_12 : decode cX7_spring 12 = .ok (.iload_n 2, 1) := by decide +kernel
theorem dX7_spring_13 : decode cX7_spring 13 = .ok (.i2l, 1) := by decide +kernel
theorem dX7_spring_14 : decode cX7_spring 14 = .ok (.lconst 0, 1) := by decide +kernel
theorem dX7_spring_15 : decode cX7_spring 15 = .ok (.ldc2_w 310, 3) := by decide +kernel
theorem dX7_spring_18 : decode cX7_spring 18 = .ok (.invokestatic 99, 3) := by decide +kernel
theorem dX7_spring_21 : decode cX7_spring 21 = .ok (.ifCond .ne 6, 3) := by decide +kernel
theorem dX7_spring_24 : decode cX7_spring 24 = .ok (.ldc 108, 2) := by decide +kernel
theorem dX7_spring_26 : decode cX7_spring 26 = .ok (.ireturn, 1) := by decide +kernel
theorem dX7_spring_27 : decode cX7_spring 27 = .ok (.ldc2_w 312, 3) := by decide +kernel
theorem dX7_spring_30 : decode cX7_spring 30 = .ok (.lstore_n 3, 1) := by decide +kernel
theorem dX7_spring_31 : decode cX7_spring 31 = .ok (.iconst 0, 1) := by decide +kernel
theorem dX7_spring_32 : decode cX7_spring 32 = .ok (.istore 5, 2) := by decide +kernel
theorem dX7_spring_34 : decode cX7_spring 34 = .ok (.iload 5, 2) := by decide +kernel
theorem dX7_spring_36 : decode cX7_spring 36 = .ok (.iload_n 1, 1) := by decide +kernel
theorem dX7_spring_37 : decode cX7_spring 37 = .ok (.if_icmp .ge 21, 3) := by decide +kernel
theorem dX7_spring_40 : decode cX7_spring 40 = .ok (.lload_n 3, 1) := by decide +kernel
theorem dX7_spring_41 : decode cX7_spring 41 = .ok (.bipush 100, 2) := by decide +kernel
theorem dX7_spring_43 : decode cX7_spring 43 = .ok (.iload_n 2, 1) := by decide +kernel
theorem dX7_spring_44 : decode cX7_spring 44 = .ok (.isub, 1) := by decide +kernel
theorem dX7_spring_45 : decode cX7_spring 45 = .ok (.i2l, 1) := by decide +kernel
theorem dX7_spring_46 : decode cX7_spring 46 = .ok (.lmul, 1) := by decide +kernel
theorem dX7_spring_47 : decode cX7_spring 47 = .ok (.ldc2_w 310, 3) := by decide +kernel
theorem dX7_spring_50 : decode cX7_spring 50 = .ok (.ldiv, 1) := by decide +kernel
theorem dX7_spring_51 : decode cX7_spring 51 = .ok (.lstore_n 3, 1) := by decide +kernel
theorem dX7_spring_52 : decode cX7_spring 52 = .ok (.iinc 5 1, 3) := by decide +kernel
theorem dX7_spring_55 : decode cX7_spring 55 = .ok (.goto (-21), 3) := by decide +kernel
theorem dX7_spring_58 : decode cX7_spring 58 = .ok (.lload_n 3, 1) := by decide +kernel
theorem dX7_spring_59 : decode cX7_spring 59 = .ok (.l2i, 1) := by decide +kernel
theorem dX7_spring_60 : decode cX7_spring 60 = .ok (.ireturn, 1) := by decide +kernel
theorem dX7_see_0 : decode cX7_see 0 = .ok (.aload_n 0, 1) := by decide +kernel
theorem dX7_see_1 : decode cX7_see 1 = .ok (.iload_n 1, 1) := by decide +kernel
theorem dX7_see_2 : decode cX7_see 2 = .ok (.invokevirtual 184, 3) := by decide +kernel
theorem dX7_see_5 : decode cX7_see 5 = .ok (.ifCond .ne 6, 3) := by decide +kernel
theorem dX7_see_8 : decode cX7_see 8 = .ok (.ldc 188, 2) := by decide +kernel
theorem dX7_see_10 : decode cX7_see 10 = .ok (.ireturn, 1) := by decide +kernel
theorem dX7_see_11 : decode cX7_see 11 = .ok (.iload_n 2, 1) := by decide +kernel
theorem dX7_see_12 : decode cX7_see 12 = .ok (.i2l, 1) := by decide +kernel
theorem dX7_see_13 : decode cX7_see 13 = .ok (.lconst 0, 1) := by decide +kernel
theorem dX7_see_14 : decode cX7_see 14 = .ok (.ldc2_w 225, 3) := by decide +kernel
theorem dX7_see_17 : decode cX7_see 17 = .ok (.invokestatic 99, 3) := by decide +kernel
theorem dX7_see_20 : decode cX7_see 20 = .ok (.ifCond .ne 6, 3) := by decide +kernel
theorem dX7_see_23 : decode cX7_see 23 = .ok (.ldc 108, 2) := by decide +kernel
theorem dX7_see_25 : decode cX7_see 25 = .ok (.ireturn, 1) := by decide +kernel
theorem dX7_see_26 : decode cX7_see 26 = .ok (.aload_n 0, 1) := by decide +kernel
theorem dX7_see_27 : decode cX7_see 27 = .ok (.getfield 168, 3) := by decide +kernel
theorem dX7_see_30 : decode cX7_see 30 = .ok (.bipush 8, 2) := by decide +kernel
theorem dX7_see_32 : decode cX7_see 32 = .ok (.if_icmp .ne 6, 3) := by decide +kernel
theorem dX7_see_35 : decode cX7_see 35 = .ok (.ldc 112, 2) := by decide +kernel
theorem dX7_see_37 : decode cX7_see 37 = .ok (.ireturn, 1) := by decide +kernel
theorem dX7_see_38 : decode cX7_see 38 = .ok (.aload_n 0, 1) := by decide +kernel
theorem dX7_see_39 : decode cX7_see 39 = .ok (.getfield 71, 3) := by decide +kernel
theorem dX7_see_42 : decode cX7_see 42 = .ok (.aload_n 0, 1) := by decide +kernel
theorem dX7_see_43 : decode cX7_see 43 = .ok (.getfield 168, 3) := by decide +kernel
theorem dX7_see_46 : decode cX7_see 46 = .ok (.iload_n 1, 1) := by decide +kernel
theorem dX7_see_47 : decode cX7_see 47 = .ok (.iastore, 1) := by decide +kernel
theorem dX7_see_48 : decode cX7_see 48 = .ok (.aload_n 0, 1) := by decide +kernel
theorem dX7_see_49 : decode cX7_see 49 = .ok (.getfield 74, 3) := by decide +kernel
theorem dX7_see_52 : decode cX7_see 52 = .ok (.aload_n 0, 1) := by decide +kernel
theorem dX7_see_53 : decode cX7_see 53 = .ok (.getfield 168, 3) := by decide +kernel
theorem dX7_see_56 : decode cX7_see 56 = .ok (.iload_n 2, 1) := by decide +kernel
theorem dX7_see_57 : decode cX7_see 57 = .ok (.iastore, 1) := by decide +kernel
theorem dX7_see_58 : decode cX7_see 58 = .ok (.aload_n 0, 1) := by decide +kernel
theorem dX7_see_59 : decode cX7_see 59 = .ok (.dup, 1) := by decide +kernel
theorem dX7_see_60 : decode cX7_see 60 = .ok (.getfield 168, 3) := by decide +kernel
theorem dX7_see_63 : decode cX7_see 63 = .ok (.iconst 1, 1) := by decide +kernel
theorem dX7_see_64 : decode cX7_see 64 = .ok (.iadd, 1) := by decide +kernel
theorem dX7_see_65 : decode cX7_see 65 = .ok (.putfield 168, 3) := by decide +kernel
theorem dX7_see_68 : decode cX7_see 68 = .ok (.aload_n 0, 1) := by decide +kernel
theorem dX7_see_69 : decode cX7_see 69 = .ok (.getfield 168, 3) := by decide +kernel
theorem dX7_see_72 : decode cX7_see 72 = .ok (.ireturn, 1) := by decide +kernel
theorem dX7_couldMove_0 : decode cX7_couldMove 0 = .ok (.iload_n 1, 1) := by decide +kernel
theorem dX7_couldMove_1 : decode cX7_couldMove 1 = .ok (.iload_n 2, 1) := by decide +kernel
theorem dX7_couldMove_2 : decode cX7_couldMove 2 = .ok (.if_icmp .eq 13, 3) := by decide +kernel
theorem dX7_couldMove_5 : decode cX7_couldMove 5 = .ok (.aload_n 0, 1) := by decide +kernel
theorem dX7_couldMove_6 : decode cX7_couldMove 6 = .ok (.iload_n 1, 1) := by decide +kernel
theorem dX7_couldMove_7 : decode cX7_couldMove 7 = .ok (.iload_n 2, 1) := by decide +kernel
theorem dX7_couldMove_8 : decode cX7_couldMove 8 = .ok (.iload_n 3, 1) := by decide +kernel
theorem dX7_couldMove_9 : decode cX7_couldMove 9 = .ok (.invokevirtual 227, 3) := by decide +kernel
theorem dX7_couldMove_12 : decode cX7_couldMove 12 = .ok (.ifCond .ne 5, 3) := by decide +kernel
theorem dX7_couldMove_15 : decode cX7_couldMove 15 = .ok (.iconst 0, 1) := by decide +kernel
theorem dX7_couldMove_16 : decode cX7_couldMove 16 = .ok (.ireturn, 1) := by decide +kernel
theorem dX7_couldMove_17 : decode cX7_couldMove 17 = .ok (.aload_n 0, 1) := by decide +kernel
theorem dX7_couldMove_18 : decode cX7_couldMove 18 = .ok (.iload_n 1, 1) := by decide +kernel
theorem dX7_couldMove_19 : decode cX7_couldMove 19 = .ok (.iload_n 2, 1) := by decide +kernel
theorem dX7_couldMove_20 : decode cX7_couldMove 20 = .ok (.iload_n 3, 1) := by decide +kernel
theorem dX7_couldMove_21 : decode cX7_couldMove 21 = .ok (.invokevirtual 231, 3) := by decide +kernel
theorem dX7_couldMove_24 : decode cX7_couldMove 24 = .ok (.aload_n 0, 1) := by decide +kernel
theorem dX7_couldMove_25 : decode cX7_couldMove 25 = .ok (.invokevirtual 222, 3) := by decide +kernel
theorem dX7_couldMove_28 : decode cX7_couldMove 28 = .ok (.iconst 1, 1) := by decide +kernel
theorem dX7_couldMove_29 : decode cX7_couldMove 29 = .ok (.istore 4, 2) := by decide +kernel
theorem dX7_couldMove_31 : decode cX7_couldMove 31 = .ok (.iconst 0, 1) := by decide +kernel
theorem dX7_couldMove_32 : decode cX7_couldMove 32 = .ok (.istore 5, 2) := by decide +kernel
theorem dX7_couldMove_34 : decode cX7_couldMove 34 = .ok (.iload 5, 2) := by decide +kernel
theorem dX7_couldMove_36 : decode cX7_couldMove 36 = .ok (.aload_n 0, 1) := by decide +kernel
theorem dX7_couldMove_37 : decode cX7_couldMove 37 = .ok (.getfield 168, 3) := by decide +kernel
theorem dX7_couldMove_40 : decode cX7_couldMove 40 = .ok (.if_icmp .ge 43, 3) := by decide +kernel
theorem dX7_couldMove_43 : decode cX7_couldMove 43 = .ok (.iload 4, 2) := by decide +kernel
theorem dX7_couldMove_45 : decode cX7_couldMove 45 = .ok (.ifCond .eq 29, 3) := by decide +kernel
theorem dX7_couldMove_48 : decode cX7_couldMove 48 = .ok (.aload_n 0, 1) := by decide +kernel
theorem dX7_couldMove_49 : decode cX7_couldMove 49 = .ok (.getfield 26, 3) := by decide +kernel
theorem dX7_couldMove_52 : decode cX7_couldMove 52 = .ok (.aload_n 0, 1) := by decide +kernel
theorem dX7_couldMove_53 : decode cX7_couldMove 53 = .ok (.getfield 71, 3) := by decide +kernel
theorem dX7_couldMove_56 : decode cX7_couldMove 56 = .ok (.iload 5, 2) := by decide +kernel
theorem dX7_couldMove_58 : decode cX7_couldMove 58 = .ok (.iaload, 1) := by decide +kernel
theorem dX7_couldMove_59 : decode cX7_couldMove 59 = .ok (.iaload, 1) := by decide +kernel
theorem dX7_couldMove_60 : decode cX7_couldMove 60 = .ok (.aload_n 0, 1) := by decide +kernel
theorem dX7_couldMove_61 : decode cX7_couldMove 61 = .ok (.getfield 74, 3) := by decide +kernel
theorem dX7_couldMove_64 : decode cX7_couldMove 64 = .ok (.iload 5, 2) := by decide +kernel
theorem dX7_couldMove_66 : decode cX7_couldMove 66 = .ok (.iaload, 1) := by decide +kernel
theorem dX7_couldMove_67 : decode cX7_couldMove 67 = .ok (.if_icmp .ne 7, 3) := by decide +kernel
theorem dX7_couldMove_70 : decode cX7_couldMove 70 = .ok (.iconst 1, 1) := by decide +kernel
theorem dX7_couldMove_71 : decode cX7_couldMove 71 = .ok (.goto 4, 3) := by decide +kernel
theorem dX7_couldMove_74 : decode cX7_couldMove 74 = .ok (.iconst 0, 1) := by decide +kernel
theorem dX7_couldMove_75 : decode cX7_couldMove 75 = .ok (.istore 4, 2) := by decide +kernel
theorem dX7_couldMove_77 : decode cX7_couldMove 77 = .ok (.iinc 5 1, 3) := by decide +kernel
theorem dX7_couldMove_80 : decode cX7_couldMove 80 = .ok (.goto (-46), 3) := by decide +kernel
theorem dX7_couldMove_83 : decode cX7_couldMove 83 = .ok (.aload_n 0, 1) := by decide +kernel
theorem dX7_couldMove_84 : decode cX7_couldMove 84 = .ok (.invokevirtual 263, 3) := by decide +kernel
theorem dX7_couldMove_87 : decode cX7_couldMove 87 = .ok (.iload 4, 2) := by decide +kernel
theorem dX7_couldMove_89 : decode cX7_couldMove 89 = .ok (.ireturn, 1) := by decide +kernel
theorem dX7_moved_0 : decode cX7_moved 0 = .ok (.aload_n 0, 1) := by decide +kernel
theorem dX7_moved_1 : decode cX7_moved 1 = .ok (.invokevirtual 257, 3) := by decide +kernel
theorem dX7_moved_4 : decode cX7_moved 4 = .ok (.iconst 0, 1) := by decide +kernel
theorem dX7_moved_5 : decode cX7_moved 5 = .ok (.istore_n 2, 1) := by decide +kernel
theorem dX7_moved_6 : decode cX7_moved 6 = .ok (.iconst 0, 1) := by decide +kernel
theorem dX7_moved_7 : decode cX7_moved 7 = .ok (.istore_n 3, 1) := by decide +kernel
theorem dX7_moved_8 : decode cX7_moved 8 = .ok (.iload_n 3, 1) := by decide +kernel
theorem dX7_moved_9 : decode cX7_moved 9 = .ok (.bipush 64, 2) := by decide +kernel
theorem dX7_moved_11 : decode cX7_moved 11 = .ok (.if_icmp .ge 91, 3) := by decide +kernel
theorem dX7_moved_14 : decode cX7_moved 14 = .ok (.iconst 1, 1) := by decide +kernel
theorem dX7_moved_15 : decode cX7_moved 15 = .ok (.istore 4, 2) := by decide +kernel
theorem dX7_moved_17 : decode cX7_moved 17 = .ok (.iload 4, 2) := by decide +kernel
theorem dX7_moved_19 : decode cX7_moved 19 = .ok (.bipush 6, 2) := by decide +kernel
theorem dX7_moved_21 : decode cX7_moved 21 = .ok (.if_icmp .ge 75, 3) := by decide +kernel
theorem dX7_moved_24 : decode cX7_moved 24 = .ok (.aload_n 0, 1) := by decide +kernel
theorem dX7_moved_25 : decode cX7_moved 25 = .ok (.iload_n 3, 1) := by decide +kernel
theorem dX7_moved_26 : decode cX7_moved 26 = .ok (.bipush 8, 2) := by decide +kernel
theorem dX7_moved_28 : decode cX7_moved 28 = .ok (.idiv, 1) := by decide +kernel
theorem dX7_moved_29 : decode cX7_moved 29 = .ok (.invokevirtual 184, 3) := by decide +kernel
theorem dX7_moved_32 : decode cX7_moved 32 = .ok (.ifCond .eq 58, 3) := by decide +kernel
theorem dX7_moved_35 : decode cX7_moved 35 = .ok (.aload_n 0, 1) := by decide +kernel
theorem dX7_moved_36 : decode cX7_moved 36 = .ok (.iload_n 3, 1) := by decide +kernel
theorem dX7_moved_37 : decode cX7_moved 37 = .ok (.bipush 8, 2) := by decide +kernel
theorem dX7_moved_39 : decode cX7_moved 39 = .ok (.irem, 1) := by decide +kernel
theorem dX7_moved_40 : decode cX7_moved 40 = .ok (.invokevirtual 184, 3) := by decide +kernel
theorem dX7_moved_43 : decode cX7_moved 43 = .ok (.ifCond .eq 47, 3) := by decide +kernel
theorem dX7_moved_46 : decode cX7_moved 46 = .ok (.aload_n 0, 1) := by decide +kernel
theorem dX7_moved_47 : decode cX7_moved 47 = .ok (.iload_n 3, 1) := by decide +kernel
theorem dX7_moved_48 : decode cX7_moved 48 = .ok (.bipush 8, 2) := by decide +kernel
theorem dX7_moved_50 : decode cX7_moved 50 = .ok (.idiv, 1) := by decide +kernel
theorem dX7_moved_51 : decode cX7_moved 51 = .ok (.iload_n 3, 1) := by decide +kernel
theorem dX7_moved_52 : decode cX7_moved 52 = .ok (.bipush 8, 2) := by decide +kernel
theorem dX7_moved_54 : decode cX7_moved 54 = .ok (.irem, 1) := by decide +kernel
theorem dX7_moved_55 : decode cX7_moved 55 = .ok (.iload 4, 2) := by decide +kernel
theorem dX7_moved_57 : decode cX7_moved 57 = .ok (.invokevirtual 314, 3) := by decide +kernel
theorem dX7_moved_60 : decode cX7_moved 60 = .ok (.ifCond .eq 30, 3) := by decide +kernel
theorem dX7_moved_63 : decode cX7_moved 63 = .ok (.iload_n 2, 1) := by decide +kernel
theorem dX7_moved_64 : decode cX7_moved 64 = .ok (.iload_n 1, 1) := by decide +kernel
theorem dX7_moved_65 : decode cX7_moved 65 = .ok (.if_icmp .ne 22, 3) := by decide +kernel
theorem dX7_moved_68 : decode cX7_moved 68 = .ok (.bipush 100, 2) := by decide +kernel
theorem dX7_moved_70 : decode cX7_moved 70 = .ok (.iload_n 3, 1) := by decide +kernel
theorem dX7_moved_71 : decode cX7_moved 71 = .ok (.bipush 8, 2) := by decide +kernel
theorem dX7_moved_73 : decode cX7_moved 73 = .ok (.idiv, 1) := by decide +kernel
theorem dX7_moved_74 : decode cX7_moved 74 = .ok (.imul, 1) := by decide +kernel
theorem dX7_moved_75 : decode cX7_moved 75 = .ok (.bipush 10, 2) := by decide +kernel
theorem dX7_moved_77 : decode cX7_moved 77 = .ok (.iload_n 3, 1) := by decide +kernel
theorem dX7_moved_78 : decode cX7_moved 78 = .ok (.bipush 8, 2) := by decide +kernel
theorem dX7_moved_80 : decode cX7_moved 80 = .ok (.irem, 1) := by decide +kernel
theorem dX7_moved_81 : decode cX7_moved 81 = .ok (.imul, 1) := by decide +kernel
theorem dX7_moved_82 : decode cX7_moved 82 = .ok (.iadd, 1) := by decide +kernel
theorem dX7_moved_83 : decode cX7_moved 83 = .ok (.iload 4, 2) := by decide +kernel
theorem dX7_moved_85 : decode cX7_moved 85 = .ok (.iadd, 1) := by decide +kernel
theorem dX7_moved_86 : decode cX7_moved 86 = .ok (.ireturn, 1) := by decide +kernel
theorem dX7_moved_87 : decode cX7_moved 87 = .ok (.iinc 2 1, 3) := by decide +kernel
theorem dX7_moved_90 : decode cX7_moved 90 = .ok (.iinc 4 1, 3) := by decide +kernel
theorem dX7_moved_93 : decode cX7_moved 93 = .ok (.goto (-76), 3) := by decide +kernel
theorem dX7_moved_96 : decode cX7_moved 96 = .ok (.iinc 3 1, 3) := by decide +kernel
theorem dX7_moved_99 : decode cX7_moved 99 = .ok (.goto (-91), 3) := by decide +kernel
theorem dX7_moved_102 : decode cX7_moved 102 = .ok (.iload_n 1, 1) := by decide +kernel
theorem dX7_moved_103 : decode cX7_moved 103 = .ok (.iconst (-1), 1) := by decide +kernel
theorem dX7_moved_104 : decode cX7_moved 104 = .ok (.if_icmp .ne 7, 3) := by decide +kernel
theorem dX7_moved_107 : decode cX7_moved 107 = .ok (.iload_n 2, 1) := by decide +kernel
theorem dX7_moved_108 : decode cX7_moved 108 = .ok (.goto 4, 3) := by decide +kernel
theorem dX7_moved_111 : decode cX7_moved 111 = .ok (.iconst (-1), 1) := by decide +kernel
theorem dX7_moved_112 : decode cX7_moved 112 = .ok (.ireturn, 1) := by decide +kernel
theorem dX7_rough_0 : decode cX7_rough 0 = .ok (.iload_n 1, 1) := by decide +kernel
theorem dX7_rough_1 : decode cX7_rough 1 = .ok (.i2l, 1) := by decide +kernel
theorem dX7_rough_2 : decode cX7_rough 2 = .ok (.lconst 0, 1) := by decide +kernel
theorem dX7_rough_3 : decode cX7_rough 3 = .ok (.iconst 1, 1) := by decide +kernel
theorem dX7_rough_4 : decode cX7_rough 4 = .ok (.aload_n 0, 1) := by decide +kernel
theorem dX7_rough_5 : decode cX7_rough 5 = .ok (.getfield 96, 3) := by decide +kernel
theorem dX7_rough_8 : decode cX7_rough 8 = .ok (.ishl, 1) := by decide +kernel
theorem dX7_rough_9 : decode cX7_rough 9 = .ok (.iconst 1, 1) := by decide +kernel
theorem dX7_rough_10 : decode cX7_rough 10 = .ok (.isub, 1) := by decide +kernel
theorem dX7_rough_11 : decode cX7_rough 11 = .ok (.i2l, 1) := by decide +kernel
theorem dX7_rough_12 : decode cX7_rough 12 = .ok (.invokestatic 99, 3) := by decide +kernel
theorem dX7_rough_15 : decode cX7_rough 15 = .ok (.ifCond .ne 6, 3) := by decide +kernel
theorem dX7_rough_18 : decode cX7_rough 18 = .ok (.ldc 188, 2) := by decide +kernel
theorem dX7_rough_20 : decode cX7_rough 20 = .ok (.ireturn, 1) := by decide +kernel
theorem dX7_rough_21 : decode cX7_rough 21 = .ok (.iload_n 2, 1) := by decide +kernel
theorem dX7_rough_22 : decode cX7_rough 22 = .ok (.i2l, 1) := by decide +kernel
theorem dX7_rough_23 : decode cX7_rough 23 = .ok (.lconst 0, 1) := by decide +kernel
theorem dX7_rough_24 : decode cX7_rough 24 = .ok (.ldc2_w 317, 3) := by decide +kernel
theorem dX7_rough_27 : decode cX7_rough 27 = .ok (.invokestatic 99, 3) := by decide +kernel
theorem dX7_rough_30 : decode cX7_rough 30 = .ok (.ifCond .ne 6, 3) := by decide +kernel
theorem dX7_rough_33 : decode cX7_rough 33 = .ok (.ldc 108, 2) := by decide +kernel
theorem dX7_rough_35 : decode cX7_rough 35 = .ok (.ireturn, 1) := by decide +kernel
theorem dX7_rough_36 : decode cX7_rough 36 = .ok (.aload_n 0, 1) := by decide +kernel
theorem dX7_rough_37 : decode cX7_rough 37 = .ok (.getfield 171, 3) := by decide +kernel
theorem dX7_rough_40 : decode cX7_rough 40 = .ok (.bipush 8, 2) := by decide +kernel
theorem dX7_rough_42 : decode cX7_rough 42 = .ok (.if_icmp .ne 6, 3) := by decide +kernel
theorem dX7_rough_45 : decode cX7_rough 45 = .ok (.ldc 112, 2) := by decide +kernel
theorem dX7_rough_47 : decode cX7_rough 47 = .ok (.ireturn, 1) := by decide +kernel
theorem dX7_rough_48 : decode cX7_rough 48 = .ok (.aload_n 0, 1) := by decide +kernel
theorem dX7_rough_49 : decode cX7_rough 49 = .ok (.getfield 77, 3) := by decide +kernel
theorem dX7_rough_52 : decode cX7_rough 52 = .ok (.aload_n 0, 1) := by decide +kernel
theorem dX7_rough_53 : decode cX7_rough 53 = .ok (.getfield 171, 3) := by decide +kernel
theorem dX7_rough_56 : decode cX7_rough 56 = .ok (.iload_n 1, 1) := by decide +kernel
theorem dX7_rough_57 : decode cX7_rough 57 = .ok (.iastore, 1) := by decide +kernel
theorem dX7_rough_58 : decode cX7_rough 58 = .ok (.aload_n 0, 1) := by decide +kernel
theorem dX7_rough_59 : decode cX7_rough 59 = .ok (.getfield 80, 3) := by decide +kernel
theorem dX7_rough_62 : decode cX7_rough 62 = .ok (.aload_n 0, 1) := by decide +kernel
theorem dX7_rough_63 : decode cX7_rough 63 = .ok (.getfield 171, 3) := by decide +kernel
theorem dX7_rough_66 : decode cX7_rough 66 = .ok (.iload_n 2, 1) := by decide +kernel
theorem dX7_rough_67 : decode cX7_rough 67 = .ok (.iastore, 1) := by decide +kernel
theorem dX7_rough_68 : decode cX7_rough 68 = .ok (.aload_n 0, 1) := by decide +kernel
theorem dX7_rough_69 : decode cX7_rough 69 = .ok (.dup, 1) := by decide +kernel
theorem dX7_rough_70 : decode cX7_rough 70 = .ok (.getfield 171, 3) := by decide +kernel
theorem dX7_rough_73 : decode cX7_rough 73 = .ok (.iconst 1, 1) := by decide +kernel
theorem dX7_rough_74 : decode cX7_rough 74 = .ok (.iadd, 1) := by decide +kernel
theorem dX7_rough_75 : decode cX7_rough 75 = .ok (.putfield 171, 3) := by decide +kernel
theorem dX7_rough_78 : decode cX7_rough 78 = .ok (.aload_n 0, 1) := by decide +kernel
theorem dX7_rough_79 : decode cX7_rough 79 = .ok (.getfield 171, 3) := by decide +kernel
theorem dX7_rough_82 : decode cX7_rough 82 = .ok (.ireturn, 1) := by decide +kernel
theorem dX7_eavesOf_0 : decode cX7_eavesOf 0 = .ok (.iconst 0, 1) := by decide +kernel
theorem dX7_eavesOf_1 : decode cX7_eavesOf 1 = .ok (.istore_n 2, 1) := by decide +kernel
theorem dX7_eavesOf_2 : decode cX7_eavesOf 2 = .ok (.iconst 0, 1) := by decide +kernel
theorem dX7_eavesOf_3 : decode cX7_eavesOf 3 = .ok (.istore_n 3, 1) := by decide +kernel
theorem dX7_eavesOf_4 : decode cX7_eavesOf 4 = .ok (.iload_n 3, 1) := by decide +kernel
theorem dX7_eavesOf_5 : decode cX7_eavesOf 5 = .ok (.aload_n 0, 1) := by decide +kernel
theorem dX7_eavesOf_6 : decode cX7_eavesOf 6 = .ok (.getfield 96, 3) := by decide +kernel
theorem dX7_eavesOf_9 : decode cX7_eavesOf 9 = .ok (.if_icmp .ge 30, 3) := by decide +kernel
theorem dX7_eavesOf_12 : decode cX7_eavesOf 12 = .ok (.iload_n 2, 1) := by decide +kernel
theorem dX7_eavesOf_13 : decode cX7_eavesOf 13 = .ok (.iload_n 1, 1) := by decide +kernel
theorem dX7_eavesOf_14 : decode cX7_eavesOf 14 = .ok (.iload_n 3, 1) := by decide +kernel
theorem dX7_eavesOf_15 : decode cX7_eavesOf 15 = .ok (.invokestatic 189, 3) := by decide +kernel
theorem dX7_eavesOf_18 : decode cX7_eavesOf 18 = .ok (.ifCond .eq 12, 3) := by decide +kernel
theorem dX7_eavesOf_21 : decode cX7_eavesOf 21 = .ok (.aload_n 0, 1) := by decide +kernel
theorem dX7_eavesOf_22 : decode cX7_eavesOf 22 = .ok (.getfield 13, 3) := by decide +kernel
theorem dX7_eavesOf_25 : decode cX7_eavesOf 25 = .ok (.iload_n 3, 1) := by decide +kernel
theorem dX7_eavesOf_26 : decode cX7_eavesOf 26 = .ok (.iaload, 1) := by decide +kernel
theorem dX7_eavesOf_27 : decode cX7_eavesOf 27 = .ok (.goto 4, 3) := by decide +kernel
theorem dX7_eavesOf_30 : decode cX7_eavesOf 30 = .ok (.iconst 0, 1) := by decide +kernel
theorem dX7_eavesOf_31 : decode cX7_eavesOf 31 = .ok (.iadd, 1) := by decide +kernel
theorem dX7_eavesOf_32 : decode cX7_eavesOf 32 = .ok (.istore_n 2, 1) := by decide +kernel
theorem dX7_eavesOf_33 : decode cX7_eavesOf 33 = .ok (.iinc 3 1, 3) := by decide +kernel
theorem dX7_eavesOf_36 : decode cX7_eavesOf 36 = .ok (.goto (-32), 3) := by decide +kernel
theorem dX7_eavesOf_39 : decode cX7_eavesOf 39 = .ok (.iload_n 2, 1) := by decide +kernel
theorem dX7_eavesOf_40 : decode cX7_eavesOf 40 = .ok (.ireturn, 1) := by decide +kernel
theorem dX7_findSpan_0 : decode cX7_findSpan 0 = .ok (.aload_n 0, 1) := by decide +kernel
theorem dX7_findSpan_1 : decode cX7_findSpan 1 = .ok (.iconst 0, 1) := by decide +kernel
theorem dX7_findSpan_2 : decode cX7_findSpan 2 = .ok (.putfield 319, 3) := by decide +kernel
theorem dX7_findSpan_5 : decode cX7_findSpan 5 = .ok (.aload_n 0, 1) := by decide +kernel
theorem dX7_findSpan_6 : decode cX7_findSpan 6 = .ok (.aload_n 0, 1) := by decide +kernel
theorem dX7_findSpan_7 : decode cX7_findSpan 7 = .ok (.getfield 13, 3) := by decide +kernel
theorem dX7_findSpan_10 : decode cX7_findSpan 10 = .ok (.iload_n 1, 1) := by decide +kernel
theorem dX7_findSpan_11 : decode cX7_findSpan 11 = .ok (.iaload, 1) := by decide +kernel
theorem dX7_findSpan_12 : decode cX7_findSpan 12 = .ok (.putfield 322, 3) := by decide +kernel
theorem dX7_findSpan_15 : decode cX7_findSpan 15 = .ok (.iconst 0, 1) := by decide +kernel
theorem dX7_findSpan_16 : decode cX7_findSpan 16 = .ok (.istore_n 2, 1) := by decide +kernel
theorem dX7_findSpan_17 : decode cX7_findSpan 17 = .ok (.iload_n 2, 1) := by decide +kernel
theorem dX7_findSpan_18 : decode cX7_findSpan 18 = .ok (.aload_n 0, 1) := by decide +kernel
theorem dX7_findSpan_19 : decode cX7_findSpan 19 = .ok (.getfield 171, 3) := by decide +kernel
theorem dX7_findSpan_22 : decode cX7_findSpan 22 = .ok (.if_icmp .ge 96, 3) := by decide +kernel
theorem dX7_findSpan_25 : decode cX7_findSpan 25 = .ok (.aload_n 0, 1) := by decide +kernel
theorem dX7_findSpan_26 : decode cX7_findSpan 26 = .ok (.getfield 77, 3) := by decide +kernel
theorem dX7_findSpan_29 : decode cX7_findSpan 29 = .ok (.iload_n 2, 1) := by decide +kernel
theorem dX7_findSpan_30 : decode cX7_findSpan 30 = .ok (.iaload, 1) := by decide +kernel
theorem dX7_findSpan_31 : decode cX7_findSpan 31 = .ok (.iload_n 1, 1) := by decide +kernel
theorem dX7_findSpan_32 : decode cX7_findSpan 32 = .ok (.invokestatic 189, 3) := by decide +kernel
theorem dX7_findSpan_35 : decode cX7_findSpan 35 = .ok (.ifCond .eq 77, 3) := by decide +kernel
theorem dX7_findSpan_38 : decode cX7_findSpan 38 = .ok (.aload_n 0, 1) := by decide +kernel
theorem dX7_findSpan_39 : decode cX7_findSpan 39 = .ok (.getfield 80, 3) := by decide +kernel
theorem dX7_findSpan_42 : decode cX7_findSpan 42 = .ok (.iload_n 2, 1) := by decide +kernel
theorem dX7_findSpan_43 : decode cX7_findSpan 43 = .ok (.iaload, 1) := by decide +kernel
theorem dX7_findSpan_44 : decode cX7_findSpan 44 = .ok (.aload_n 0, 1) := by decide +kernel
theorem dX7_findSpan_45 : decode cX7_findSpan 45 = .ok (.aload_n 0, 1) := by decide +kernel
theorem dX7_findSpan_46 : decode cX7_findSpan 46 = .ok (.getfield 77, 3) := by decide +kernel
theorem dX7_findSpan_49 : decode cX7_findSpan 49 = .ok (.iload_n 2, 1) := by decide +kernel
theorem dX7_findSpan_50 : decode cX7_findSpan 50 = .ok (.iaload, 1) := by decide +kernel
theorem dX7_findSpan_51 : decode cX7_findSpan 51 = .ok (.iconst 1, 1) := by decide +kernel
theorem dX7_findSpan_52 : decode cX7_findSpan 52 = .ok (.iload_n 1, 1) := by decide +kernel
theorem dX7_findSpan_53 : decode cX7_findSpan 53 = .ok (.ishl, 1) := by decide +kernel
theorem dX7_findSpan_54 : decode cX7_findSpan 54 = .ok (.iconst (-1), 1) := by decide +kernel
theorem dX7_findSpan_55 : decode cX7_findSpan 55 = .ok (.ixor, 1) := by decide +kernel
theorem dX7_findSpan_56 : decode cX7_findSpan 56 = .ok (.iand, 1) := by decide +kernel
theorem dX7_findSpan_57 : decode cX7_findSpan 57 = .ok (.invokevirtual 325, 3) := by decide +kernel
theorem dX7_findSpan_60 : decode cX7_findSpan 60 = .ok (.isub, 1) := by decide +kernel
theorem dX7_findSpan_61 : decode cX7_findSpan 61 = .ok (.istore_n 3, 1) := by decide +kernel
theorem dX7_findSpan_62 : decode cX7_findSpan 62 = .ok (.aload_n 0, 1) := by decide +kernel
theorem dX7_findSpan_63 : decode cX7_findSpan 63 = .ok (.iload_n 3, 1) := by decide +kernel
theorem dX7_findSpan_64 : decode cX7_findSpan 64 = .ok (.aload_n 0, 1) := by decide +kernel
theorem dX7_findSpan_65 : decode cX7_findSpan 65 = .ok (.getfield 319, 3) := by decide +kernel
theorem dX7_findSpan_68 : decode cX7_findSpan 68 = .ok (.if_icmp .le 7, 3) := by decide +kernel
theorem dX7_findSpan_71 : decode cX7_findSpan 71 = .ok (.iload_n 3, 1) := by decide +kernel
theorem dX7_findSpan_72 : decode cX7_findSpan 72 = .ok (.goto 7, 3) := by decide +kernel
theorem dX7_findSpan_75 : decode cX7_findSpan 75 = .ok (.aload_n 0, 1) := by decide +kernel
theorem dX7_findSpan_76 : decode cX7_findSpan 76 = .ok (.getfield 319, 3) := by decide +kernel
theorem dX7_findSpan_79 : decode cX7_findSpan 79 = .ok (.putfield 319, 3) := by decide +kernel
theorem dX7_findSpan_82 : decode cX7_findSpan 82 = .ok (.aload_n 0, 1) := by decide +kernel
theorem dX7_findSpan_83 : decode cX7_findSpan 83 = .ok (.aload_n 0, 1) := by decide +kernel
theorem dX7_findSpan_84 : decode cX7_findSpan 84 = .ok (.getfield 80, 3) := by decide +kernel
theorem dX7_findSpan_87 : decode cX7_findSpan 87 = .ok (.iload_n 2, 1) := by decide +kernel
theorem dX7_findSpan_88 : decode cX7_findSpan 88 = .ok (.iaload, 1) := by decide +kernel
theorem dX7_findSpan_89 : decode cX7_findSpan 89 = .ok (.aload_n 0, 1) := by decide +kernel
theorem dX7_findSpan_90 : decode cX7_findSpan 90 = .ok (.getfield 322, 3) := by decide +kernel
theorem dX7_findSpan_93 : decode cX7_findSpan 93 = .ok (.if_icmp .ge 12, 3) := by decide +kernel
theorem dX7_findSpan_96 : decode cX7_findSpan 96 = .ok (.aload_n 0, 1) := by decide +kernel
theorem dX7_findSpan_97 : decode cX7_findSpan 97 = .ok (.getfield 80, 3) := by decide +kernel
theorem dX7_findSpan_100 : decode cX7_findSpan 100 = .ok (.iload_n 2, 1) := by decide +kernel
theorem dX7_findSpan_101 : decode cX7_findSpan 101 = .ok (.iaload, 1) := by decide +kernel
theorem dX7_findSpan_102 : decode cX7_findSpan 102 = .ok (.goto 7, 3) := by decide +kernel
theorem dX7_findSpan_105 : decode cX7_findSpan 105 = .ok (.aload_n 0, 1) := by decide +kernel
theorem dX7_findSpan_106 : decode cX7_findSpan 106 = .ok (.getfield 322, 3) := by decide +kernel
theorem dX7_findSpan_109 : decode cX7_findSpan 109 = .ok (.putfield 322, 3) := by decide +kernel
theorem dX7_findSpan_112 : decode cX7_findSpan 112 = .ok (.iinc 2 1, 3) := by decide +kernel
theorem dX7_findSpan_115 : decode cX7_findSpan 115 = .ok (.goto (-98), 3) := by decide +kernel
theorem dX7_findSpan_118 : decode cX7_findSpan 118 = .ok (.return_, 1) := by decide +kernel
theorem dX7_span_0 : decode cX7_span 0 = .ok (.aload_n 0, 1) := by decide +kernel
theorem dX7_span_1 : decode cX7_span 1 = .ok (.iload_n 1, 1) := by decide +kernel
theorem dX7_span_2 : decode cX7_span 2 = .ok (.invokevirtual 184, 3) := by decide +kernel
theorem dX7_span_5 : decode cX7_span 5 = .ok (.ifCond .ne 6, 3) := by decide +kernel
theorem dX7_span_8 : decode cX7_span 8 = .ok (.ldc 188, 2) := by decide +kernel
theorem dX7_span_10 : decode cX7_span 10 = .ok (.ireturn, 1) := by decide +kernel
theorem dX7_span_11 : decode cX7_span 11 = .ok (.iload_n 2, 1) := by decide +kernel
theorem dX7_span_12 : decode cX7_span 12 = .ok (.i2l, 1) := by decide +kernel
theorem dX7_span_13 : decode cX7_span 13 = .ok (.lconst 0, 1) := by decide +kernel
theorem dX7_span_14 : decode cX7_span 14 = .ok (.lconst 1, 1) := by decide +kernel
theorem dX7_span_15 : decode cX7_span 15 = .ok (.invokestatic 99, 3) := by decide +kernel
theorem dX7_span_18 : decode cX7_span 18 = .ok (.ifCond .ne 6, 3) := by decide +kernel
theorem dX7_span_21 : decode cX7_span 21 = .ok (.ldc 108, 2) := by decide +kernel
theorem dX7_span_23 : decode cX7_span 23 = .ok (.ireturn, 1) := by decide +kernel
theorem dX7_span_24 : decode cX7_span 24 = .ok (.aload_n 0, 1) := by decide +kernel
theorem dX7_span_25 : decode cX7_span 25 = .ok (.iload_n 1, 1) := by decide +kernel
theorem dX7_span_26 : decode cX7_span 26 = .ok (.invokevirtual 328, 3) := by decide +kernel
theorem dX7_span_29 : decode cX7_span 29 = .ok (.aload_n 0, 1) := by decide +kernel
theorem dX7_span_30 : decode cX7_span 30 = .ok (.getfield 319, 3) := by decide +kernel
theorem dX7_span_33 : decode cX7_span 33 = .ok (.aload_n 0, 1) := by decide +kernel
theorem dX7_span_34 : decode cX7_span 34 = .ok (.getfield 322, 3) := by decide +kernel
theorem dX7_span_37 : decode cX7_span 37 = .ok (.if_icmp .le 7, 3) := by decide +kernel
theorem dX7_span_40 : decode cX7_span 40 = .ok (.iconst (-1), 1) := by decide +kernel
theorem dX7_span_41 : decode cX7_span 41 = .ok (.goto 18, 3) := by decide +kernel
theorem dX7_span_44 : decode cX7_span 44 = .ok (.iload_n 2, 1) := by decide +kernel
theorem dX7_span_45 : decode cX7_span 45 = .ok (.ifCond .ne 10, 3) := by decide +kernel
theorem dX7_span_48 : decode cX7_span 48 = .ok (.aload_n 0, 1) := by decide +kernel
theorem dX7_span_49 : decode cX7_span 49 = .ok (.getfield 319, 3) := by decide +kernel
theorem dX7_span_52 : decode cX7_span 52 = .ok (.goto 7, 3) := by decide +kernel
theorem dX7_span_55 : decode cX7_span 55 = .ok (.aload_n 0, 1) := by decide +kernel
theorem dX7_span_56 : decode cX7_span 56 = .ok (.getfield 322, 3) := by decide +kernel
theorem dX7_span_59 : decode cX7_span 59 = .ok (.ireturn, 1) := by decide +kernel
theorem dX7_uncounted_0 : decode cX7_uncounted 0 = .ok (.iconst 0, 1) := by decide +kernel
theorem dX7_uncounted_1 : decode cX7_uncounted 1 = .ok (.istore_n 1, 1) := by decide +kernel
theorem dX7_uncounted_2 : decode cX7_uncounted 2 = .ok (.iconst 0, 1) := by decide +kernel
theorem dX7_uncounted_3 : decode cX7_uncounted 3 = .ok (.istore_n 2, 1) := by decide +kernel
theorem dX7_uncounted_4 : decode cX7_uncounted 4 = .ok (.iload_n 2, 1) := by decide +kernel
theorem dX7_uncounted_5 : decode cX7_uncounted 5 = .ok (.aload_n 0, 1) := by decide +kernel
theorem dX7_uncounted_6 : decode cX7_uncounted 6 = .ok (.getfield 96, 3) := by decide +kernel
theorem dX7_uncounted_9 : decode cX7_uncounted 9 = .ok (.if_icmp .ge 35, 3) := by decide +kernel
theorem dX7_uncounted_12 : decode cX7_uncounted 12 = .ok (.aload_n 0, 1) := by decide +kernel
theorem dX7_uncounted_13 : decode cX7_uncounted 13 = .ok (.iload_n 2, 1) := by decide +kernel
theorem dX7_uncounted_14 : decode cX7_uncounted 14 = .ok (.invokevirtual 328, 3) := by decide +kernel
theorem dX7_uncounted_17 : decode cX7_uncounted 17 = .ok (.iload_n 1, 1) := by decide +kernel
theorem dX7_uncounted_18 : decode cX7_uncounted 18 = .ok (.aload_n 0, 1) := by decide +kernel
theorem dX7_uncounted_19 : decode cX7_uncounted 19 = .ok (.getfield 319, 3) := by decide +kernel
theorem dX7_uncounted_22 : decode cX7_uncounted 22 = .ok (.aload_n 0, 1) := by decide +kernel
theorem dX7_uncounted_23 : decode cX7_uncounted 23 = .ok (.getfield 322, 3) := by decide +kernel
theorem dX7_uncounted_26 : decode cX7_uncounted 26 = .ok (.if_icmp .eq 9, 3) := by decide +kernel
theorem dX7_uncounted_29 : decode cX7_uncounted 29 = .ok (.iconst 1, 1) := by decide +kernel
theorem dX7_uncounted_30 : decode cX7_uncounted 30 = .ok (.iload_n 2, 1) := by decide +kernel
theorem dX7_uncounted_31 : decode cX7_uncounted 31 = .ok (.ishl, 1) := by decide +kernel
theorem dX7_uncounted_32 : decode cX7_uncounted 32 = .ok (.goto 4, 3) := by decide +kernel
theorem dX7_uncounted_35 : decode cX7_uncounted 35 = .ok (.iconst 0, 1) := by decide +kernel
theorem dX7_uncounted_36 : decode cX7_uncounted 36 = .ok (.ior, 1) := by decide +kernel
theorem dX7_uncounted_37 : decode cX7_uncounted 37 = .ok (.istore_n 1, 1) := by decide +kernel
theorem dX7_uncounted_38 : decode cX7_uncounted 38 = .ok (.iinc 2 1, 3) := by decide +kernel
theorem dX7_uncounted_41 : decode cX7_uncounted 41 = .ok (.goto (-37), 3) := by decide +kernel
theorem dX7_uncounted_44 : decode cX7_uncounted 44 = .ok (.iload_n 1, 1) := by decide +kernel
theorem dX7_uncounted_45 : decode cX7_uncounted 45 = .ok (.ireturn, 1) := by decide +kernel
theorem dX7_write_0 : decode cX7_write 0 = .ok (.aload_n 0, 1) := by decide +kernel
theorem dX7_write_1 : decode cX7_write 1 = .ok (.iload_n 1, 1) := by decide +kernel
theorem dX7_write_2 : decode cX7_write 2 = .ok (.invokevirtual 250, 3) := by decide +kernel
theorem dX7_write_5 : decode cX7_write 5 = .ok (.ifCond .ne 6, 3) := by decide +kernel
theorem dX7_write_8 : decode cX7_write 8 = .ok (.ldc 188, 2) := by decide +kernel
theorem dX7_write_10 : decode cX7_write 10 = .ok (.ireturn, 1) := by decide +kernel
theorem dX7_write_11 : decode cX7_write 11 = .ok (.iload_n 2, 1) := by decide +kernel
theorem dX7_write_12 : decode cX7_write 12 = .ok (.i2l, 1) := by decide +kernel
theorem dX7_write_13 : decode cX7_write 13 = .ok (.lconst 0, 1) := by decide +kernel
theorem dX7_write_14 : decode cX7_write 14 = .ok (.ldc2_w 317, 3) := by decide +kernel
theorem dX7_write_17 : decode cX7_write 17 = .ok (.invokestatic 99, 3) := by decide +kernel
theorem dX7_write_20 : decode cX7_write 20 = .ok (.ifCond .ne 6, 3) := by decide +kernel
theorem dX7_write_23 : decode cX7_write 23 = .ok (.ldc 108, 2) := by decide +kernel
theorem dX7_write_25 : decode cX7_write 25 = .ok (.ireturn, 1) := by decide +kernel
theorem dX7_write_26 : decode cX7_write 26 = .ok (.aload_n 0, 1) := by decide +kernel
theorem dX7_write_27 : decode cX7_write 27 = .ok (.getfield 174, 3) := by decide +kernel
theorem dX7_write_30 : decode cX7_write 30 = .ok (.bipush 15, 2) := by decide +kernel
theorem dX7_write_32 : decode cX7_write 32 = .ok (.if_icmp .ne 6, 3) := by decide +kernel
theorem dX7_write_35 : decode cX7_write 35 = .ok (.ldc 112, 2) := by decide +kernel
theorem dX7_write_37 : decode cX7_write 37 = .ok (.ireturn, 1) := by decide +kernel
theorem dX7_write_38 : decode cX7_write 38 = .ok (.aload_n 0, 1) := by decide +kernel
theorem dX7_write_39 : decode cX7_write 39 = .ok (.getfield 83, 3) := by decide +kernel
theorem dX7_write_42 : decode cX7_write 42 = .ok (.aload_n 0, 1) := by decide +kernel
theorem dX7_write_43 : decode cX7_write 43 = .ok (.getfield 174, 3) := by decide +kernel
theorem dX7_write_46 : decode cX7_write 46 = .ok (.iload_n 1, 1) := by decide +kernel
theorem dX7_write_47 : decode cX7_write 47 = .ok (.iastore, 1) := by decide +kernel
theorem dX7_write_48 : decode cX7_write 48 = .ok (.aload_n 0, 1) := by decide +kernel
theorem dX7_write_49 : decode cX7_write 49 = .ok (.getfield 86, 3) := by decide +kernel
theorem dX7_write_52 : decode cX7_write 52 = .ok (.aload_n 0, 1) := by decide +kernel
theorem dX7_write_53 : decode cX7_write 53 = .ok (.getfield 174, 3) := by decide +kernel
theorem dX7_write_56 : decode cX7_write 56 = .ok (.iload_n 2, 1) := by decide +kernel
theorem dX7_write_57 : decode cX7_write 57 = .ok (.iastore, 1) := by decide +kernel
theorem dX7_write_58 : decode cX7_write 58 = .ok (.aload_n 0, 1) := by decide +kernel
theorem dX7_write_59 : decode cX7_write 59 = .ok (.dup, 1) := by decide +kernel
theorem dX7_write_60 : decode cX7_write 60 = .ok (.getfield 174, 3) := by decide +kernel
theorem dX7_write_63 : decode cX7_write 63 = .ok (.iconst 1, 1) := by decide +kernel
theorem dX7_write_64 : decode cX7_write 64 = .ok (.iadd, 1) := by decide +kernel
theorem dX7_write_65 : decode cX7_write 65 = .ok (.putfield 174, 3) := by decide +kernel
theorem dX7_write_68 : decode cX7_write 68 = .ok (.aload_n 0, 1) := by decide +kernel
theorem dX7_write_69 : decode cX7_write 69 = .ok (.getfield 174, 3) := by decide +kernel
theorem dX7_write_72 : decode cX7_write 72 = .ok (.ireturn, 1) := by decide +kernel
theorem dX7_tear_0 : decode cX7_tear 0 = .ok (.aload_n 0, 1) := by decide +kernel
theorem dX7_tear_1 : decode cX7_tear 1 = .ok (.getfield 168, 3) := by decide +kernel
theorem dX7_tear_4 : decode cX7_tear 4 = .ok (.aload_n 0, 1) := by decide +kernel
theorem dX7_tear_5 : decode cX7_tear 5 = .ok (.getfield 171, 3) := by decide +kernel
theorem dX7_tear_8 : decode cX7_tear 8 = .ok (.iadd, 1) := by decide +kernel
theorem dX7_tear_9 : decode cX7_tear 9 = .ok (.aload_n 0, 1) := by decide +kernel
theorem dX7_tear_10 : decode cX7_tear 10 = .ok (.getfield 174, 3) := by decide +kernel
theorem dX7_tear_13 : decode cX7_tear 13 = .ok (.iadd, 1) := by decide +kernel
theorem dX7_tear_14 : decode cX7_tear 14 = .ok (.istore_n 1, 1) := by decide +kernel
theorem dX7_tear_15 : decode cX7_tear 15 = .ok (.aload_n 0, 1) := by decide +kernel
theorem dX7_tear_16 : decode cX7_tear 16 = .ok (.iconst 0, 1) := by decide +kernel
theorem dX7_tear_17 : decode cX7_tear 17 = .ok (.putfield 168, 3) := by decide +kernel
theorem dX7_tear_20 : decode cX7_tear 20 = .ok (.aload_n 0, 1) := by decide +kernel
theorem dX7_tear_21 : decode cX7_tear 21 = .ok (.iconst 0, 1) := by decide +kernel
theorem dX7_tear_22 : decode cX7_tear 22 = .ok (.putfield 171, 3) := by decide +kernel
theorem dX7_tear_25 : decode cX7_tear 25 = .ok (.aload_n 0, 1) := by decide +kernel
theorem dX7_tear_26 : decode cX7_tear 26 = .ok (.iconst 0, 1) := by decide +kernel
theorem dX7_tear_27 : decode cX7_tear 27 = .ok (.putfield 174, 3) := by decide +kernel
theorem dX7_tear_30 : decode cX7_tear 30 = .ok (.iload_n 1, 1) := by decide +kernel
theorem dX7_tear_31 : decode cX7_tear 31 = .ok (.ireturn, 1) := by decide +kernel
theorem dX7_judge_0 : decode cX7_judge 0 = .ok (.iconst 0, 1) := by decide +kernel
theorem dX7_judge_1 : decode cX7_judge 1 = .ok (.istore_n 1, 1) := by decide +kernel
theorem dX7_judge_2 : decode cX7_judge 2 = .ok (.iload_n 1, 1) := by decide +kernel
theorem dX7_judge_3 : decode cX7_judge 3 = .ok (.aload_n 0, 1) := by decide +kernel
theorem dX7_judge_4 : decode cX7_judge 4 = .ok (.getfield 174, 3) := by decide +kernel
theorem dX7_judge_7 : decode cX7_judge 7 = .ok (.if_icmp .ge 30, 3) := by decide +kernel
theorem dX7_judge_10 : decode cX7_judge 10 = .ok (.aload_n 0, 1) := by decide +kernel
theorem dX7_judge_11 : decode cX7_judge 11 = .ok (.aload_n 0, 1) := by decide +kernel
theorem dX7_judge_12 : decode cX7_judge 12 = .ok (.getfield 83, 3) := by decide +kernel
theorem dX7_judge_15 : decode cX7_judge 15 = .ok (.iload_n 1, 1) := by decide +kernel
theorem dX7_judge_16 : decode cX7_judge 16 = .ok (.iaload, 1) := by decide +kernel
theorem dX7_judge_17 : decode cX7_judge 17 = .ok (.invokevirtual 260, 3) := by decide +kernel
theorem dX7_judge_20 : decode cX7_judge 20 = .ok (.aload_n 0, 1) := by decide +kernel
theorem dX7_judge_21 : decode cX7_judge 21 = .ok (.getfield 86, 3) := by decide +kernel
theorem dX7_judge_24 : decode cX7_judge 24 = .ok (.iload_n 1, 1) := by decide +kernel
theorem dX7_judge_25 : decode cX7_judge 25 = .ok (.iaload, 1) := by decide +kernel
theorem dX7_judge_26 : decode cX7_judge 26 = .ok (.if_icmp .eq 5, 3) := by decide +kernel
theorem dX7_judge_29 : decode cX7_judge 29 = .ok (.iload_n 1, 1) := by decide +kernel
theorem dX7_judge_30 : decode cX7_judge 30 = .ok (.ireturn, 1) := by decide +kernel
theorem dX7_judge_31 : decode cX7_judge 31 = .ok (.iinc 1 1, 3) := by decide +kernel
theorem dX7_judge_34 : decode cX7_judge 34 = .ok (.goto (-32), 3) := by decide +kernel
theorem dX7_judge_37 : decode cX7_judge 37 = .ok (.iconst (-1), 1) := by decide +kernel
theorem dX7_judge_38 : decode cX7_judge 38 = .ok (.ireturn, 1) := by decide +kernel
theorem dX7_seed_0 : decode cX7_seed 0 = .ok (.iload_n 1, 1) := by decide +kernel
theorem dX7_seed_1 : decode cX7_seed 1 = .ok (.ifCond .ge 6, 3) := by decide +kernel
theorem dX7_seed_4 : decode cX7_seed 4 = .ok (.ldc 108, 2) := by decide +kernel
theorem dX7_seed_6 : decode cX7_seed 6 = .ok (.ireturn, 1) := by decide +kernel
theorem dX7_seed_7 : decode cX7_seed 7 = .ok (.aload_n 0, 1) := by decide +kernel
theorem dX7_seed_8 : decode cX7_seed 8 = .ok (.getfield 237, 3) := by decide +kernel
theorem dX7_seed_11 : decode cX7_seed 11 = .ok (.istore_n 2, 1) := by decide +kernel
theorem dX7_seed_12 : decode cX7_seed 12 = .ok (.aload_n 0, 1) := by decide +kernel
theorem dX7_seed_13 : decode cX7_seed 13 = .ok (.iload_n 1, 1) := by decide +kernel
theorem dX7_seed_14 : decode cX7_seed 14 = .ok (.putfield 237, 3) := by decide +kernel
theorem dX7_seed_17 : decode cX7_seed 17 = .ok (.iload_n 2, 1) := by decide +kernel
theorem dX7_seed_18 : decode cX7_seed 18 = .ok (.ireturn, 1) := by decide +kernel
theorem dX7_keep_0 : decode cX7_keep 0 = .ok (.iload_n 1, 1) := by decide +kernel
theorem dX7_keep_1 : decode cX7_keep 1 = .ok (.i2l, 1) := by decide +kernel
theorem dX7_keep_2 : decode cX7_keep 2 = .ok (.lconst 0, 1) := by decide +kernel
theorem dX7_keep_3 : decode cX7_keep 3 = .ok (.lconst 1, 1) := by decide +kernel
theorem dX7_keep_4 : decode cX7_keep 4 = .ok (.invokestatic 99, 3) := by decide +kernel
theorem dX7_keep_7 : decode cX7_keep 7 = .ok (.ifCond .ne 6, 3) := by decide +kernel
theorem dX7_keep_10 : decode cX7_keep 10 = .ok (.ldc 188, 2) := by decide +kernel
theorem dX7_keep_12 : decode cX7_keep 12 = .ok (.ireturn, 1) := by decide +kernel
theorem dX7_keep_13 : decode cX7_keep 13 = .ok (.iconst 0, 1) := by decide +kernel
theorem dX7_keep_14 : decode cX7_keep 14 = .ok (.istore_n 2, 1) := by decide +kernel
theorem dX7_keep_15 : decode cX7_keep 15 = .ok (.iload_n 2, 1) := by decide +kernel
theorem dX7_keep_16 : decode cX7_keep 16 = .ok (.bipush 27, 2) := by decide +kernel
theorem dX7_keep_18 : decode cX7_keep 18 = .ok (.if_icmp .ge 26, 3) := by decide +kernel
theorem dX7_keep_21 : decode cX7_keep 21 = .ok (.aload_n 0, 1) := by decide +kernel
theorem dX7_keep_22 : decode cX7_keep 22 = .ok (.getfield 89, 3) := by decide +kernel
theorem dX7_keep_25 : decode cX7_keep 25 = .ok (.bipush 28, 2) := by decide +kernel
theorem dX7_keep_27 : decode cX7_keep 27 = .ok (.iload_n 1, 1) := by decide +kernel
theorem dX7_keep_28 : decode cX7_keep 28 = .ok (.imul, 1) := by decide +kernel
theorem dX7_keep_29 : decode cX7_keep 29 = .ok (.iload_n 2, 1) := by decide +kernel
theorem dX7_keep_30 : decode cX7_keep 30 = .ok (.iadd, 1) := by decide +kernel
theorem dX7_keep_31 : decode cX7_keep 31 = .ok (.aload_n 0, 1) := by decide +kernel
theorem dX7_keep_32 : decode cX7_keep 32 = .ok (.getfield 26, 3) := by decide +kernel
theorem dX7_keep_35 : decode cX7_keep 35 = .ok (.iload_n 2, 1) := by decide +kernel
theorem dX7_keep_36 : decode cX7_keep 36 = .ok (.iaload, 1) := by decide +kernel
theorem dX7_keep_37 : decode cX7_keep 37 = .ok (.iastore, 1) := by decide +kernel
theorem dX7_keep_38 : decode cX7_keep 38 = .ok (.iinc 2 1, 3) := by decide +kernel
theorem dX7_keep_41 : decode cX7_keep 41 = .ok (.goto (-26), 3) := by decide +kernel
theorem dX7_keep_44 : decode cX7_keep 44 = .ok (.aload_n 0, 1) := by decide +kernel
theorem dX7_keep_45 : decode cX7_keep 45 = .ok (.getfield 89, 3) := by decide +kernel
theorem dX7_keep_48 : decode cX7_keep 48 = .ok (.bipush 28, 2) := by decide +kernel
theorem dX7_keep_50 : decode cX7_keep 50 = .ok (.iload_n 1, 1) := by decide +kernel
theorem dX7_keep_51 : decode cX7_keep 51 = .ok (.imul, 1) := by decide +kernel
theorem dX7_keep_52 : decode cX7_keep 52 = .ok (.bipush 27, 2) := by decide +kernel
theorem dX7_keep_54 : decode cX7_keep 54 = .ok (.iadd, 1) := by decide +kernel
theorem dX7_keep_55 : decode cX7_keep 55 = .ok (.aload_n 0, 1) := by decide +kernel
theorem dX7_keep_56 : decode cX7_keep 56 = .ok (.getfield 237, 3) := by decide +kernel
theorem dX7_keep_59 : decode cX7_keep 59 = .ok (.iastore, 1) := by decide +kernel
theorem dX7_keep_60 : decode cX7_keep 60 = .ok (.aload_n 0, 1) := by decide +kernel
theorem dX7_keep_61 : decode cX7_keep 61 = .ok (.getfield 92, 3) := by decide +kernel
theorem dX7_keep_64 : decode cX7_keep 64 = .ok (.iload_n 1, 1) := by decide +kernel
theorem dX7_keep_65 : decode cX7_keep 65 = .ok (.iconst 1, 1) := by decide +kernel
theorem dX7_keep_66 : decode cX7_keep 66 = .ok (.bastore, 1) := by decide +kernel
theorem dX7_keep_67 : decode cX7_keep 67 = .ok (.aload_n 0, 1) := by decide +kernel
theorem dX7_keep_68 : decode cX7_keep 68 = .ok (.iconst 0, 1) := by decide +kernel
theorem dX7_keep_69 : decode cX7_keep 69 = .ok (.putfield 177, 3) := by decide +kernel
theorem dX7_keep_72 : decode cX7_keep 72 = .ok (.iconst 1, 1) := by decide +kernel
theorem dX7_keep_73 : decode cX7_keep 73 = .ok (.ireturn, 1) := by decide +kernel
theorem dX7_goBack_0 : decode cX7_goBack 0 = .ok (.iload_n 1, 1) := by decide +kernel
theorem dX7_goBack_1 : decode cX7_goBack 1 = .ok (.i2l, 1) := by decide +kernel
theorem dX7_goBack_2 : decode cX7_goBack 2 = .ok (.lconst 0, 1) := by decide +kernel
theorem dX7_goBack_3 : decode cX7_goBack 3 = .ok (.lconst 1, 1) := by decide +kernel
theorem dX7_goBack_4 : decode cX7_goBack 4 = .ok (.invokestatic 99, 3) := by decide +kernel
theorem dX7_goBack_7 : decode cX7_goBack 7 = .ok (.ifCond .ne 6, 3) := by decide +kernel
theorem dX7_goBack_10 : decode cX7_goBack 10 = .ok (.ldc 188, 2) := by decide +kernel
theorem dX7_goBack_12 : decode cX7_goBack 12 = .ok (.ireturn, 1) := by decide +kernel
theorem dX7_goBack_13 : decode cX7_goBack 13 = .ok (.aload_n 0, 1) := by decide +kernel
theorem dX7_goBack_14 : decode cX7_goBack 14 = .ok (.getfield 92, 3) := by decide +kernel
theorem dX7_goBack_17 : decode cX7_goBack 17 = .ok (.iload_n 1, 1) := by decide +kernel
theorem dX7_goBack_18 : decode cX7_goBack 18 = .ok (.baload, 1) := by decide +kernel
theorem dX7_goBack_19 : decode cX7_goBack 19 = .ok (.ifCond .ne 6, 3) := by decide +kernel
theorem dX7_goBack_22 : decode cX7_goBack 22 = .ok (.ldc 215, 2) := by decide +kernel
theorem dX7_goBack_24 : decode cX7_goBack 24 = .ok (.ireturn, 1) := by decide +kernel
theorem dX7_goBack_25 : decode cX7_goBack 25 = .ok (.iconst 0, 1) := by decide +kernel
theorem dX7_goBack_26 : decode cX7_goBack 26 = .ok (.istore_n 2, 1) := by decide +kernel
theorem dX7_goBack_27 : decode cX7_goBack 27 = .ok (.iload_n 2, 1) := by decide +kernel
theorem dX7_goBack_28 : decode cX7_goBack 28 = .ok (.bipush 27, 2) := by decide +kernel
theorem dX7_goBack_30 : decode cX7_goBack 30 = .ok (.if_icmp .ge 26, 3) := by decide +kernel
theorem dX7_goBack_33 : decode cX7_goBack 33 = .ok (.aload_n 0, 1) := by decide +kernel
theorem dX7_goBack_34 : decode cX7_goBack 34 = .ok (.getfield 26, 3) := by decide +kernel
theorem dX7_goBack_37 : decode cX7_goBack 37 = .ok (.iload_n 2, 1) := by decide +kernel
theorem dX7_goBack_38 : decode cX7_goBack 38 = .ok (.aload_n 0, 1) := by decide +kernel
theorem dX7_goBack_39 : decode cX7_goBack 39 = .ok (.getfield 89, 3) := by decide +kernel
theorem dX7_goBack_42 : decode cX7_goBack 42 = .ok (.bipush 28, 2) := by decide +kernel
theorem dX7_goBack_44 : decode cX7_goBack 44 = .ok (.iload_n 1, 1) := by decide +kernel
theorem dX7_goBack_45 : decode cX7_goBack 45 = .ok (.imul, 1) := by decide +kernel
theorem dX7_goBack_46 : decode cX7_goBack 46 = .ok (.iload_n 2, 1) := by decide +kernel
theorem dX7_goBack_47 : decode cX7_goBack 47 = .ok (.iadd, 1) := by decide +kernel
theorem dX7_goBack_48 : decode cX7_goBack 48 = .ok (.iaload, 1) := by decide +kernel
theorem dX7_goBack_49 : decode cX7_goBack 49 = .ok (.iastore, 1) := by decide +kernel
theorem dX7_goBack_50 : decode cX7_goBack 50 = .ok (.iinc 2 1, 3) := by decide +kernel
theorem dX7_goBack_53 : decode cX7_goBack 53 = .ok (.goto (-26), 3) := by decide +kernel
theorem dX7_goBack_56 : decode cX7_goBack 56 = .ok (.aload_n 0, 1) := by decide +kernel
theorem dX7_goBack_57 : decode cX7_goBack 57 = .ok (.aload_n 0, 1) := by decide +kernel
theorem dX7_goBack_58 : decode cX7_goBack 58 = .ok (.getfield 89, 3) := by decide +kernel
theorem dX7_goBack_61 : decode cX7_goBack 61 = .ok (.bipush 28, 2) := by decide +kernel
theorem dX7_goBack_63 : decode cX7_goBack 63 = .ok (.iload_n 1, 1) := by decide +kernel
theorem dX7_goBack_64 : decode cX7_goBack 64 = .ok (.imul, 1) := by decide +kernel
theorem dX7_goBack_65 : decode cX7_goBack 65 = .ok (.bipush 27, 2) := by decide +kernel
theorem dX7_goBack_67 : decode cX7_goBack 67 = .ok (.iadd, 1) := by decide +kernel
theorem dX7_goBack_68 : decode cX7_goBack 68 = .ok (.iaload, 1) := by decide +kernel
theorem dX7_goBack_69 : decode cX7_goBack 69 = .ok (.putfield 237, 3) := by decide +kernel
theorem dX7_goBack_72 : decode cX7_goBack 72 = .ok (.aload_n 0, 1) := by decide +kernel
theorem dX7_goBack_73 : decode cX7_goBack 73 = .ok (.iconst 0, 1) := by decide +kernel
theorem dX7_goBack_74 : decode cX7_goBack 74 = .ok (.putfield 177, 3) := by decide +kernel
theorem dX7_goBack_77 : decode cX7_goBack 77 = .ok (.iconst 1, 1) := by decide +kernel
theorem dX7_goBack_78 : decode cX7_goBack 78 = .ok (.ireturn, 1) := by decide +kernel
theorem dJ6_bitCount_0f7a4_0 : decode cJ6_bitCount_0f7a4 0 = .ok (.iload_n 0, 1) := by decide +kernel
theorem dJ6_bitCount_0f7a4_1 : decode cJ6_bitCount_0f7a4 1 = .ok (.iload_n 0, 1) := by decide +kernel
theorem dJ6_bitCount_0f7a4_2 : decode cJ6_bitCount_0f7a4 2 = .ok (.iconst 1, 1) := by decide +kernel
theorem dJ6_bitCount_0f7a4_3 : decode cJ6_bitCount_0f7a4 3 = .ok (.iushr, 1) := by decide +kernel
theorem dJ6_bitCount_0f7a4_4 : decode cJ6_bitCount_0f7a4 4 = .ok (.ldc_w 265, 3) := by decide +kernel
theorem dJ6_bitCount_0f7a4_7 : decode cJ6_bitCount_0f7a4 7 = .ok (.iand, 1) := by decide +kernel
theorem dJ6_bitCount_0f7a4_8 : decode cJ6_bitCount_0f7a4 8 = .ok (.isub, 1) := by decide +kernel
theorem dJ6_bitCount_0f7a4_9 : decode cJ6_bitCount_0f7a4 9 = .ok (.istore_n 0, 1) := by decide +kernel
theorem dJ6_bitCount_0f7a4_10 : decode cJ6_bitCount_0f7a4 10 = .ok (.iload_n 0, 1) := by decide +kernel
theorem dJ6_bitCount_0f7a4_11 : decode cJ6_bitCount_0f7a4 11 = .ok (.ldc_w 266, 3) := by decide +kernel
theorem dJ6_bitCount_0f7a4_14 : decode cJ6_bitCount_0f7a4 14 = .ok (.iand, 1) := by decide +kernel
theorem dJ6_bitCount_0f7a4_15 : decode cJ6_bitCount_0f7a4 15 = .ok (.iload_n 0, 1) := by decide +kernel
theorem dJ6_bitCount_0f7a4_16 : decode cJ6_bitCount_0f7a4 16 = .ok (.iconst 2, 1) := by decide +kernel
theorem dJ6_bitCount_0f7a4_17 : decode cJ6_bitCount_0f7a4 17 = .ok (.iushr, 1) := by decide +kernel
theorem dJ6_bitCount_0f7a4_18 : decode cJ6_bitCount_0f7a4 18 = .ok (.ldc_w 266, 3) := by decide +kernel
theorem dJ6_bitCount_0f7a4_21 : decode cJ6_bitCount_0f7a4 21 = .ok (.iand, 1) := by decide +kernel
theorem dJ6_bitCount_0f7a4_22 : decode cJ6_bitCount_0f7a4 22 = .ok (.iadd, 1) := by decide +kernel
theorem dJ6_bitCount_0f7a4_23 : decode cJ6_bitCount_0f7a4 23 = .ok (.istore_n 0, 1) := by decide +kernel
theorem dJ6_bitCount_0f7a4_24 : decode cJ6_bitCount_0f7a4 24 = .ok (.iload_n 0, 1) := by decide +kernel
theorem dJ6_bitCount_0f7a4_25 : decode cJ6_bitCount_0f7a4 25 = .ok (.iload_n 0, 1) := by decide +kernel
theorem dJ6_bitCount_0f7a4_26 : decode cJ6_bitCount_0f7a4 26 = .ok (.iconst 4, 1) := by decide +kernel
theorem dJ6_bitCount_0f7a4_27 : decode cJ6_bitCount_0f7a4 27 = .ok (.iushr, 1) := by decide +kernel
theorem dJ6_bitCount_0f7a4_28 : decode cJ6_bitCount_0f7a4 28 = .ok (.iadd, 1) := by decide +kernel
theorem dJ6_bitCount_0f7a4_29 : decode cJ6_bitCount_0f7a4 29 = .ok (.ldc_w 267, 3) := by decide +kernel
theorem dJ6_bitCount_0f7a4_32 : decode cJ6_bitCount_0f7a4 32 = .ok (.iand, 1) := by decide +kernel
theorem dJ6_bitCount_0f7a4_33 : decode cJ6_bitCount_0f7a4 33 = .ok (.istore_n 0, 1) := by decide +kernel
theorem dJ6_bitCount_0f7a4_34 : decode cJ6_bitCount_0f7a4 34 = .ok (.iload_n 0, 1) := by decide +kernel
theorem dJ6_bitCount_0f7a4_35 : decode cJ6_bitCount_0f7a4 35 = .ok (.iload_n 0, 1) := by decide +kernel
theorem dJ6_bitCount_0f7a4_36 : decode cJ6_bitCount_0f7a4 36 = .ok (.bipush 8, 2) := by decide +kernel
theorem dJ6_bitCount_0f7a4_38 : decode cJ6_bitCount_0f7a4 38 = .ok (.iushr, 1) := by decide +kernel
theorem dJ6_bitCount_0f7a4_39 : decode cJ6_bitCount_0f7a4 39 = .ok (.iadd, 1) := by decide +kernel
theorem dJ6_bitCount_0f7a4_40 : decode cJ6_bitCount_0f7a4 40 = .ok (.istore_n 0, 1) := by decide +kernel
theorem dJ6_bitCount_0f7a4_41 : decode cJ6_bitCount_0f7a4 41 = .ok (.iload_n 0, 1) := by decide +kernel
theorem dJ6_bitCount_0f7a4_42 : decode cJ6_bitCount_0f7a4 42 = .ok (.iload_n 0, 1) := by decide +kernel
theorem dJ6_bitCount_0f7a4_43 : decode cJ6_bitCount_0f7a4 43 = .ok (.bipush 16, 2) := by decide +kernel
theorem dJ6_bitCount_0f7a4_45 : decode cJ6_bitCount_0f7a4 45 = .ok (.iushr, 1) := by decide +kernel
theorem dJ6_bitCount_0f7a4_46 : decode cJ6_bitCount_0f7a4 46 = .ok (.iadd, 1) := by decide +kernel
theorem dJ6_bitCount_0f7a4_47 : decode cJ6_bitCount_0f7a4 47 = .ok (.istore_n 0, 1) := by decide +kernel
theorem dJ6_bitCount_0f7a4_48 : decode cJ6_bitCount_0f7a4 48 = .ok (.iload_n 0, 1) := by decide +kernel
theorem dJ6_bitCount_0f7a4_49 : decode cJ6_bitCount_0f7a4 49 = .ok (.bipush 63, 2) := by decide +kernel
theorem dJ6_bitCount_0f7a4_51 : decode cJ6_bitCount_0f7a4 51 = .ok (.iand, 1) := by decide +kernel
theorem dJ6_bitCount_0f7a4_52 : decode cJ6_bitCount_0f7a4 52 = .ok (.ireturn, 1) := by decide +kernel
theorem dJ9_max_7cf53_0 : decode cJ9_max_7cf53 0 = .ok (.iload_n 0, 1) := by decide +kernel
theorem dJ9_max_7cf53_1 : decode cJ9_max_7cf53 1 = .ok (.iload_n 1, 1) := by decide +kernel
theorem dJ9_max_7cf53_2 : decode cJ9_max_7cf53 2 = .ok (.if_icmp .lt 7, 3) := by decide +kernel
theorem dJ9_max_7cf53_5 : decode cJ9_max_7cf53 5 = .ok (.iload_n 0, 1) := by decide +kernel
theorem dJ9_max_7cf53_6 : decode cJ9_max_7cf53 6 = .ok (.goto 4, 3) := by decide +kernel
theorem dJ9_max_7cf53_9 : decode cJ9_max_7cf53 9 = .ok (.iload_n 1, 1) := by decide +kernel
theorem dJ9_max_7cf53_10 : decode cJ9_max_7cf53 10 = .ok (.ireturn, 1) := by decide +kernel
theorem dJ9_min_7cf53_0 : decode cJ9_min_7cf53 0 = .ok (.iload_n 0, 1) := by decide +kernel
theorem dJ9_min_7cf53_1 : decode cJ9_min_7cf53 1 = .ok (.iload_n 1, 1) := by decide +kernel
theorem dJ9_min_7cf53_2 : decode cJ9_min_7cf53 2 = .ok (.if_icmp .gt 7, 3) := by decide +kernel
theorem dJ9_min_7cf53_5 : decode cJ9_min_7cf53 5 = .ok (.iload_n 0, 1) := by decide +kernel
theorem dJ9_min_7cf53_6 : decode cJ9_min_7cf53 6 = .ok (.goto 4, 3) := by decide +kernel
theorem dJ9_min_7cf53_9 : decode cJ9_min_7cf53 9 = .ok (.iload_n 1, 1) := by decide +kernel
theorem dJ9_min_7cf53_10 : decode cJ9_min_7cf53 10 = .ok (.ireturn, 1) := by decide +kernel
theorem dJ7_fill_53178_0 : decode cJ7_fill_53178 0 = .ok (.iconst 0, 1) := by decide +kernel
theorem dJ7_fill_53178_1 : decode cJ7_fill_53178 1 = .ok (.istore_n 2, 1) := by decide +kernel
theorem dJ7_fill_53178_2 : decode cJ7_fill_53178 2 = .ok (.aload_n 0, 1) := by decide +kernel
theorem dJ7_fill_53178_3 : decode cJ7_fill_53178 3 = .ok (.arraylength, 1) := by decide +kernel
theorem dJ7_fill_53178_4 : decode cJ7_fill_53178 4 = .ok (.istore_n 3, 1) := by decide +kernel
theorem dJ7_fill_53178_5 : decode cJ7_fill_53178 5 = .ok (.iload_n 2, 1) := by decide +kernel
theorem dJ7_fill_53178_6 : decode cJ7_fill_53178 6 = .ok (.iload_n 3, 1) := by decide +kernel
theorem dJ7_fill_53178_7 : decode cJ7_fill_53178 7 = .ok (.if_icmp .ge 13, 3) := by decide +kernel
theorem dJ7_fill_53178_10 : decode cJ7_fill_53178 10 = .ok (.aload_n 0, 1) := by decide +kernel
theorem dJ7_fill_53178_11 : decode cJ7_fill_53178 11 = .ok (.iload_n 2, 1) := by decide +kernel
theorem dJ7_fill_53178_12 : decode cJ7_fill_53178 12 = .ok (.iload_n 1, 1) := by decide +kernel
theorem dJ7_fill_53178_13 : decode cJ7_fill_53178 13 = .ok (.iastore, 1) := by decide +kernel
theorem dJ7_fill_53178_14 : decode cJ7_fill_53178 14 = .ok (.iinc 2 1, 3) := by decide +kernel
theorem dJ7_fill_53178_17 : decode cJ7_fill_53178 17 = .ok (.goto (-12), 3) := by decide +kernel
theorem dJ7_fill_53178_20 : decode cJ7_fill_53178 20 = .ok (.return_, 1) := by decide +kernel
theorem dL_law_0 : decode cL_law 0 = .ok (.new 7, 3) := by decide +kernel
theorem dL_law_3 : decode cL_law 3 = .ok (.dup, 1) := by decide +kernel
theorem dL_law_4 : decode cL_law 4 = .ok (.invokespecial 9, 3) := by decide +kernel
theorem dL_law_7 : decode cL_law 7 = .ok (.astore_n 1, 1) := by decide +kernel
theorem dL_law_8 : decode cL_law 8 = .ok (.new 10, 3) := by decide +kernel
theorem dL_law_11 : decode cL_law 11 = .ok (.dup, 1) := by decide +kernel
theorem dL_law_12 : decode cL_law 12 = .ok (.invokespecial 12, 3) := by decide +kernel
theorem dL_law_15 : decode cL_law 15 = .ok (.astore_n 2, 1) := by decide +kernel
theorem dL_law_16 : decode cL_law 16 = .ok (.iconst 0, 1) := by decide +kernel
theorem dL_law_17 : decode cL_law 17 = .ok (.istore_n 3, 1) := by decide +kernel
theorem dL_law_18 : decode cL_law 18 = .ok (.iload_n 3, 1) := by decide +kernel
theorem dL_law_19 : decode cL_law 19 = .ok (.aload_n 0, 1) := by decide +kernel
theorem dL_law_20 : decode cL_law 20 = .ok (.arraylength, 1) := by decide +kernel
theorem dL_law_21 : decode cL_law 21 = .ok (.iconst 4, 1) := by decide +kernel
theorem dL_law_22 : decode cL_law 22 = .ok (.isub, 1) := by decide +kernel
theorem dL_law_23 : decode cL_law 23 = .ok (.if_icmp .gt 994, 3) := by decide +kernel
theorem dL_law_26 : decode cL_law 26 = .ok (.aload_n 0, 1) := by decide +kernel
theorem dL_law_27 : decode cL_law 27 = .ok (.iload_n 3, 1) := by decide +kernel
theorem dL_law_28 : decode cL_law 28 = .ok (.iaload, 1) := by decide +kernel
theorem dL_law_29 : decode cL_law 29 = .ok (.bipush 31, 2) := by decide +kernel
theorem dL_law_31 : decode cL_law 31 = .ok (.iand, 1) := by decide +kernel
theorem dL_law_32 : decode cL_law 32 = .ok (.tableswitch 979 0 30 #[140, 163, 176, 189, 212, 245, 268, 317, 360, 393, 426, 449, 462, 505, 548, 571, 614, 647, 670, 683, 716, 749, 772, 805, 838, 851, 884, 897, 910, 933, 956], 140) := by decide +kernel
theorem dL_law_172 : decode cL_law 172 = .ok (.aload_n 1, 1) := by decide +kernel
theorem dL_law_173 : decode cL_law 173 = .ok (.aload_n 0, 1) := by decide +kernel
theorem dL_law_174 : decode cL_law 174 = .ok (.iload_n 3, 1) := by decide +kernel
theorem dL_law_175 : decode cL_law 175 = .ok (.iconst 1, 1) := by decide +kernel
theorem dL_law_176 : decode cL_law 176 = .ok (.iadd, 1) := by decide +kernel
theorem dL_law_177 : decode cL_law 177 = .ok (.iaload, 1) := by decide +kernel
theorem dL_law_178 : decode cL_law 178 = .ok (.invokevirtual 13, 3) := by decide +kernel
theorem dL_law_181 : decode cL_law 181 = .ok (.aload_n 2, 1) := by decide +kernel
theorem dL_law_182 : decode cL_law 182 = .ok (.aload_n 0, 1) := by decide +kernel
theorem dL_law_183 : decode cL_law 183 = .ok (.iload_n 3, 1) := by decide +kernel
theorem dL_law_184 : decode cL_law 184 = .ok (.iconst 1, 1) := by decide +kernel
theorem dL_law_185 : decode cL_law 185 = .ok (.iadd, 1) := by decide +kernel
theorem dL_law_186 : decode cL_law 186 = .ok (.iaload, 1) := by decide +kernel
theorem dL_law_187 : decode cL_law 187 = .ok (.invokevirtual 17, 3) := by decide +kernel
theorem dL_law_190 : decode cL_law 190 = .ok (.if_icmp .eq 821, 3) := by decide +kernel
theorem dL_law_193 : decode cL_law 193 = .ok (.iconst 0, 1) := by decide +kernel
theorem dL_law_194 : decode cL_law 194 = .ok (.ireturn, 1) := by decide +kernel
theorem dL_law_195 : decode cL_law 195 = .ok (.aload_n 1, 1) := by decide +kernel
theorem dL_law_196 : decode cL_law 196 = .ok (.invokevirtual 18, 3) := by decide +kernel
theorem dL_law_199 : decode cL_law 199 = .ok (.aload_n 2, 1) := by decide +kernel
theorem dL_law_200 : decode cL_law 200 = .ok (.invokevirtual 22, 3) := by decide +kernel
theorem dL_law_203 : decode cL_law 203 = .ok (.if_icmp .eq 808, 3) := by decide +kernel
theorem dL_law_206 : decode cL_law 206 = .ok (.iconst 0, 1) := by decide +kernel
theorem dL_law_207 : decode cL_law 207 = .ok (.ireturn, 1) := by decide +kernel
theorem dL_law_208 : decode cL_law 208 = .ok (.aload_n 1, 1) := by decide +kernel
theorem dL_law_209 : decode cL_law 209 = .ok (.invokevirtual 23, 3) := by decide +kernel
theorem dL_law_212 : decode cL_law 212 = .ok (.aload_n 2, 1) := by decide +kernel
theorem dL_law_213 : decode cL_law 213 = .ok (.invokevirtual 26, 3) := by decide +kernel
theorem dL_law_216 : decode cL_law 216 = .ok (.if_icmp .eq 795, 3) := by decide +kernel
theorem dL_law_219 : decode cL_law 219 = .ok (.iconst 0, 1) := by decide +kernel
theorem dL_law_220 : decode cL_law 220 = .ok (.ireturn, 1) := by decide +kernel
theorem dL_law_221 : decode cL_law 221 = .ok (.aload_n 1, 1) := by decide +kernel
theorem dL_law_222 : decode cL_law 222 = .ok (.aload_n 0, 1) := by decide +kernel
theorem dL_law_223 : decode cL_law 223 = .ok (.iload_n 3, 1) := by decide +kernel
theorem dL_law_224 : decode cL_law 224 = .ok (.iconst 1, 1) := by decide +kernel
theorem dL_law_225 : decode cL_law 225 = .ok (.iadd, 1) := by decide +kernel
theorem dL_law_226 : decode cL_law 226 = .ok (.iaload, 1) := by decide +kernel
theorem dL_law_227 : decode cL_law 227 = .ok (.invokevirtual 27, 3) := by decide +kernel
theorem dL_law_230 : decode cL_law 230 = .ok (.aload_n 2, 1) := by decide +kernel
theorem dL_law_231 : decode cL_law 231 = .ok (.aload_n 0, 1) := by decide +kernel
theorem dL_law_232 : decode cL_law 232 = .ok (.iload_n 3, 1) := by decide +kernel
theorem dL_law_233 : decode cL_law 233 = .ok (.iconst 1, 1) := by decide +kernel
theorem dL_law_234 : decode cL_law 234 = .ok (.iadd, 1) := by decide +kernel
theorem dL_law_235 : decode cL_law 235 = .ok (.iaload, 1) := by decide +kernel
theorem dL_law_236 : decode cL_law 236 = .ok (.invokevirtual 30, 3) := by decide +kernel
theorem dL_law_239 : decode cL_law 239 = .ok (.if_icmp .eq 772, 3) := by decide +kernel
theorem dL_law_242 : decode cL_law 242 = .ok (.iconst 0, 1) := by decide +kernel
theorem dL_law_243 : decode cL_law 243 = .ok (.ireturn, 1) := by decide +kernel
theorem dL_law_244 : decode cL_law 244 = .ok (.aload_n 1, 1) := by decide +kernel
theorem dL_law_245 : decode cL_law 245 = .ok (.aload_n 0, 1) := by decide +kernel
theorem dL_law_246 : decode cL_law 246 = .ok (.iload_n 3, 1) := by decide +kernel
theorem dL_law_247 : decode cL_law 247 = .ok (.iconst 1, 1) := by decide +kernel
theorem dL_law_248 : decode cL_law 248 = .ok (.iadd, 1) := by decide +kernel
theorem dL_law_249 : decode cL_law 249 = .ok (.iaload, 1) := by decide +kernel
theorem dL_law_250 : decode cL_law 250 = .ok (.aload_n 0, 1) := by decide +kernel
theorem dL_law_251 : decode cL_law 251 = .ok (.iload_n 3, 1) := by decide +kernel
theorem dL_law_252 : decode cL_law 252 = .ok (.iconst 2, 1) := by decide +kernel
theorem dL_law_253 : decode cL_law 253 = .ok (.iadd, 1) := by decide +kernel
theorem dL_law_254 : decode cL_law 254 = .ok (.iaload, 1) := by decide +kernel
theorem dL_law_255 : decode cL_law 255 = .ok (.invokevirtual 31, 3) := by decide +kernel
theorem dL_law_258 : decode cL_law 258 = .ok (.aload_n 2, 1) := by decide +kernel
theorem dL_law_259 : decode cL_law 259 = .ok (.aload_n 0, 1) := by decide +kernel
theorem dL_law_260 : decode cL_law 260 = .ok (.iload_n 3, 1) := by decide +kernel
theorem dL_law_261 : decode cL_law 261 = .ok (.iconst 1, 1) := by decide +kernel
theorem dL_law_262 : decode cL_law 262 = .ok (.iadd, 1) := by decide +kernel
theorem dL_law_263 : decode cL_law 263 = .ok (.iaload, 1) := by decide +kernel
theorem dL_law_264 : decode cL_law 264 = .ok (.aload_n 0, 1) := by decide +kernel
theorem dL_law_265 : decode cL_law 265 = .ok (.iload_n 3, 1) := by decide +kernel
theorem dL_law_266 : decode cL_law 266 = .ok (.iconst 2, 1) := by decide +kernel
theorem dL_law_267 : decode cL_law 267 = .ok (.iadd, 1) := by decide +kernel
theorem dL_law_268 : decode cL_law 268 = .ok (.iaload, 1) := by decide +kernel
theorem dL_law_269 : decode cL_law 269 = .ok (.invokevirtual 35, 3) := by decide +kernel
theorem dL_law_272 : decode cL_law 272 = .ok (.if_icmp .eq 739, 3) := by decide +kernel
theorem dL_law_275 : decode cL_law 275 = .ok (.iconst 0, 1) := by decide +kernel
theorem dL_law_276 : decode cL_law 276 = .ok (.ireturn, 1) := by decide +kernel
theorem dL_law_277 : decode cL_law 277 = .ok (.aload_n 1, 1) := by decide +kernel
theorem dL_law_278 : decode cL_law 278 = .ok (.aload_n 0, 1) := by decide +kernel
theorem dL_law_279 : decode cL_law 279 = .ok (.iload_n 3, 1) := by decide +kernel
theorem dL_law_280 : decode cL_law 280 = .ok (.iconst 1, 1) := by decide +kernel
theorem dL_law_281 : decode cL_law 281 = .ok (.iadd, 1) := by decide +kernel
theorem dL_law_282 : decode cL_law 282 = .ok (.iaload, 1) := by decide +kernel
theorem dL_law_283 : decode cL_law 283 = .ok (.invokevirtual 36, 3) := by decide +kernel
theorem dL_law_286 : decode cL_law 286 = .ok (.aload_n 2, 1) := by decide +kernel
theorem dL_law_287 : decode cL_law 287 = .ok (.aload_n 0, 1) := by decide +kernel
theorem dL_law_288 : decode cL_law 288 = .ok (.iload_n 3, 1) := by decide +kernel
theorem dL_law_289 : decode cL_law 289 = .ok (.iconst 1, 1) := by decide +kernel
theorem dL_law_290 : decode cL_law 290 = .ok (.iadd, 1) := by decide +kernel
theorem dL_law_291 : decode cL_law 291 = .ok (.iaload, 1) := by decide +kernel
theorem dL_law_292 : decode cL_law 292 = .ok (.invokevirtual 39, 3) := by decide +kernel
theorem dL_law_295 : decode cL_law 295 = .ok (.if_icmp .eq 716, 3) := by decide +kernel
theorem dL_law_298 : decode cL_law 298 = .ok (.iconst 0, 1) := by decide +kernel
theorem dL_law_299 : decode cL_law 299 = .ok (.ireturn, 1) := by decide +kernel
theorem dL_law_300 : decode cL_law 300 = .ok (.aload_n 1, 1) := by decide +kernel
theorem dL_law_301 : decode cL_law 301 = .ok (.aload_n 0, 1) := by decide +kernel
theorem dL_law_302 : decode cL_law 302 = .ok (.iload_n 3, 1) := by decide +kernel
theorem dL_law_303 : decode cL_law 303 = .ok (.iconst 1, 1) := by decide +kernel
theorem dL_law_304 : decode cL_law 304 = .ok (.iadd, 1) := by decide +kernel
theorem dL_law_305 : decode cL_law 305 = .ok (.iaload, 1) := by decide +kernel
theorem dL_law_306 : decode cL_law 306 = .ok (.aload_n 0, 1) := by decide +kernel
theorem dL_law_307 : decode cL_law 307 = .ok (.iload_n 3, 1) := by decide +kernel
theorem dL_law_308 : decode cL_law 308 = .ok (.iconst 2, 1) := by decide +kernel
theorem dL_law_309 : decode cL_law 309 = .ok (.iadd, 1) := by decide +kernel
theorem dL_law_310 : decode cL_law 310 = .ok (.iaload, 1) := by decide +kernel
theorem dL_law_311 : decode cL_law 311 = .ok (.ifCond .eq 7, 3) := by decide +kernel
theorem dL_law_314 : decode cL_law 314 = .ok (.iconst 1, 1) := by decide +kernel
theorem dL_law_315 : decode cL_law 315 = .ok (.goto 4, 3) := by decide +kernel
theorem dL_law_318 : decode cL_law 318 = .ok (.iconst 0, 1) := by decide +kernel
theorem dL_law_319 : decode cL_law 319 = .ok (.invokevirtual 40, 3) := by decide +kernel
theorem dL_law_322 : decode cL_law 322 = .ok (.aload_n 2, 1) := by decide +kernel
theorem dL_law_323 : decode cL_law 323 = .ok (.aload_n 0, 1) := by decide +kernel
theorem dL_law_324 : decode cL_law 324 = .ok (.iload_n 3, 1) := by decide +kernel
theorem dL_law_325 : decode cL_law 325 = .ok (.iconst 1, 1) := by decide +kernel
theorem dL_law_326 : decode cL_law 326 = .ok (.iadd, 1) := by decide +kernel
theorem dL_law_327 : decode cL_law 327 = .ok (.iaload, 1) := by decide +kernel
theorem dL_law_328 : decode cL_law 328 = .ok (.aload_n 0, 1) := by decide +kernel
theorem dL_law_329 : decode cL_law 329 = .ok (.iload_n 3, 1) := by decide +kernel
theorem dL_law_330 : decode cL_law 330 = .ok (.iconst 2, 1) := by decide +kernel
theorem dL_law_331 : decode cL_law 331 = .ok (.iadd, 1) := by decide +kernel
theorem dL_law_332 : decode cL_law 332 = .ok (.iaload, 1) := by decide +kernel
theorem dL_law_333 : decode cL_law 333 = .ok (.ifCond .eq 7, 3) := by decide +kernel
theorem dL_law_336 : decode cL_law 336 = .ok (.iconst 1, 1) := by decide +kernel
theorem dL_law_337 : decode cL_law 337 = .ok (.goto 4, 3) := by decide +kernel
theorem dL_law_340 : decode cL_law 340 = .ok (.iconst 0, 1) := by decide +kernel
theorem dL_law_341 : decode cL_law 341 = .ok (.invokevirtual 44, 3) := by decide +kernel
theorem dL_law_344 : decode cL_law 344 = .ok (.if_icmp .eq 667, 3) := by decide +kernel
theorem dL_law_347 : decode cL_law 347 = .ok (.iconst 0, 1) := by decide +kernel
theorem dL_law_348 : decode cL_law 348 = .ok (.ireturn, 1) := by decide +kernel
theorem dL_law_349 : decode cL_law 349 = .ok (.aload_n 1, 1) := by decide +kernel
theorem dL_law_350 : decode cL_law 350 = .ok (.aload_n 0, 1) := by decide +kernel
theorem dL_law_351 : decode cL_law 351 = .ok (.iload_n 3, 1) := by decide +kernel
theorem dL_law_352 : decode cL_law 352 = .ok (.iconst 1, 1) := by decide +kernel
theorem dL_law_353 : decode cL_law 353 = .ok (.iadd, 1) := by decide +kernel
theorem dL_law_354 : decode cL_law 354 = .ok (.iaload, 1) := by decide +kernel
theorem dL_law_355 : decode cL_law 355 = .ok (.aload_n 0, 1) := by decide +kernel
theorem dL_law_356 : decode cL_law 356 = .ok (.iload_n 3, 1) := by decide +kernel
theorem dL_law_357 : decode cL_law 357 = .ok (.iconst 2, 1) := by decide +kernel
theorem dL_law_358 : decode cL_law 358 = .ok (.iadd, 1) := by decide +kernel
theorem dL_law_359 : decode cL_law 359 = .ok (.iaload, 1) := by decide +kernel
theorem dL_law_360 : decode cL_law 360 = .ok (.aload_n 0, 1) := by decide +kernel
theorem dL_law_361 : decode cL_law 361 = .ok (.iload_n 3, 1) := by decide +kernel
theorem dL_law_362 : decode cL_law 362 = .ok (.iconst 3, 1) := by decide +kernel
theorem dL_law_363 : decode cL_law 363 = .ok (.iadd, 1) := by decide +kernel
theorem dL_law_364 : decode cL_law 364 = .ok (.iaload, 1) := by decide +kernel
theorem dL_law_365 : decode cL_law 365 = .ok (.invokevirtual 45, 3) := by decide +kernel
theorem dL_law_368 : decode cL_law 368 = .ok (.aload_n 2, 1) := by decide +kernel
theorem dL_law_369 : decode cL_law 369 = .ok (.aload_n 0, 1) := by decide +kernel
theorem dL_law_370 : decode cL_law 370 = .ok (.iload_n 3, 1) := by decide +kernel
theorem dL_law_371 : decode cL_law 371 = .ok (.iconst 1, 1) := by decide +kernel
theorem dL_law_372 : decode cL_law 372 = .ok (.iadd, 1) := by decide +kernel
theorem dL_law_373 : decode cL_law 373 = .ok (.iaload, 1) := by decide +kernel
theorem dL_law_374 : decode cL_law 374 = .ok (.aload_n 0, 1) := by decide +kernel
theorem dL_law_375 : decode cL_law 375 = .ok (.iload_n 3, 1) := by decide +kernel
theorem dL_law_376 : decode cL_law 376 = .ok (.iconst 2, 1) := by decide +kernel
theorem dL_law_377 : decode cL_law 377 = .ok (.iadd, 1) := by decide +kernel
theorem dL_law_378 : decode cL_law 378 = .ok (.iaload, 1) := by decide +kernel
theorem dL_law_379 : decode cL_law 379 = .ok (.aload_n 0, 1) := by decide +kernel
theorem dL_law_380 : decode cL_law 380 = .ok (.iload_n 3, 1) := by decide +kernel
theorem dL_law_381 : decode cL_law 381 = .ok (.iconst 3, 1) := by decide +kernel
theorem dL_law_382 : decode cL_law 382 = .ok (.iadd, 1) := by decide +kernel
theorem dL_law_383 : decode cL_law 383 = .ok (.iaload, 1) := by decide +kernel
theorem dL_law_384 : decode cL_law 384 = .ok (.invokevirtual 49, 3) := by decide +kernel
theorem dL_law_387 : decode cL_law 387 = .ok (.if_icmp .eq 624, 3) := by decide +kernel
theorem dL_law_390 : decode cL_law 390 = .ok (.iconst 0, 1) := by decide +kernel
theorem dL_law_391 : decode cL_law 391 = .ok (.ireturn, 1) := by decide +kernel
theorem dL_law_392 : decode cL_law 392 = .ok (.aload_n 1, 1) := by decide +kernel
theorem dL_law_393 : decode cL_law 393 = .ok (.aload_n 0, 1) := by decide +kernel
theorem dL_law_394 : decode cL_law 394 = .ok (.iload_n 3, 1) := by decide +kernel
theorem dL_law_395 : decode cL_law 395 = .ok (.iconst 1, 1) := by decide +kernel
theorem dL_law_396 : decode cL_law 396 = .ok (.iadd, 1) := by decide +kernel
theorem dL_law_397 : decode cL_law 397 = .ok (.iaload, 1) := by decide +kernel
theorem dL_law_398 : decode cL_law 398 = .ok (.aload_n 0, 1) := by decide +kernel
theorem dL_law_399 : decode cL_law 399 = .ok (.iload_n 3, 1) := by decide +kernel
theorem dL_law_400 : decode cL_law 400 = .ok (.iconst 2, 1) := by decide +kernel
theorem dL_law_401 : decode cL_law 401 = .ok (.iadd, 1) := by decide +kernel
theorem dL_law_402 : decode cL_law 402 = .ok (.iaload, 1) := by decide +kernel
theorem dL_law_403 : decode cL_law 403 = .ok (.invokevirtual 50, 3) := by decide +kernel
theorem dL_law_406 : decode cL_law 406 = .ok (.aload_n 2, 1) := by decide +kernel
theorem dL_law_407 : decode cL_law 407 = .ok (.aload_n 0, 1) := by decide +kernel
theorem dL_law_408 : decode cL_law 408 = .ok (.iload_n 3, 1) := by decide +kernel
theorem dL_law_409 : decode cL_law 409 = .ok (.iconst 1, 1) := by decide +kernel
theorem dL_law_410 : decode cL_law 410 = .ok (.iadd, 1) := by decide +kernel
theorem dL_law_411 : decode cL_law 411 = .ok (.iaload, 1) := by decide +kernel
theorem dL_law_412 : decode cL_law 412 = .ok (.aload_n 0, 1) := by decide +kernel
theorem dL_law_413 : decode cL_law 413 = .ok (.iload_n 3, 1) := by decide +kernel
theorem dL_law_414 : decode cL_law 414 = .ok (.iconst 2, 1) := by decide +kernel
theorem dL_law_415 : decode cL_law 415 = .ok (.iadd, 1) := by decide +kernel
theorem dL_law_416 : decode cL_law 416 = .ok (.iaload, 1) := by decide +kernel
theorem dL_law_417 : decode cL_law 417 = .ok (.invokevirtual 53, 3) := by decide +kernel
theorem dL_law_420 : decode cL_law 420 = .ok (.if_icmp .eq 591, 3) := by decide +kernel
theorem dL_law_423 : decode cL_law 423 = .ok (.iconst 0, 1) := by decide +kernel
theorem dL_law_424 : decode cL_law 424 = .ok (.ireturn, 1) := by decide +kernel
theorem dL_law_425 : decode cL_law 425 = .ok (.aload_n 1, 1) := by decide +kernel
theorem dL_law_426 : decode cL_law 426 = .ok (.aload_n 0, 1) := by decide +kernel
theorem dL_law_427 : decode cL_law 427 = .ok (.iload_n 3, 1) := by decide +kernel
theorem dL_law_428 : decode cL_law 428 = .ok (.iconst 1, 1) := by decide +kernel
theorem dL_law_429 : decode cL_law 429 = .ok (.iadd, 1) := by decide +kernel
theorem dL_law_430 : decode cL_law 430 = .ok (.iaload, 1) := by decide +kernel
theorem dL_law_431 : decode cL_law 431 = .ok (.aload_n 0, 1) := by decide +kernel
theorem dL_law_432 : decode cL_law 432 = .ok (.iload_n 3, 1) := by decide +kernel
theorem dL_law_433 : decode cL_law 433 = .ok (.iconst 2, 1) := by decide +kernel
theorem dL_law_434 : decode cL_law 434 = .ok (.iadd, 1) := by decide +kernel
theorem dL_law_435 : decode cL_law 435 = .ok (.iaload, 1) := by decide +kernel
theorem dL_law_436 : decode cL_law 436 = .ok (.invokevirtual 54, 3) := by decide +kernel
theorem dL_law_439 : decode cL_law 439 = .ok (.aload_n 2, 1) := by decide +kernel
theorem dL_law_440 : decode cL_law 440 = .ok (.aload_n 0, 1) := by decide +kernel
theorem dL_law_441 : decode cL_law 441 = .ok (.iload_n 3, 1) := by decide +kernel
theorem dL_law_442 : decode cL_law 442 = .ok (.iconst 1, 1) := by decide +kernel
theorem dL_law_443 : decode cL_law 443 = .ok (.iadd, 1) := by decide +kernel
theorem dL_law_444 : decode cL_law 444 = .ok (.iaload, 1) := by decide +kernel
theorem dL_law_445 : decode cL_law 445 = .ok (.aload_n 0, 1) := by decide +kernel
theorem dL_law_446 : decode cL_law 446 = .ok (.iload_n 3, 1) := by decide +kernel
theorem dL_law_447 : decode cL_law 447 = .ok (.iconst 2, 1) := by decide +kernel
theorem dL_law_448 : decode cL_law 448 = .ok (.iadd, 1) := by decide +kernel
theorem dL_law_449 : decode cL_law 449 = .ok (.iaload, 1) := by decide +kernel
theorem dL_law_450 : decode cL_law 450 = .ok (.invokevirtual 57, 3) := by decide +kernel
theorem dL_law_453 : decode cL_law 453 = .ok (.if_icmp .eq 558, 3) := by decide +kernel
theorem dL_law_456 : decode cL_law 456 = .ok (.iconst 0, 1) := by decide +kernel
theorem dL_law_457 : decode cL_law 457 = .ok (.ireturn, 1) := by decide +kernel
theorem dL_law_458 : decode cL_law 458 = .ok (.aload_n 1, 1) := by decide +kernel
theorem dL_law_459 : decode cL_law 459 = .ok (.aload_n 0, 1) := by decide +kernel
theorem dL_law_460 : decode cL_law 460 = .ok (.iload_n 3, 1) := by decide +kernel
theorem dL_law_461 : decode cL_law 461 = .ok (.iconst 1, 1) := by decide +kernel
theorem dL_law_462 : decode cL_law 462 = .ok (.iadd, 1) := by decide +kernel
theorem dL_law_463 : decode cL_law 463 = .ok (.iaload, 1) := by decide +kernel
theorem dL_law_464 : decode cL_law 464 = .ok (.invokevirtual 58, 3) := by decide +kernel
theorem dL_law_467 : decode cL_law 467 = .ok (.aload_n 2, 1) := by decide +kernel
theorem dL_law_468 : decode cL_law 468 = .ok (.aload_n 0, 1) := by decide +kernel
theorem dL_law_469 : decode cL_law 469 = .ok (.iload_n 3, 1) := by decide +kernel
theorem dL_law_470 : decode cL_law 470 = .ok (.iconst 1, 1) := by decide +kernel
theorem dL_law_471 : decode cL_law 471 = .ok (.iadd, 1) := by decide +kernel
theorem dL_law_472 : decode cL_law 472 = .ok (.iaload, 1) := by decide +kernel
theorem dL_law_473 : decode cL_law 473 = .ok (.invokevirtual 61, 3) := by decide +kernel
theorem dL_law_476 : decode cL_law 476 = .ok (.if_icmp .eq 535, 3) := by decide +kernel
theorem dL_law_479 : decode cL_law 479 = .ok (.iconst 0, 1) := by decide +kernel
theorem dL_law_480 : decode cL_law 480 = .ok (.ireturn, 1) := by decide +kernel
theorem dL_law_481 : decode cL_law 481 = .ok (.aload_n 1, 1) := by decide +kernel
theorem dL_law_482 : decode cL_law 482 = .ok (.invokevirtual 62, 3) := by decide +kernel
theorem dL_law_485 : decode cL_law 485 = .ok (.aload_n 2, 1) := by decide +kernel
theorem dL_law_486 : decode cL_law 486 = .ok (.invokevirtual 65, 3) := by decide +kernel
theorem dL_law_489 : decode cL_law 489 = .ok (.if_icmp .eq 522, 3) := by decide +kernel
theorem dL_law_492 : decode cL_law 492 = .ok (.iconst 0, 1) := by decide +kernel
theorem dL_law_493 : decode cL_law 493 = .ok (.ireturn, 1) := by decide +kernel
theorem dL_law_494 : decode cL_law 494 = .ok (.aload_n 1, 1) := by decide +kernel
theorem dL_law_495 : decode cL_law 495 = .ok (.aload_n 0, 1) := by decide +kernel
theorem dL_law_496 : decode cL_law 496 = .ok (.iload_n 3, 1) := by decide +kernel
theorem dL_law_497 : decode cL_law 497 = .ok (.iconst 1, 1) := by decide +kernel
theorem dL_law_498 : decode cL_law 498 = .ok (.iadd, 1) := by decide +kernel
theorem dL_law_499 : decode cL_law 499 = .ok (.iaload, 1) := by decide +kernel
theorem dL_law_500 : decode cL_law 500 = .ok (.aload_n 0, 1) := by decide +kernel
theorem dL_law_501 : decode cL_law 501 = .ok (.iload_n 3, 1) := by decide +kernel
theorem dL_law_502 : decode cL_law 502 = .ok (.iconst 2, 1) := by decide +kernel
theorem dL_law_503 : decode cL_law 503 = .ok (.iadd, 1) := by decide +kernel
theorem dL_law_504 : decode cL_law 504 = .ok (.iaload, 1) := by decide +kernel
theorem dL_law_505 : decode cL_law 505 = .ok (.aload_n 0, 1) := by decide +kernel
theorem dL_law_506 : decode cL_law 506 = .ok (.iload_n 3, 1) := by decide +kernel
theorem dL_law_507 : decode cL_law 507 = .ok (.iconst 3, 1) := by decide +kernel
theorem dL_law_508 : decode cL_law 508 = .ok (.iadd, 1) := by decide +kernel
theorem dL_law_509 : decode cL_law 509 = .ok (.iaload, 1) := by decide +kernel
theorem dL_law_510 : decode cL_law 510 = .ok (.invokevirtual 66, 3) := by decide +kernel
theorem dL_law_513 : decode cL_law 513 = .ok (.aload_n 2, 1) := by decide +kernel
theorem dL_law_514 : decode cL_law 514 = .ok (.aload_n 0, 1) := by decide +kernel
theorem dL_law_515 : decode cL_law 515 = .ok (.iload_n 3, 1) := by decide +kernel
theorem dL_law_516 : decode cL_law 516 = .ok (.iconst 1, 1) := by decide +kernel
theorem dL_law_517 : decode cL_law 517 = .ok (.iadd, 1) := by decide +kernel
theorem dL_law_518 : decode cL_law 518 = .ok (.iaload, 1) := by decide +kernel
theorem dL_law_519 : decode cL_law 519 = .ok (.aload_n 0, 1) := by decide +kernel
theorem dL_law_520 : decode cL_law 520 = .ok (.iload_n 3, 1) := by decide +kernel
theorem dL_law_521 : decode cL_law 521 = .ok (.iconst 2, 1) := by decide +kernel
theorem dL_law_522 : decode cL_law 522 = .ok (.iadd, 1) := by decide +kernel
theorem dL_law_523 : decode cL_law 523 = .ok (.iaload, 1) := by decide +kernel
theorem dL_law_524 : decode cL_law 524 = .ok (.aload_n 0, 1) := by decide +kernel
theorem dL_law_525 : decode cL_law 525 = .ok (.iload_n 3, 1) := by decide +kernel
theorem dL_law_526 : decode cL_law 526 = .ok (.iconst 3, 1) := by decide +kernel
theorem dL_law_527 : decode cL_law 527 = .ok (.iadd, 1) := by decide +kernel
theorem dL_law_528 : decode cL_law 528 = .ok (.iaload, 1) := by decide +kernel
theorem dL_law_529 : decode cL_law 529 = .ok (.invokevirtual 69, 3) := by decide +kernel
theorem dL_law_532 : decode cL_law 532 = .ok (.if_icmp .eq 479, 3) := by decide +kernel
theorem dL_law_535 : decode cL_law 535 = .ok (.iconst 0, 1) := by decide +kernel
theorem dL_law_536 : decode cL_law 536 = .ok (.ireturn, 1) := by decide +kernel
theorem dL_law_537 : decode cL_law 537 = .ok (.aload_n 1, 1) := by decide +kernel
theorem dL_law_538 : decode cL_law 538 = .ok (.aload_n 0, 1) := by decide +kernel
theorem dL_law_539 : decode cL_law 539 = .ok (.iload_n 3, 1) := by decide +kernel
theorem dL_law_540 : decode cL_law 540 = .ok (.iconst 1, 1) := by decide +kernel
theorem dL_law_541 : decode cL_law 541 = .ok (.iadd, 1) := by decide +kernel
theorem dL_law_542 : decode cL_law 542 = .ok (.iaload, 1) := by decide +kernel
theorem dL_law_543 : decode cL_law 543 = .ok (.aload_n 0, 1) := by decide +kernel
theorem dL_law_544 : decode cL_law 544 = .ok (.iload_n 3, 1) := by decide +kernel
theorem dL_law_545 : decode cL_law 545 = .ok (.iconst 2, 1) := by decide +kernel
theorem dL_law_546 : decode cL_law 546 = .ok (.iadd, 1) := by decide +kernel
theorem dL_law_547 : decode cL_law 547 = .ok (.iaload, 1) := by decide +kernel
theorem dL_law_548 : decode cL_law 548 = .ok (.aload_n 0, 1) := by decide +kernel
theorem dL_law_549 : decode cL_law 549 = .ok (.iload_n 3, 1) := by decide +kernel
theorem dL_law_550 : decode cL_law 550 = .ok (.iconst 3, 1) := by decide +kernel
theorem dL_law_551 : decode cL_law 551 = .ok (.iadd, 1) := by decide +kernel
theorem dL_law_552 : decode cL_law 552 = .ok (.iaload, 1) := by decide +kernel
theorem dL_law_553 : decode cL_law 553 = .ok (.invokevirtual 70, 3) := by decide +kernel
theorem dL_law_556 : decode cL_law 556 = .ok (.aload_n 2, 1) := by decide +kernel
theorem dL_law_557 : decode cL_law 557 = .ok (.aload_n 0, 1) := by decide +kernel
theorem dL_law_558 : decode cL_law 558 = .ok (.iload_n 3, 1) := by decide +kernel
theorem dL_law_559 : decode cL_law 559 = .ok (.iconst 1, 1) := by decide +kernel
theorem dL_law_560 : decode cL_law 560 = .ok (.iadd, 1) := by decide +kernel
theorem dL_law_561 : decode cL_law 561 = .ok (.iaload, 1) := by decide +kernel
theorem dL_law_562 : decode cL_law 562 = .ok (.aload_n 0, 1) := by decide +kernel
theorem dL_law_563 : decode cL_law 563 = .ok (.iload_n 3, 1) := by decide +kernel
theorem dL_law_564 : decode cL_law 564 = .ok (.iconst 2, 1) := by decide +kernel
theorem dL_law_565 : decode cL_law 565 = .ok (.iadd, 1) := by decide +kernel
theorem dL_law_566 : decode cL_law 566 = .ok (.iaload, 1) := by decide +kernel
theorem dL_law_567 : decode cL_law 567 = .ok (.aload_n 0, 1) := by decide +kernel
theorem dL_law_568 : decode cL_law 568 = .ok (.iload_n 3, 1) := by decide +kernel
theorem dL_law_569 : decode cL_law 569 = .ok (.iconst 3, 1) := by decide +kernel
theorem dL_law_570 : decode cL_law 570 = .ok (.iadd, 1) := by decide +kernel
theorem dL_law_571 : decode cL_law 571 = .ok (.iaload, 1) := by decide +kernel
theorem dL_law_572 : decode cL_law 572 = .ok (.invokevirtual 73, 3) := by decide +kernel
theorem dL_law_575 : decode cL_law 575 = .ok (.if_icmp .eq 436, 3) := by decide +kernel
theorem dL_law_578 : decode cL_law 578 = .ok (.iconst 0, 1) := by decide +kernel
theorem dL_law_579 : decode cL_law 579 = .ok (.ireturn, 1) := by decide +kernel
theorem dL_law_580 : decode cL_law 580 = .ok (.aload_n 1, 1) := by decide +kernel
theorem dL_law_581 : decode cL_law 581 = .ok (.aload_n 0, 1) := by decide +kernel
theorem dL_law_582 : decode cL_law 582 = .ok (.iload_n 3, 1) := by decide +kernel
theorem dL_law_583 : decode cL_law 583 = .ok (.iconst 1, 1) := by decide +kernel
theorem dL_law_584 : decode cL_law 584 = .ok (.iadd, 1) := by decide +kernel
theorem dL_law_585 : decode cL_law 585 = .ok (.iaload, 1) := by decide +kernel
theorem dL_law_586 : decode cL_law 586 = .ok (.invokevirtual 74, 3) := by decide +kernel
theorem dL_law_589 : decode cL_law 589 = .ok (.aload_n 2, 1) := by decide +kernel
theorem dL_law_590 : decode cL_law 590 = .ok (.aload_n 0, 1) := by decide +kernel
theorem dL_law_591 : decode cL_law 591 = .ok (.iload_n 3, 1) := by decide +kernel
theorem dL_law_592 : decode cL_law 592 = .ok (.iconst 1, 1) := by decide +kernel
theorem dL_law_593 : decode cL_law 593 = .ok (.iadd, 1) := by decide +kernel
theorem dL_law_594 : decode cL_law 594 = .ok (.iaload, 1) := by decide +kernel
theorem dL_law_595 : decode cL_law 595 = .ok (.invokevirtual 77, 3) := by decide +kernel
theorem dL_law_598 : decode cL_law 598 = .ok (.if_icmp .eq 413, 3) := by decide +kernel
theorem dL_law_601 : decode cL_law 601 = .ok (.iconst 0, 1) := by decide +kernel
theorem dL_law_602 : decode cL_law 602 = .ok (.ireturn, 1) := by decide +kernel
theorem dL_law_603 : decode cL_law 603 = .ok (.aload_n 1, 1) := by decide +kernel
theorem dL_law_604 : decode cL_law 604 = .ok (.aload_n 0, 1) := by decide +kernel
theorem dL_law_605 : decode cL_law 605 = .ok (.iload_n 3, 1) := by decide +kernel
theorem dL_law_606 : decode cL_law 606 = .ok (.iconst 1, 1) := by decide +kernel
theorem dL_law_607 : decode cL_law 607 = .ok (.iadd, 1) := by decide +kernel
theorem dL_law_608 : decode cL_law 608 = .ok (.iaload, 1) := by decide +kernel
theorem dL_law_609 : decode cL_law 609 = .ok (.aload_n 0, 1) := by decide +kernel
theorem dL_law_610 : decode cL_law 610 = .ok (.iload_n 3, 1) := by decide +kernel
theorem dL_law_611 : decode cL_law 611 = .ok (.iconst 2, 1) := by decide +kernel
theorem dL_law_612 : decode cL_law 612 = .ok (.iadd, 1) := by decide +kernel
theorem dL_law_613 : decode cL_law 613 = .ok (.iaload, 1) := by decide +kernel
theorem dL_law_614 : decode cL_law 614 = .ok (.aload_n 0, 1) := by decide +kernel
theorem dL_law_615 : decode cL_law 615 = .ok (.iload_n 3, 1) := by decide +kernel
theorem dL_law_616 : decode cL_law 616 = .ok (.iconst 3, 1) := by decide +kernel
theorem dL_law_617 : decode cL_law 617 = .ok (.iadd, 1) := by decide +kernel
theorem dL_law_618 : decode cL_law 618 = .ok (.iaload, 1) := by decide +kernel
theorem dL_law_619 : decode cL_law 619 = .ok (.invokevirtual 78, 3) := by decide +kernel
theorem dL_law_622 : decode cL_law 622 = .ok (.aload_n 2, 1) := by decide +kernel
theorem dL_law_623 : decode cL_law 623 = .ok (.aload_n 0, 1) := by decide +kernel
theorem dL_law_624 : decode cL_law 624 = .ok (.iload_n 3, 1) := by decide +kernel
theorem dL_law_625 : decode cL_law 625 = .ok (.iconst 1, 1) := by decide +kernel
theorem dL_law_626 : decode cL_law 626 = .ok (.iadd, 1) := by decide +kernel
theorem dL_law_627 : decode cL_law 627 = .ok (.iaload, 1) := by decide +kernel
theorem dL_law_628 : decode cL_law 628 = .ok (.aload_n 0, 1) := by decide +kernel
theorem dL_law_629 : decode cL_law 629 = .ok (.iload_n 3, 1) := by decide +kernel
theorem dL_law_630 : decode cL_law 630 = .ok (.iconst 2, 1) := by decide +kernel
theorem dL_law_631 : decode cL_law 631 = .ok (.iadd, 1) := by decide +kernel
theorem dL_law_632 : decode cL_law 632 = .ok (.iaload, 1) := by decide +kernel
theorem dL_law_633 : decode cL_law 633 = .ok (.aload_n 0, 1) := by decide +kernel
theorem dL_law_634 : decode cL_law 634 = .ok (.iload_n 3, 1) := by decide +kernel
theorem dL_law_635 : decode cL_law 635 = .ok (.iconst 3, 1) := by decide +kernel
theorem dL_law_636 : decode cL_law 636 = .ok (.iadd, 1) := by decide +kernel
theorem dL_law_637 : decode cL_law 637 = .ok (.iaload, 1) := by decide +kernel
theorem dL_law_638 : decode cL_law 638 = .ok (.invokevirtual 81, 3) := by decide +kernel
theorem dL_law_641 : decode cL_law 641 = .ok (.if_icmp .eq 370, 3) := by decide +kernel
theorem dL_law_644 : decode cL_law 644 = .ok (.iconst 0, 1) := by decide +kernel
theorem dL_law_645 : decode cL_law 645 = .ok (.ireturn, 1) := by decide +kernel
theorem dL_law_646 : decode cL_law 646 = .ok (.aload_n 1, 1) := by decide +kernel
theorem dL_law_647 : decode cL_law 647 = .ok (.aload_n 0, 1) := by decide +kernel
theorem dL_law_648 : decode cL_law 648 = .ok (.iload_n 3, 1) := by decide +kernel
theorem dL_law_649 : decode cL_law 649 = .ok (.iconst 1, 1) := by decide +kernel
theorem dL_law_650 : decode cL_law 650 = .ok (.iadd, 1) := by decide +kernel
theorem dL_law_651 : decode cL_law 651 = .ok (.iaload, 1) := by decide +kernel
theorem dL_law_652 : decode cL_law 652 = .ok (.aload_n 0, 1) := by decide +kernel
theorem dL_law_653 : decode cL_law 653 = .ok (.iload_n 3, 1) := by decide +kernel
theorem dL_law_654 : decode cL_law 654 = .ok (.iconst 2, 1) := by decide +kernel
theorem dL_law_655 : decode cL_law 655 = .ok (.iadd, 1) := by decide +kernel
theorem dL_law_656 : decode cL_law 656 = .ok (.iaload, 1) := by decide +kernel
theorem dL_law_657 : decode cL_law 657 = .ok (.invokevirtual 82, 3) := by decide +kernel
theorem dL_law_660 : decode cL_law 660 = .ok (.aload_n 2, 1) := by decide +kernel
theorem dL_law_661 : decode cL_law 661 = .ok (.aload_n 0, 1) := by decide +kernel
theorem dL_law_662 : decode cL_law 662 = .ok (.iload_n 3, 1) := by decide +kernel
theorem dL_law_663 : decode cL_law 663 = .ok (.iconst 1, 1) := by decide +kernel
theorem dL_law_664 : decode cL_law 664 = .ok (.iadd, 1) := by decide +kernel
theorem dL_law_665 : decode cL_law 665 = .ok (.iaload, 1) := by decide +kernel
theorem dL_law_666 : decode cL_law 666 = .ok (.aload_n 0, 1) := by decide +kernel
theorem dL_law_667 : decode cL_law 667 = .ok (.iload_n 3, 1) := by decide +kernel
theorem dL_law_668 : decode cL_law 668 = .ok (.iconst 2, 1) := by decide +kernel
theorem dL_law_669 : decode cL_law 669 = .ok (.iadd, 1) := by decide +kernel
theorem dL_law_670 : decode cL_law 670 = .ok (.iaload, 1) := by decide +kernel
theorem dL_law_671 : decode cL_law 671 = .ok (.invokevirtual 85, 3) := by decide +kernel
theorem dL_law_674 : decode cL_law 674 = .ok (.if_icmp .eq 337, 3) := by decide +kernel
theorem dL_law_677 : decode cL_law 677 = .ok (.iconst 0, 1) := by decide +kernel
theorem dL_law_678 : decode cL_law 678 = .ok (.ireturn, 1) := by decide +kernel
theorem dL_law_679 : decode cL_law 679 = .ok (.aload_n 1, 1) := by decide +kernel
theorem dL_law_680 : decode cL_law 680 = .ok (.aload_n 0, 1) := by decide +kernel
theorem dL_law_681 : decode cL_law 681 = .ok (.iload_n 3, 1) := by decide +kernel
theorem dL_law_682 : decode cL_law 682 = .ok (.iconst 1, 1) := by decide +kernel
theorem dL_law_683 : decode cL_law 683 = .ok (.iadd, 1) := by decide +kernel
theorem dL_law_684 : decode cL_law 684 = .ok (.iaload, 1) := by decide +kernel
theorem dL_law_685 : decode cL_law 685 = .ok (.invokevirtual 86, 3) := by decide +kernel
theorem dL_law_688 : decode cL_law 688 = .ok (.aload_n 2, 1) := by decide +kernel
theorem dL_law_689 : decode cL_law 689 = .ok (.aload_n 0, 1) := by decide +kernel
theorem dL_law_690 : decode cL_law 690 = .ok (.iload_n 3, 1) := by decide +kernel
theorem dL_law_691 : decode cL_law 691 = .ok (.iconst 1, 1) := by decide +kernel
theorem dL_law_692 : decode cL_law 692 = .ok (.iadd, 1) := by decide +kernel
theorem dL_law_693 : decode cL_law 693 = .ok (.iaload, 1) := by decide +kernel
theorem dL_law_694 : decode cL_law 694 = .ok (.invokevirtual 89, 3) := by decide +kernel
theorem dL_law_697 : decode cL_law 697 = .ok (.if_icmp .eq 314, 3) := by decide +kernel
theorem dL_law_700 : decode cL_law 700 = .ok (.iconst 0, 1) := by decide +kernel
theorem dL_law_701 : decode cL_law 701 = .ok (.ireturn, 1) := by decide +kernel
theorem dL_law_702 : decode cL_law 702 = .ok (.aload_n 1, 1) := by decide +kernel
theorem dL_law_703 : decode cL_law 703 = .ok (.invokevirtual 90, 3) := by decide +kernel
theorem dL_law_706 : decode cL_law 706 = .ok (.aload_n 2, 1) := by decide +kernel
theorem dL_law_707 : decode cL_law 707 = .ok (.invokevirtual 93, 3) := by decide +kernel
theorem dL_law_710 : decode cL_law 710 = .ok (.if_icmp .eq 301, 3) := by decide +kernel
theorem dL_law_713 : decode cL_law 713 = .ok (.iconst 0, 1) := by decide +kernel
theorem dL_law_714 : decode cL_law 714 = .ok (.ireturn, 1) := by decide +kernel
theorem dL_law_715 : decode cL_law 715 = .ok (.aload_n 1, 1) := by decide +kernel
theorem dL_law_716 : decode cL_law 716 = .ok (.aload_n 0, 1) := by decide +kernel
theorem dL_law_717 : decode cL_law 717 = .ok (.iload_n 3, 1) := by decide +kernel
theorem dL_law_718 : decode cL_law 718 = .ok (.iconst 1, 1) := by decide +kernel
theorem dL_law_719 : decode cL_law 719 = .ok (.iadd, 1) := by decide +kernel
theorem dL_law_720 : decode cL_law 720 = .ok (.iaload, 1) := by decide +kernel
theorem dL_law_721 : decode cL_law 721 = .ok (.aload_n 0, 1) := by decide +kernel
theorem dL_law_722 : decode cL_law 722 = .ok (.iload_n 3, 1) := by decide +kernel
theorem dL_law_723 : decode cL_law 723 = .ok (.iconst 2, 1) := by decide +kernel
theorem dL_law_724 : decode cL_law 724 = .ok (.iadd, 1) := by decide +kernel
theorem dL_law_725 : decode cL_law 725 = .ok (.iaload, 1) := by decide +kernel
theorem dL_law_726 : decode cL_law 726 = .ok (.invokevirtual 94, 3) := by decide +kernel
theorem dL_law_729 : decode cL_law 729 = .ok (.aload_n 2, 1) := by decide +kernel
theorem dL_law_730 : decode cL_law 730 = .ok (.aload_n 0, 1) := by decide +kernel
theorem dL_law_731 : decode cL_law 731 = .ok (.iload_n 3, 1) := by decide +kernel
theorem dL_law_732 : decode cL_law 732 = .ok (.iconst 1, 1) := by decide +kernel
theorem dL_law_733 : decode cL_law 733 = .ok (.iadd, 1) := by decide +kernel
theorem dL_law_734 : decode cL_law 734 = .ok (.iaload, 1) := by decide +kernel
theorem dL_law_735 : decode cL_law 735 = .ok (.aload_n 0, 1) := by decide +kernel
theorem dL_law_736 : decode cL_law 736 = .ok (.iload_n 3, 1) := by decide +kernel
theorem dL_law_737 : decode cL_law 737 = .ok (.iconst 2, 1) := by decide +kernel
theorem dL_law_738 : decode cL_law 738 = .ok (.iadd, 1) := by decide +kernel
theorem dL_law_739 : decode cL_law 739 = .ok (.iaload, 1) := by decide +kernel
theorem dL_law_740 : decode cL_law 740 = .ok (.invokevirtual 97, 3) := by decide +kernel
theorem dL_law_743 : decode cL_law 743 = .ok (.if_icmp .eq 268, 3) := by decide +kernel
theorem dL_law_746 : decode cL_law 746 = .ok (.iconst 0, 1) := by decide +kernel
theorem dL_law_747 : decode cL_law 747 = .ok (.ireturn, 1) := by decide +kernel
theorem dL_law_748 : decode cL_law 748 = .ok (.aload_n 1, 1) := by decide +kernel
theorem dL_law_749 : decode cL_law 749 = .ok (.aload_n 0, 1) := by decide +kernel
theorem dL_law_750 : decode cL_law 750 = .ok (.iload_n 3, 1) := by decide +kernel
theorem dL_law_751 : decode cL_law 751 = .ok (.iconst 1, 1) := by decide +kernel
theorem dL_law_752 : decode cL_law 752 = .ok (.iadd, 1) := by decide +kernel
theorem dL_law_753 : decode cL_law 753 = .ok (.iaload, 1) := by decide +kernel
theorem dL_law_754 : decode cL_law 754 = .ok (.aload_n 0, 1) := by decide +kernel
theorem dL_law_755 : decode cL_law 755 = .ok (.iload_n 3, 1) := by decide +kernel
theorem dL_law_756 : decode cL_law 756 = .ok (.iconst 2, 1) := by decide +kernel
theorem dL_law_757 : decode cL_law 757 = .ok (.iadd, 1) := by decide +kernel
theorem dL_law_758 : decode cL_law 758 = .ok (.iaload, 1) := by decide +kernel
theorem dL_law_759 : decode cL_law 759 = .ok (.invokevirtual 98, 3) := by decide +kernel
theorem dL_law_762 : decode cL_law 762 = .ok (.aload_n 2, 1) := by decide +kernel
theorem dL_law_763 : decode cL_law 763 = .ok (.aload_n 0, 1) := by decide +kernel
theorem dL_law_764 : decode cL_law 764 = .ok (.iload_n 3, 1) := by decide +kernel
theorem dL_law_765 : decode cL_law 765 = .ok (.iconst 1, 1) := by decide +kernel
theorem dL_law_766 : decode cL_law 766 = .ok (.iadd, 1) := by decide +kernel
theorem dL_law_767 : decode cL_law 767 = .ok (.iaload, 1) := by decide +kernel
theorem dL_law_768 : decode cL_law 768 = .ok (.aload_n 0, 1) := by decide +kernel
theorem dL_law_769 : decode cL_law 769 = .ok (.iload_n 3, 1) := by decide +kernel
theorem dL_law_770 : decode cL_law 770 = .ok (.iconst 2, 1) := by decide +kernel
theorem dL_law_771 : decode cL_law 771 = .ok (.iadd, 1) := by decide +kernel
theorem dL_law_772 : decode cL_law 772 = .ok (.iaload, 1) := by decide +kernel
theorem dL_law_773 : decode cL_law 773 = .ok (.invokevirtual 101, 3) := by decide +kernel
theorem dL_law_776 : decode cL_law 776 = .ok (.if_icmp .eq 235, 3) := by decide +kernel
theorem dL_law_779 : decode cL_law 779 = .ok (.iconst 0, 1) := by decide +kernel
theorem dL_law_780 : decode cL_law 780 = .ok (.ireturn, 1) := by decide +kernel
theorem dL_law_781 : decode cL_law 781 = .ok (.aload_n 1, 1) := by decide +kernel
theorem dL_law_782 : decode cL_law 782 = .ok (.aload_n 0, 1) := by decide +kernel
theorem dL_law_783 : decode cL_law 783 = .ok (.iload_n 3, 1) := by decide +kernel
theorem dL_law_784 : decode cL_law 784 = .ok (.iconst 1, 1) := by decide +kernel
theorem dL_law_785 : decode cL_law 785 = .ok (.iadd, 1) := by decide +kernel
theorem dL_law_786 : decode cL_law 786 = .ok (.iaload, 1) := by decide +kernel
theorem dL_law_787 : decode cL_law 787 = .ok (.invokevirtual 102, 3) := by decide +kernel
theorem dL_law_790 : decode cL_law 790 = .ok (.aload_n 2, 1) := by decide +kernel
theorem dL_law_791 : decode cL_law 791 = .ok (.aload_n 0, 1) := by decide +kernel
theorem dL_law_792 : decode cL_law 792 = .ok (.iload_n 3, 1) := by decide +kernel
theorem dL_law_793 : decode cL_law 793 = .ok (.iconst 1, 1) := by decide +kernel
theorem dL_law_794 : decode cL_law 794 = .ok (.iadd, 1) := by decide +kernel
theorem dL_law_795 : decode cL_law 795 = .ok (.iaload, 1) := by decide +kernel
theorem dL_law_796 : decode cL_law 796 = .ok (.invokevirtual 105, 3) := by decide +kernel
theorem dL_law_799 : decode cL_law 799 = .ok (.if_icmp .eq 212, 3) := by decide +kernel
theorem dL_law_802 : decode cL_law 802 = .ok (.iconst 0, 1) := by decide +kernel
theorem dL_law_803 : decode cL_law 803 = .ok (.ireturn, 1) := by decide +kernel
theorem dL_law_804 : decode cL_law 804 = .ok (.aload_n 1, 1) := by decide +kernel
theorem dL_law_805 : decode cL_law 805 = .ok (.aload_n 0, 1) := by decide +kernel
theorem dL_law_806 : decode cL_law 806 = .ok (.iload_n 3, 1) := by decide +kernel
theorem dL_law_807 : decode cL_law 807 = .ok (.iconst 1, 1) := by decide +kernel
theorem dL_law_808 : decode cL_law 808 = .ok (.iadd, 1) := by decide +kernel
theorem dL_law_809 : decode cL_law 809 = .ok (.iaload, 1) := by decide +kernel
theorem dL_law_810 : decode cL_law 810 = .ok (.aload_n 0, 1) := by decide +kernel
theorem dL_law_811 : decode cL_law 811 = .ok (.iload_n 3, 1) := by decide +kernel
theorem dL_law_812 : decode cL_law 812 = .ok (.iconst 2, 1) := by decide +kernel
theorem dL_law_813 : decode cL_law 813 = .ok (.iadd, 1) := by decide +kernel
theorem dL_law_814 : decode cL_law 814 = .ok (.iaload, 1) := by decide +kernel
theorem dL_law_815 : decode cL_law 815 = .ok (.invokevirtual 106, 3) := by decide +kernel
theorem dL_law_818 : decode cL_law 818 = .ok (.aload_n 2, 1) := by decide +kernel
theorem dL_law_819 : decode cL_law 819 = .ok (.aload_n 0, 1) := by decide +kernel
theorem dL_law_820 : decode cL_law 820 = .ok (.iload_n 3, 1) := by decide +kernel
theorem dL_law_821 : decode cL_law 821 = .ok (.iconst 1, 1) := by decide +kernel
theorem dL_law_822 : decode cL_law 822 = .ok (.iadd, 1) := by decide +kernel
theorem dL_law_823 : decode cL_law 823 = .ok (.iaload, 1) := by decide +kernel
theorem dL_law_824 : decode cL_law 824 = .ok (.aload_n 0, 1) := by decide +kernel
theorem dL_law_825 : decode cL_law 825 = .ok (.iload_n 3, 1) := by decide +kernel
theorem dL_law_826 : decode cL_law 826 = .ok (.iconst 2, 1) := by decide +kernel
theorem dL_law_827 : decode cL_law 827 = .ok (.iadd, 1) := by decide +kernel
theorem dL_law_828 : decode cL_law 828 = .ok (.iaload, 1) := by decide +kernel
theorem dL_law_829 : decode cL_law 829 = .ok (.invokevirtual 109, 3) := by decide +kernel
theorem dL_law_832 : decode cL_law 832 = .ok (.if_icmp .eq 179, 3) := by decide +kernel
theorem dL_law_835 : decode cL_law 835 = .ok (.iconst 0, 1) := by decide +kernel
theorem dL_law_836 : decode cL_law 836 = .ok (.ireturn, 1) := by decide +kernel
theorem dL_law_837 : decode cL_law 837 = .ok (.aload_n 1, 1) := by decide +kernel
theorem dL_law_838 : decode cL_law 838 = .ok (.aload_n 0, 1) := by decide +kernel
theorem dL_law_839 : decode cL_law 839 = .ok (.iload_n 3, 1) := by decide +kernel
theorem dL_law_840 : decode cL_law 840 = .ok (.iconst 1, 1) := by decide +kernel
theorem dL_law_841 : decode cL_law 841 = .ok (.iadd, 1) := by decide +kernel
theorem dL_law_842 : decode cL_law 842 = .ok (.iaload, 1) := by decide +kernel
theorem dL_law_843 : decode cL_law 843 = .ok (.aload_n 0, 1) := by decide +kernel
theorem dL_law_844 : decode cL_law 844 = .ok (.iload_n 3, 1) := by decide +kernel
theorem dL_law_845 : decode cL_law 845 = .ok (.iconst 2, 1) := by decide +kernel
theorem dL_law_846 : decode cL_law 846 = .ok (.iadd, 1) := by decide +kernel
theorem dL_law_847 : decode cL_law 847 = .ok (.iaload, 1) := by decide +kernel
theorem dL_law_848 : decode cL_law 848 = .ok (.invokevirtual 110, 3) := by decide +kernel
theorem dL_law_851 : decode cL_law 851 = .ok (.aload_n 2, 1) := by decide +kernel
theorem dL_law_852 : decode cL_law 852 = .ok (.aload_n 0, 1) := by decide +kernel
theorem dL_law_853 : decode cL_law 853 = .ok (.iload_n 3, 1) := by decide +kernel
theorem dL_law_854 : decode cL_law 854 = .ok (.iconst 1, 1) := by decide +kernel
theorem dL_law_855 : decode cL_law 855 = .ok (.iadd, 1) := by decide +kernel
theorem dL_law_856 : decode cL_law 856 = .ok (.iaload, 1) := by decide +kernel
theorem dL_law_857 : decode cL_law 857 = .ok (.aload_n 0, 1) := by decide +kernel
theorem dL_law_858 : decode cL_law 858 = .ok (.iload_n 3, 1) := by decide +kernel
theorem dL_law_859 : decode cL_law 859 = .ok (.iconst 2, 1) := by decide +kernel
theorem dL_law_860 : decode cL_law 860 = .ok (.iadd, 1) := by decide +kernel
theorem dL_law_861 : decode cL_law 861 = .ok (.iaload, 1) := by decide +kernel
theorem dL_law_862 : decode cL_law 862 = .ok (.invokevirtual 113, 3) := by decide +kernel
theorem dL_law_865 : decode cL_law 865 = .ok (.if_icmp .eq 146, 3) := by decide +kernel
theorem dL_law_868 : decode cL_law 868 = .ok (.iconst 0, 1) := by decide +kernel
theorem dL_law_869 : decode cL_law 869 = .ok (.ireturn, 1) := by decide +kernel
theorem dL_law_870 : decode cL_law 870 = .ok (.aload_n 1, 1) := by decide +kernel
theorem dL_law_871 : decode cL_law 871 = .ok (.invokevirtual 114, 3) := by decide +kernel
theorem dL_law_874 : decode cL_law 874 = .ok (.aload_n 2, 1) := by decide +kernel
theorem dL_law_875 : decode cL_law 875 = .ok (.invokevirtual 117, 3) := by decide +kernel
theorem dL_law_878 : decode cL_law 878 = .ok (.if_icmp .eq 133, 3) := by decide +kernel
theorem dL_law_881 : decode cL_law 881 = .ok (.iconst 0, 1) := by decide +kernel
theorem dL_law_882 : decode cL_law 882 = .ok (.ireturn, 1) := by decide +kernel
theorem dL_law_883 : decode cL_law 883 = .ok (.aload_n 1, 1) := by decide +kernel
theorem dL_law_884 : decode cL_law 884 = .ok (.aload_n 0, 1) := by decide +kernel
theorem dL_law_885 : decode cL_law 885 = .ok (.iload_n 3, 1) := by decide +kernel
theorem dL_law_886 : decode cL_law 886 = .ok (.iconst 1, 1) := by decide +kernel
theorem dL_law_887 : decode cL_law 887 = .ok (.iadd, 1) := by decide +kernel
theorem dL_law_888 : decode cL_law 888 = .ok (.iaload, 1) := by decide +kernel
theorem dL_law_889 : decode cL_law 889 = .ok (.aload_n 0, 1) := by decide +kernel
theorem dL_law_890 : decode cL_law 890 = .ok (.iload_n 3, 1) := by decide +kernel
theorem dL_law_891 : decode cL_law 891 = .ok (.iconst 2, 1) := by decide +kernel
theorem dL_law_892 : decode cL_law 892 = .ok (.iadd, 1) := by decide +kernel
theorem dL_law_893 : decode cL_law 893 = .ok (.iaload, 1) := by decide +kernel
theorem dL_law_894 : decode cL_law 894 = .ok (.invokevirtual 118, 3) := by decide +kernel
theorem dL_law_897 : decode cL_law 897 = .ok (.aload_n 2, 1) := by decide +kernel
theorem dL_law_898 : decode cL_law 898 = .ok (.aload_n 0, 1) := by decide +kernel
theorem dL_law_899 : decode cL_law 899 = .ok (.iload_n 3, 1) := by decide +kernel
theorem dL_law_900 : decode cL_law 900 = .ok (.iconst 1, 1) := by decide +kernel
theorem dL_law_901 : decode cL_law 901 = .ok (.iadd, 1) := by decide +kernel
theorem dL_law_902 : decode cL_law 902 = .ok (.iaload, 1) := by decide +kernel
theorem dL_law_903 : decode cL_law 903 = .ok (.aload_n 0, 1) := by decide +kernel
theorem dL_law_904 : decode cL_law 904 = .ok (.iload_n 3, 1) := by decide +kernel
theorem dL_law_905 : decode cL_law 905 = .ok (.iconst 2, 1) := by decide +kernel
theorem dL_law_906 : decode cL_law 906 = .ok (.iadd, 1) := by decide +kernel
theorem dL_law_907 : decode cL_law 907 = .ok (.iaload, 1) := by decide +kernel
theorem dL_law_908 : decode cL_law 908 = .ok (.invokevirtual 121, 3) := by decide +kernel
theorem dL_law_911 : decode cL_law 911 = .ok (.if_icmp .eq 100, 3) := by decide +kernel
theorem dL_law_914 : decode cL_law 914 = .ok (.iconst 0, 1) := by decide +kernel
theorem dL_law_915 : decode cL_law 915 = .ok (.ireturn, 1) := by decide +kernel
theorem dL_law_916 : decode cL_law 916 = .ok (.aload_n 1, 1) := by decide +kernel
theorem dL_law_917 : decode cL_law 917 = .ok (.invokevirtual 122, 3) := by decide +kernel
theorem dL_law_920 : decode cL_law 920 = .ok (.aload_n 2, 1) := by decide +kernel
theorem dL_law_921 : decode cL_law 921 = .ok (.invokevirtual 125, 3) := by decide +kernel
theorem dL_law_924 : decode cL_law 924 = .ok (.if_icmp .eq 87, 3) := by decide +kernel
theorem dL_law_927 : decode cL_law 927 = .ok (.iconst 0, 1) := by decide +kernel
theorem dL_law_928 : decode cL_law 928 = .ok (.ireturn, 1) := by decide +kernel
theorem dL_law_929 : decode cL_law 929 = .ok (.aload_n 1, 1) := by decide +kernel
theorem dL_law_930 : decode cL_law 930 = .ok (.invokevirtual 126, 3) := by decide +kernel
theorem dL_law_933 : decode cL_law 933 = .ok (.aload_n 2, 1) := by decide +kernel
theorem dL_law_934 : decode cL_law 934 = .ok (.invokevirtual 129, 3) := by decide +kernel
theorem dL_law_937 : decode cL_law 937 = .ok (.if_icmp .eq 74, 3) := by decide +kernel
theorem dL_law_940 : decode cL_law 940 = .ok (.iconst 0, 1) := by decide +kernel
theorem dL_law_941 : decode cL_law 941 = .ok (.ireturn, 1) := by decide +kernel
theorem dL_law_942 : decode cL_law 942 = .ok (.aload_n 1, 1) := by decide +kernel
theorem dL_law_943 : decode cL_law 943 = .ok (.aload_n 0, 1) := by decide +kernel
theorem dL_law_944 : decode cL_law 944 = .ok (.iload_n 3, 1) := by decide +kernel
theorem dL_law_945 : decode cL_law 945 = .ok (.iconst 1, 1) := by decide +kernel
theorem dL_law_946 : decode cL_law 946 = .ok (.iadd, 1) := by decide +kernel
theorem dL_law_947 : decode cL_law 947 = .ok (.iaload, 1) := by decide +kernel
theorem dL_law_948 : decode cL_law 948 = .ok (.invokevirtual 130, 3) := by decide +kernel
theorem dL_law_951 : decode cL_law 951 = .ok (.aload_n 2, 1) := by decide +kernel
theorem dL_law_952 : decode cL_law 952 = .ok (.aload_n 0, 1) := by decide +kernel
theorem dL_law_953 : decode cL_law 953 = .ok (.iload_n 3, 1) := by decide +kernel
theorem dL_law_954 : decode cL_law 954 = .ok (.iconst 1, 1) := by decide +kernel
theorem dL_law_955 : decode cL_law 955 = .ok (.iadd, 1) := by decide +kernel
theorem dL_law_956 : decode cL_law 956 = .ok (.iaload, 1) := by decide +kernel
theorem dL_law_957 : decode cL_law 957 = .ok (.invokevirtual 133, 3) := by decide +kernel
theorem dL_law_960 : decode cL_law 960 = .ok (.if_icmp .eq 51, 3) := by decide +kernel
theorem dL_law_963 : decode cL_law 963 = .ok (.iconst 0, 1) := by decide +kernel
theorem dL_law_964 : decode cL_law 964 = .ok (.ireturn, 1) := by decide +kernel
theorem dL_law_965 : decode cL_law 965 = .ok (.aload_n 1, 1) := by decide +kernel
theorem dL_law_966 : decode cL_law 966 = .ok (.aload_n 0, 1) := by decide +kernel
theorem dL_law_967 : decode cL_law 967 = .ok (.iload_n 3, 1) := by decide +kernel
theorem dL_law_968 : decode cL_law 968 = .ok (.iconst 1, 1) := by decide +kernel
theorem dL_law_969 : decode cL_law 969 = .ok (.iadd, 1) := by decide +kernel
theorem dL_law_970 : decode cL_law 970 = .ok (.iaload, 1) := by decide +kernel
theorem dL_law_971 : decode cL_law 971 = .ok (.invokevirtual 134, 3) := by decide +kernel
theorem dL_law_974 : decode cL_law 974 = .ok (.aload_n 2, 1) := by decide +kernel
theorem dL_law_975 : decode cL_law 975 = .ok (.aload_n 0, 1) := by decide +kernel
theorem dL_law_976 : decode cL_law 976 = .ok (.iload_n 3, 1) := by decide +kernel
theorem dL_law_977 : decode cL_law 977 = .ok (.iconst 1, 1) := by decide +kernel
theorem dL_law_978 : decode cL_law 978 = .ok (.iadd, 1) := by decide +kernel
theorem dL_law_979 : decode cL_law 979 = .ok (.iaload, 1) := by decide +kernel
theorem dL_law_980 : decode cL_law 980 = .ok (.invokevirtual 137, 3) := by decide +kernel
theorem dL_law_983 : decode cL_law 983 = .ok (.if_icmp .eq 28, 3) := by decide +kernel
theorem dL_law_986 : decode cL_law 986 = .ok (.iconst 0, 1) := by decide +kernel
theorem dL_law_987 : decode cL_law 987 = .ok (.ireturn, 1) := by decide +kernel
theorem dL_law_988 : decode cL_law 988 = .ok (.aload_n 1, 1) := by decide +kernel
theorem dL_law_989 : decode cL_law 989 = .ok (.aload_n 0, 1) := by decide +kernel
theorem dL_law_990 : decode cL_law 990 = .ok (.iload_n 3, 1) := by decide +kernel
theorem dL_law_991 : decode cL_law 991 = .ok (.iconst 1, 1) := by decide +kernel
theorem dL_law_992 : decode cL_law 992 = .ok (.iadd, 1) := by decide +kernel
theorem dL_law_993 : decode cL_law 993 = .ok (.iaload, 1) := by decide +kernel
theorem dL_law_994 : decode cL_law 994 = .ok (.invokevirtual 138, 3) := by decide +kernel
theorem dL_law_997 : decode cL_law 997 = .ok (.aload_n 2, 1) := by decide +kernel
theorem dL_law_998 : decode cL_law 998 = .ok (.aload_n 0, 1) := by decide +kernel
theorem dL_law_999 : decode cL_law 999 = .ok (.iload_n 3, 1) := by decide +kernel
theorem dL_law_1000 : decode cL_law 1000 = .ok (.iconst 1, 1) := by decide +kernel
theorem dL_law_1001 : decode cL_law 1001 = .ok (.iadd, 1) := by decide +kernel
theorem dL_law_1002 : decode cL_law 1002 = .ok (.iaload, 1) := by decide +kernel
theorem dL_law_1003 : decode cL_law 1003 = .ok (.invokevirtual 141, 3) := by decide +kernel
theorem dL_law_1006 : decode cL_law 1006 = .ok (.if_icmp .eq 5, 3) := by decide +kernel
theorem dL_law_1009 : decode cL_law 1009 = .ok (.iconst 0, 1) := by decide +kernel
theorem dL_law_1010 : decode cL_law 1010 = .ok (.ireturn, 1) := by decide +kernel
theorem dL_law_1011 : decode cL_law 1011 = .ok (.iinc 3 4, 3) := by decide +kernel
theorem dL_law_1014 : decode cL_law 1014 = .ok (.goto (-996), 3) := by decide +kernel
theorem dL_law_1017 : decode cL_law 1017 = .ok (.iconst 1, 1) := by decide +kernel
theorem dL_law_1018 : decode cL_law 1018 = .ok (.ireturn, 1) := by decide +kernel
