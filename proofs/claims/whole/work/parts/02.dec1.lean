theorem dX9_init_39 : decode cX9_init 39 = .ok (.goto (-25), 3) := by decide +kernel
theorem dX9_init_42 : decode cX9_init 42 = .ok (.aload_n 0, 1) := by decide +kernel
theorem dX9_init_43 : decode cX9_init 43 = .ok (.invokevirtual 18, 3) := by decide +kernel
theorem dX9_init_46 : decode cX9_init 46 = .ok (.aload_n 0, 1) := by decide +kernel
theorem dX9_init_47 : decode cX9_init 47 = .ok (.invokevirtual 21, 3) := by decide +kernel
theorem dX9_init_50 : decode cX9_init 50 = .ok (.return_, 1) := by decide +kernel
theorem dX9_begin_0 : decode cX9_begin 0 = .ok (.aload_n 0, 1) := by decide +kernel
theorem dX9_begin_1 : decode cX9_begin 1 = .ok (.iconst 0, 1) := by decide +kernel
theorem dX9_begin_2 : decode cX9_begin 2 = .ok (.putfield 24, 3) := by decide +kernel
theorem dX9_begin_5 : decode cX9_begin 5 = .ok (.aload_n 0, 1) := by decide +kernel
theorem dX9_begin_6 : decode cX9_begin 6 = .ok (.iconst 0, 1) := by decide +kernel
theorem dX9_begin_7 : decode cX9_begin 7 = .ok (.putfield 28, 3) := by decide +kernel
theorem dX9_begin_10 : decode cX9_begin 10 = .ok (.aload_n 0, 1) := by decide +kernel
theorem dX9_begin_11 : decode cX9_begin 11 = .ok (.iconst 5, 1) := by decide +kernel
theorem dX9_begin_12 : decode cX9_begin 12 = .ok (.putfield 31, 3) := by decide +kernel
theorem dX9_begin_15 : decode cX9_begin 15 = .ok (.aload_n 0, 1) := by decide +kernel
theorem dX9_begin_16 : decode cX9_begin 16 = .ok (.bipush 29, 2) := by decide +kernel
theorem dX9_begin_18 : decode cX9_begin 18 = .ok (.putfield 34, 3) := by decide +kernel
theorem dX9_begin_21 : decode cX9_begin 21 = .ok (.aload_n 0, 1) := by decide +kernel
theorem dX9_begin_22 : decode cX9_begin 22 = .ok (.iconst 0, 1) := by decide +kernel
theorem dX9_begin_23 : decode cX9_begin 23 = .ok (.putfield 37, 3) := by decide +kernel
theorem dX9_begin_26 : decode cX9_begin 26 = .ok (.aload_n 0, 1) := by decide +kernel
theorem dX9_begin_27 : decode cX9_begin 27 = .ok (.iconst 0, 1) := by decide +kernel
theorem dX9_begin_28 : decode cX9_begin 28 = .ok (.putfield 40, 3) := by decide +kernel
theorem dX9_begin_31 : decode cX9_begin 31 = .ok (.aload_n 0, 1) := by decide +kernel
theorem dX9_begin_32 : decode cX9_begin 32 = .ok (.bipush 15, 2) := by decide +kernel
theorem dX9_begin_34 : decode cX9_begin 34 = .ok (.putfield 43, 3) := by decide +kernel
theorem dX9_begin_37 : decode cX9_begin 37 = .ok (.aload_n 0, 1) := by decide +kernel
theorem dX9_begin_38 : decode cX9_begin 38 = .ok (.iconst 0, 1) := by decide +kernel
theorem dX9_begin_39 : decode cX9_begin 39 = .ok (.putfield 46, 3) := by decide +kernel
theorem dX9_begin_42 : decode cX9_begin 42 = .ok (.aload_n 0, 1) := by decide +kernel
theorem dX9_begin_43 : decode cX9_begin 43 = .ok (.iconst 0, 1) := by decide +kernel
theorem dX9_begin_44 : decode cX9_begin 44 = .ok (.putfield 50, 3) := by decide +kernel
theorem dX9_begin_47 : decode cX9_begin 47 = .ok (.return_, 1) := by decide +kernel
theorem dX9_settle_0 : decode cX9_settle 0 = .ok (.aload_n 0, 1) := by decide +kernel
theorem dX9_settle_1 : decode cX9_settle 1 = .ok (.aload_n 0, 1) := by decide +kernel
theorem dX9_settle_2 : decode cX9_settle 2 = .ok (.getfield 31, 3) := by decide +kernel
theorem dX9_settle_5 : decode cX9_settle 5 = .ok (.invokestatic 53, 3) := by decide +kernel
theorem dX9_settle_8 : decode cX9_settle 8 = .ok (.putfield 57, 3) := by decide +kernel
theorem dX9_settle_11 : decode cX9_settle 11 = .ok (.aload_n 0, 1) := by decide +kernel
theorem dX9_settle_12 : decode cX9_settle 12 = .ok (.aload_n 0, 1) := by decide +kernel
theorem dX9_settle_13 : decode cX9_settle 13 = .ok (.getfield 34, 3) := by decide +kernel
theorem dX9_settle_16 : decode cX9_settle 16 = .ok (.invokestatic 53, 3) := by decide +kernel
theorem dX9_settle_19 : decode cX9_settle 19 = .ok (.putfield 60, 3) := by decide +kernel
theorem dX9_settle_22 : decode cX9_settle 22 = .ok (.iconst 0, 1) := by decide +kernel
theorem dX9_settle_23 : decode cX9_settle 23 = .ok (.istore_n 1, 1) := by decide +kernel
theorem dX9_settle_24 : decode cX9_settle 24 = .ok (.iload_n 1, 1) := by decide +kernel
theorem dX9_settle_25 : decode cX9_settle 25 = .ok (.aload_n 0, 1) := by decide +kernel
theorem dX9_settle_26 : decode cX9_settle 26 = .ok (.getfield 24, 3) := by decide +kernel
theorem dX9_settle_29 : decode cX9_settle 29 = .ok (.if_icmp .ge 31, 3) := by decide +kernel
theorem dX9_settle_32 : decode cX9_settle 32 = .ok (.aload_n 0, 1) := by decide +kernel
theorem dX9_settle_33 : decode cX9_settle 33 = .ok (.getfield 11, 3) := by decide +kernel
theorem dX9_settle_36 : decode cX9_settle 36 = .ok (.iload_n 1, 1) := by decide +kernel
theorem dX9_settle_37 : decode cX9_settle 37 = .ok (.aaload, 1) := by decide +kernel
theorem dX9_settle_38 : decode cX9_settle 38 = .ok (.aload_n 0, 1) := by decide +kernel
theorem dX9_settle_39 : decode cX9_settle 39 = .ok (.aload_n 0, 1) := by decide +kernel
theorem dX9_settle_40 : decode cX9_settle 40 = .ok (.getfield 11, 3) := by decide +kernel
theorem dX9_settle_43 : decode cX9_settle 43 = .ok (.iload_n 1, 1) := by decide +kernel
theorem dX9_settle_44 : decode cX9_settle 44 = .ok (.aaload, 1) := by decide +kernel
theorem dX9_settle_45 : decode cX9_settle 45 = .ok (.getfield 63, 3) := by decide +kernel
theorem dX9_settle_48 : decode cX9_settle 48 = .ok (.invokevirtual 66, 3) := by decide +kernel
theorem dX9_settle_51 : decode cX9_settle 51 = .ok (.putfield 69, 3) := by decide +kernel
theorem dX9_settle_54 : decode cX9_settle 54 = .ok (.iinc 1 1, 3) := by decide +kernel
theorem dX9_settle_57 : decode cX9_settle 57 = .ok (.goto (-33), 3) := by decide +kernel
theorem dX9_settle_60 : decode cX9_settle 60 = .ok (.return_, 1) := by decide +kernel
theorem dX9_codeOf_0 : decode cX9_codeOf 0 = .ok (.aload_n 0, 1) := by decide +kernel
theorem dX9_codeOf_1 : decode cX9_codeOf 1 = .ok (.getfield 57, 3) := by decide +kernel
theorem dX9_codeOf_4 : decode cX9_codeOf 4 = .ok (.aload_n 0, 1) := by decide +kernel
theorem dX9_codeOf_5 : decode cX9_codeOf 5 = .ok (.getfield 60, 3) := by decide +kernel
theorem dX9_codeOf_8 : decode cX9_codeOf 8 = .ok (.iload_n 1, 1) := by decide +kernel
theorem dX9_codeOf_9 : decode cX9_codeOf 9 = .ok (.invokestatic 72, 3) := by decide +kernel
theorem dX9_codeOf_12 : decode cX9_codeOf 12 = .ok (.ixor, 1) := by decide +kernel
theorem dX9_codeOf_13 : decode cX9_codeOf 13 = .ok (.iconst (-1), 1) := by decide +kernel
theorem dX9_codeOf_14 : decode cX9_codeOf 14 = .ok (.ixor, 1) := by decide +kernel
theorem dX9_codeOf_15 : decode cX9_codeOf 15 = .ok (.ldc 76, 2) := by decide +kernel
theorem dX9_codeOf_17 : decode cX9_codeOf 17 = .ok (.iand, 1) := by decide +kernel
theorem dX9_codeOf_18 : decode cX9_codeOf 18 = .ok (.ireturn, 1) := by decide +kernel
theorem dX9_codeOfBird_0 : decode cX9_codeOfBird 0 = .ok (.iload_n 1, 1) := by decide +kernel
theorem dX9_codeOfBird_1 : decode cX9_codeOfBird 1 = .ok (.ifCond .lt 23, 3) := by decide +kernel
theorem dX9_codeOfBird_4 : decode cX9_codeOfBird 4 = .ok (.iload_n 1, 1) := by decide +kernel
theorem dX9_codeOfBird_5 : decode cX9_codeOfBird 5 = .ok (.aload_n 0, 1) := by decide +kernel
theorem dX9_codeOfBird_6 : decode cX9_codeOfBird 6 = .ok (.getfield 24, 3) := by decide +kernel
theorem dX9_codeOfBird_9 : decode cX9_codeOfBird 9 = .ok (.if_icmp .ge 15, 3) := by decide +kernel
theorem dX9_codeOfBird_12 : decode cX9_codeOfBird 12 = .ok (.aload_n 0, 1) := by decide +kernel
theorem dX9_codeOfBird_13 : decode cX9_codeOfBird 13 = .ok (.getfield 11, 3) := by decide +kernel
theorem dX9_codeOfBird_16 : decode cX9_codeOfBird 16 = .ok (.iload_n 1, 1) := by decide +kernel
theorem dX9_codeOfBird_17 : decode cX9_codeOfBird 17 = .ok (.aaload, 1) := by decide +kernel
theorem dX9_codeOfBird_18 : decode cX9_codeOfBird 18 = .ok (.getfield 69, 3) := by decide +kernel
theorem dX9_codeOfBird_21 : decode cX9_codeOfBird 21 = .ok (.goto 4, 3) := by decide +kernel
theorem dX9_codeOfBird_24 : decode cX9_codeOfBird 24 = .ok (.iconst 0, 1) := by decide +kernel
theorem dX9_codeOfBird_25 : decode cX9_codeOfBird 25 = .ok (.ireturn, 1) := by decide +kernel
theorem dX9_numberOf_0 : decode cX9_numberOf 0 = .ok (.iconst 0, 1) := by decide +kernel
theorem dX9_numberOf_1 : decode cX9_numberOf 1 = .ok (.istore_n 2, 1) := by decide +kernel
theorem dX9_numberOf_2 : decode cX9_numberOf 2 = .ok (.iload_n 2, 1) := by decide +kernel
theorem dX9_numberOf_3 : decode cX9_numberOf 3 = .ok (.aload_n 0, 1) := by decide +kernel
theorem dX9_numberOf_4 : decode cX9_numberOf 4 = .ok (.getfield 24, 3) := by decide +kernel
theorem dX9_numberOf_7 : decode cX9_numberOf 7 = .ok (.if_icmp .ge 24, 3) := by decide +kernel
theorem dX9_numberOf_10 : decode cX9_numberOf 10 = .ok (.aload_n 0, 1) := by decide +kernel
theorem dX9_numberOf_11 : decode cX9_numberOf 11 = .ok (.getfield 11, 3) := by decide +kernel
theorem dX9_numberOf_14 : decode cX9_numberOf 14 = .ok (.iload_n 2, 1) := by decide +kernel
theorem dX9_numberOf_15 : decode cX9_numberOf 15 = .ok (.aaload, 1) := by decide +kernel
theorem dX9_numberOf_16 : decode cX9_numberOf 16 = .ok (.getfield 77, 3) := by decide +kernel
theorem dX9_numberOf_19 : decode cX9_numberOf 19 = .ok (.iload_n 1, 1) := by decide +kernel
theorem dX9_numberOf_20 : decode cX9_numberOf 20 = .ok (.if_icmp .ne 5, 3) := by decide +kernel
theorem dX9_numberOf_23 : decode cX9_numberOf 23 = .ok (.iload_n 2, 1) := by decide +kernel
theorem dX9_numberOf_24 : decode cX9_numberOf 24 = .ok (.ireturn, 1) := by decide +kernel
theorem dX9_numberOf_25 : decode cX9_numberOf 25 = .ok (.iinc 2 1, 3) := by decide +kernel
theorem dX9_numberOf_28 : decode cX9_numberOf 28 = .ok (.goto (-26), 3) := by decide +kernel
theorem dX9_numberOf_31 : decode cX9_numberOf 31 = .ok (.iconst (-1), 1) := by decide +kernel
theorem dX9_numberOf_32 : decode cX9_numberOf 32 = .ok (.ireturn, 1) := by decide +kernel
theorem dX9_addBird_0 : decode cX9_addBird 0 = .ok (.aload_n 0, 1) := by decide +kernel
theorem dX9_addBird_1 : decode cX9_addBird 1 = .ok (.getfield 24, 3) := by decide +kernel
theorem dX9_addBird_4 : decode cX9_addBird 4 = .ok (.aload_n 0, 1) := by decide +kernel
theorem dX9_addBird_5 : decode cX9_addBird 5 = .ok (.getfield 11, 3) := by decide +kernel
theorem dX9_addBird_8 : decode cX9_addBird 8 = .ok (.arraylength, 1) := by decide +kernel
theorem dX9_addBird_9 : decode cX9_addBird 9 = .ok (.if_icmp .ge 27, 3) := by decide +kernel
theorem dX9_addBird_12 : decode cX9_addBird 12 = .ok (.aload_n 0, 1) := by decide +kernel
theorem dX9_addBird_13 : decode cX9_addBird 13 = .ok (.getfield 11, 3) := by decide +kernel
theorem dX9_addBird_16 : decode cX9_addBird 16 = .ok (.aload_n 0, 1) := by decide +kernel
theorem dX9_addBird_17 : decode cX9_addBird 17 = .ok (.getfield 24, 3) := by decide +kernel
theorem dX9_addBird_20 : decode cX9_addBird 20 = .ok (.aaload, 1) := by decide +kernel
theorem dX9_addBird_21 : decode cX9_addBird 21 = .ok (.iload_n 1, 1) := by decide +kernel
theorem dX9_addBird_22 : decode cX9_addBird 22 = .ok (.iload_n 2, 1) := by decide +kernel
theorem dX9_addBird_23 : decode cX9_addBird 23 = .ok (.invokevirtual 80, 3) := by decide +kernel
theorem dX9_addBird_26 : decode cX9_addBird 26 = .ok (.aload_n 0, 1) := by decide +kernel
theorem dX9_addBird_27 : decode cX9_addBird 27 = .ok (.dup, 1) := by decide +kernel
theorem dX9_addBird_28 : decode cX9_addBird 28 = .ok (.getfield 24, 3) := by decide +kernel
theorem dX9_addBird_31 : decode cX9_addBird 31 = .ok (.iconst 1, 1) := by decide +kernel
theorem dX9_addBird_32 : decode cX9_addBird 32 = .ok (.iadd, 1) := by decide +kernel
theorem dX9_addBird_33 : decode cX9_addBird 33 = .ok (.putfield 24, 3) := by decide +kernel
theorem dX9_addBird_36 : decode cX9_addBird 36 = .ok (.return_, 1) := by decide +kernel
theorem dX9_howManyHeard_0 : decode cX9_howManyHeard 0 = .ok (.iconst 0, 1) := by decide +kernel
theorem dX9_howManyHeard_1 : decode cX9_howManyHeard 1 = .ok (.istore_n 1, 1) := by decide +kernel
theorem dX9_howManyHeard_2 : decode cX9_howManyHeard 2 = .ok (.iconst 0, 1) := by decide +kernel
theorem dX9_howManyHeard_3 : decode cX9_howManyHeard 3 = .ok (.istore_n 2, 1) := by decide +kernel
theorem dX9_howManyHeard_4 : decode cX9_howManyHeard 4 = .ok (.iload_n 2, 1) := by decide +kernel
theorem dX9_howManyHeard_5 : decode cX9_howManyHeard 5 = .ok (.aload_n 0, 1) := by decide +kernel
theorem dX9_howManyHeard_6 : decode cX9_howManyHeard 6 = .ok (.getfield 24, 3) := by decide +kernel
theorem dX9_howManyHeard_9 : decode cX9_howManyHeard 9 = .ok (.if_icmp .ge 29, 3) := by decide +kernel
theorem dX9_howManyHeard_12 : decode cX9_howManyHeard 12 = .ok (.iload_n 1, 1) := by decide +kernel
theorem dX9_howManyHeard_13 : decode cX9_howManyHeard 13 = .ok (.aload_n 0, 1) := by decide +kernel
theorem dX9_howManyHeard_14 : decode cX9_howManyHeard 14 = .ok (.getfield 11, 3) := by decide +kernel
theorem dX9_howManyHeard_17 : decode cX9_howManyHeard 17 = .ok (.iload_n 2, 1) := by decide +kernel
theorem dX9_howManyHeard_18 : decode cX9_howManyHeard 18 = .ok (.aaload, 1) := by decide +kernel
theorem dX9_howManyHeard_19 : decode cX9_howManyHeard 19 = .ok (.invokevirtual 83, 3) := by decide +kernel
theorem dX9_howManyHeard_22 : decode cX9_howManyHeard 22 = .ok (.ifCond .eq 7, 3) := by decide +kernel
theorem dX9_howManyHeard_25 : decode cX9_howManyHeard 25 = .ok (.iconst 1, 1) := by decide +kernel
theorem dX9_howManyHeard_26 : decode cX9_howManyHeard 26 = .ok (.goto 4, 3) := by decide +kernel
theorem dX9_howManyHeard_29 : decode cX9_howManyHeard 29 = .ok (.iconst 0, 1) := by decide +kernel
theorem dX9_howManyHeard_30 : decode cX9_howManyHeard 30 = .ok (.iadd, 1) := by decide +kernel
theorem dX9_howManyHeard_31 : decode cX9_howManyHeard 31 = .ok (.istore_n 1, 1) := by decide +kernel
theorem dX9_howManyHeard_32 : decode cX9_howManyHeard 32 = .ok (.iinc 2 1, 3) := by decide +kernel
theorem dX9_howManyHeard_35 : decode cX9_howManyHeard 35 = .ok (.goto (-31), 3) := by decide +kernel
theorem dX9_howManyHeard_38 : decode cX9_howManyHeard 38 = .ok (.iload_n 1, 1) := by decide +kernel
theorem dX9_howManyHeard_39 : decode cX9_howManyHeard 39 = .ok (.ireturn, 1) := by decide +kernel
theorem dX9_howManyPlaced_0 : decode cX9_howManyPlaced 0 = .ok (.iconst 0, 1) := by decide +kernel
theorem dX9_howManyPlaced_1 : decode cX9_howManyPlaced 1 = .ok (.istore_n 1, 1) := by decide +kernel
theorem dX9_howManyPlaced_2 : decode cX9_howManyPlaced 2 = .ok (.iconst 0, 1) := by decide +kernel
theorem dX9_howManyPlaced_3 : decode cX9_howManyPlaced 3 = .ok (.istore_n 2, 1) := by decide +kernel
theorem dX9_howManyPlaced_4 : decode cX9_howManyPlaced 4 = .ok (.iload_n 2, 1) := by decide +kernel
theorem dX9_howManyPlaced_5 : decode cX9_howManyPlaced 5 = .ok (.aload_n 0, 1) := by decide +kernel
theorem dX9_howManyPlaced_6 : decode cX9_howManyPlaced 6 = .ok (.getfield 24, 3) := by decide +kernel
theorem dX9_howManyPlaced_9 : decode cX9_howManyPlaced 9 = .ok (.if_icmp .ge 29, 3) := by decide +kernel
theorem dX9_howManyPlaced_12 : decode cX9_howManyPlaced 12 = .ok (.iload_n 1, 1) := by decide +kernel
theorem dX9_howManyPlaced_13 : decode cX9_howManyPlaced 13 = .ok (.aload_n 0, 1) := by decide +kernel
theorem dX9_howManyPlaced_14 : decode cX9_howManyPlaced 14 = .ok (.getfield 11, 3) := by decide +kernel
theorem dX9_howManyPlaced_17 : decode cX9_howManyPlaced 17 = .ok (.iload_n 2, 1) := by decide +kernel
theorem dX9_howManyPlaced_18 : decode cX9_howManyPlaced 18 = .ok (.aaload, 1) := by decide +kernel
theorem dX9_howManyPlaced_19 : decode cX9_howManyPlaced 19 = .ok (.getfield 87, 3) := by decide +kernel
theorem dX9_howManyPlaced_22 : decode cX9_howManyPlaced 22 = .ok (.ifCond .eq 7, 3) := by decide +kernel
theorem dX9_howManyPlaced_25 : decode cX9_howManyPlaced 25 = .ok (.iconst 1, 1) := by decide +kernel
theorem dX9_howManyPlaced_26 : decode cX9_howManyPlaced 26 = .ok (.goto 4, 3) := by decide +kernel
theorem dX9_howManyPlaced_29 : decode cX9_howManyPlaced 29 = .ok (.iconst 0, 1) := by decide +kernel
theorem dX9_howManyPlaced_30 : decode cX9_howManyPlaced 30 = .ok (.iadd, 1) := by decide +kernel
theorem dX9_howManyPlaced_31 : decode cX9_howManyPlaced 31 = .ok (.istore_n 1, 1) := by decide +kernel
theorem dX9_howManyPlaced_32 : decode cX9_howManyPlaced 32 = .ok (.iinc 2 1, 3) := by decide +kernel
theorem dX9_howManyPlaced_35 : decode cX9_howManyPlaced 35 = .ok (.goto (-31), 3) := by decide +kernel
theorem dX9_howManyPlaced_38 : decode cX9_howManyPlaced 38 = .ok (.iload_n 1, 1) := by decide +kernel
theorem dX9_howManyPlaced_39 : decode cX9_howManyPlaced 39 = .ok (.ireturn, 1) := by decide +kernel
theorem dX10_init_0 : decode cX10_init 0 = .ok (.aload_n 0, 1) := by decide +kernel
theorem dX10_init_1 : decode cX10_init 1 = .ok (.invokespecial 1, 3) := by decide +kernel
theorem dX10_init_4 : decode cX10_init 4 = .ok (.aload_n 0, 1) := by decide +kernel
theorem dX10_init_5 : decode cX10_init 5 = .ok (.sipush 700, 3) := by decide +kernel
theorem dX10_init_8 : decode cX10_init 8 = .ok (.newarray .int, 2) := by decide +kernel
theorem dX10_init_10 : decode cX10_init 10 = .ok (.putfield 9, 3) := by decide +kernel
theorem dX10_init_13 : decode cX10_init 13 = .ok (.aload_n 0, 1) := by decide +kernel
theorem dX10_init_14 : decode cX10_init 14 = .ok (.new 13, 3) := by decide +kernel
theorem dX10_init_17 : decode cX10_init 17 = .ok (.dup, 1) := by decide +kernel
theorem dX10_init_18 : decode cX10_init 18 = .ok (.invokespecial 15, 3) := by decide +kernel
theorem dX10_init_21 : decode cX10_init 21 = .ok (.putfield 16, 3) := by decide +kernel
theorem dX10_init_24 : decode cX10_init 24 = .ok (.aload_n 0, 1) := by decide +kernel
theorem dX10_init_25 : decode cX10_init 25 = .ok (.new 20, 3) := by decide +kernel
theorem dX10_init_28 : decode cX10_init 28 = .ok (.dup, 1) := by decide +kernel
theorem dX10_init_29 : decode cX10_init 29 = .ok (.invokespecial 22, 3) := by decide +kernel
theorem dX10_init_32 : decode cX10_init 32 = .ok (.putfield 23, 3) := by decide +kernel
theorem dX10_init_35 : decode cX10_init 35 = .ok (.aload_n 0, 1) := by decide +kernel
theorem dX10_init_36 : decode cX10_init 36 = .ok (.new 20, 3) := by decide +kernel
theorem dX10_init_39 : decode cX10_init 39 = .ok (.dup, 1) := by decide +kernel
theorem dX10_init_40 : decode cX10_init 40 = .ok (.invokespecial 22, 3) := by decide +kernel
theorem dX10_init_43 : decode cX10_init 43 = .ok (.putfield 27, 3) := by decide +kernel
theorem dX10_init_46 : decode cX10_init 46 = .ok (.aload_n 0, 1) := by decide +kernel
theorem dX10_init_47 : decode cX10_init 47 = .ok (.new 30, 3) := by decide +kernel
theorem dX10_init_50 : decode cX10_init 50 = .ok (.dup, 1) := by decide +kernel
theorem dX10_init_51 : decode cX10_init 51 = .ok (.invokespecial 32, 3) := by decide +kernel
theorem dX10_init_54 : decode cX10_init 54 = .ok (.putfield 33, 3) := by decide +kernel
theorem dX10_init_57 : decode cX10_init 57 = .ok (.aload_n 0, 1) := by decide +kernel
theorem dX10_init_58 : decode cX10_init 58 = .ok (.new 37, 3) := by decide +kernel
theorem dX10_init_61 : decode cX10_init 61 = .ok (.dup, 1) := by decide +kernel
theorem dX10_init_62 : decode cX10_init 62 = .ok (.invokespecial 39, 3) := by decide +kernel
theorem dX10_init_65 : decode cX10_init 65 = .ok (.putfield 40, 3) := by decide +kernel
theorem dX10_init_68 : decode cX10_init 68 = .ok (.aload_n 0, 1) := by decide +kernel
theorem dX10_init_69 : decode cX10_init 69 = .ok (.new 44, 3) := by decide +kernel
theorem dX10_init_72 : decode cX10_init 72 = .ok (.dup, 1) := by decide +kernel
theorem dX10_init_73 : decode cX10_init 73 = .ok (.invokespecial 46, 3) := by decide +kernel
theorem dX10_init_76 : decode cX10_init 76 = .ok (.putfield 47, 3) := by decide +kernel
theorem dX10_init_79 : decode cX10_init 79 = .ok (.aload_n 0, 1) := by decide +kernel
theorem dX10_init_80 : decode cX10_init 80 = .ok (.new 44, 3) := by decide +kernel
theorem dX10_init_83 : decode cX10_init 83 = .ok (.dup, 1) := by decide +kernel
theorem dX10_init_84 : decode cX10_init 84 = .ok (.invokespecial 46, 3) := by decide +kernel
theorem dX10_init_87 : decode cX10_init 87 = .ok (.putfield 51, 3) := by decide +kernel
theorem dX10_init_90 : decode cX10_init 90 = .ok (.aload_n 0, 1) := by decide +kernel
theorem dX10_init_91 : decode cX10_init 91 = .ok (.new 44, 3) := by decide +kernel
theorem dX10_init_94 : decode cX10_init 94 = .ok (.dup, 1) := by decide +kernel
theorem dX10_init_95 : decode cX10_init 95 = .ok (.invokespecial 46, 3) := by decide +kernel
theorem dX10_init_98 : decode cX10_init 98 = .ok (.putfield 54, 3) := by decide +kernel
theorem dX10_init_101 : decode cX10_init 101 = .ok (.aload_n 0, 1) := by decide +kernel
theorem dX10_init_102 : decode cX10_init 102 = .ok (.new 57, 3) := by decide +kernel
theorem dX10_init_105 : decode cX10_init 105 = .ok (.dup, 1) := by decide +kernel
theorem dX10_init_106 : decode cX10_init 106 = .ok (.invokespecial 59, 3) := by decide +kernel
theorem dX10_init_109 : decode cX10_init 109 = .ok (.putfield 60, 3) := by decide +kernel
theorem dX10_init_112 : decode cX10_init 112 = .ok (.aload_n 0, 1) := by decide +kernel
theorem dX10_init_113 : decode cX10_init 113 = .ok (.new 64, 3) := by decide +kernel
theorem dX10_init_116 : decode cX10_init 116 = .ok (.dup, 1) := by decide +kernel
theorem dX10_init_117 : decode cX10_init 117 = .ok (.invokespecial 66, 3) := by decide +kernel
theorem dX10_init_120 : decode cX10_init 120 = .ok (.putfield 67, 3) := by decide +kernel
theorem dX10_init_123 : decode cX10_init 123 = .ok (.aload_n 0, 1) := by decide +kernel
theorem dX10_init_124 : decode cX10_init 124 = .ok (.new 71, 3) := by decide +kernel
theorem dX10_init_127 : decode cX10_init 127 = .ok (.dup, 1) := by decide +kernel
theorem dX10_init_128 : decode cX10_init 128 = .ok (.invokespecial 73, 3) := by decide +kernel
theorem dX10_init_131 : decode cX10_init 131 = .ok (.putfield 74, 3) := by decide +kernel
theorem dX10_init_134 : decode cX10_init 134 = .ok (.return_, 1) := by decide +kernel
theorem dX10_feed_0 : decode cX10_feed 0 = .ok (.aload_n 0, 1) := by decide +kernel
theorem dX10_feed_1 : decode cX10_feed 1 = .ok (.getfield 78, 3) := by decide +kernel
theorem dX10_feed_4 : decode cX10_feed 4 = .ok (.bipush 20, 2) := by decide +kernel
theorem dX10_feed_6 : decode cX10_feed 6 = .ok (.iadd, 1) := by decide +kernel
theorem dX10_feed_7 : decode cX10_feed 7 = .ok (.aload_n 0, 1) := by decide +kernel
theorem dX10_feed_8 : decode cX10_feed 8 = .ok (.getfield 9, 3) := by decide +kernel
theorem dX10_feed_11 : decode cX10_feed 11 = .ok (.arraylength, 1) := by decide +kernel
theorem dX10_feed_12 : decode cX10_feed 12 = .ok (.if_icmp .le 5, 3) := by decide +kernel
theorem dX10_feed_15 : decode cX10_feed 15 = .ok (.iconst (-1), 1) := by decide +kernel
theorem dX10_feed_16 : decode cX10_feed 16 = .ok (.ireturn, 1) := by decide +kernel
theorem dX10_feed_17 : decode cX10_feed 17 = .ok (.aload_n 0, 1) := by decide +kernel
theorem dX10_feed_18 : decode cX10_feed 18 = .ok (.iload_n 1, 1) := by decide +kernel
theorem dX10_feed_19 : decode cX10_feed 19 = .ok (.invokevirtual 82, 3) := by decide +kernel
theorem dX10_feed_22 : decode cX10_feed 22 = .ok (.aload_n 0, 1) := by decide +kernel
theorem dX10_feed_23 : decode cX10_feed 23 = .ok (.iload_n 2, 1) := by decide +kernel
theorem dX10_feed_24 : decode cX10_feed 24 = .ok (.invokevirtual 82, 3) := by decide +kernel
theorem dX10_feed_27 : decode cX10_feed 27 = .ok (.aload_n 0, 1) := by decide +kernel
theorem dX10_feed_28 : decode cX10_feed 28 = .ok (.iload_n 3, 1) := by decide +kernel
theorem dX10_feed_29 : decode cX10_feed 29 = .ok (.invokevirtual 82, 3) := by decide +kernel
theorem dX10_feed_32 : decode cX10_feed 32 = .ok (.aload_n 0, 1) := by decide +kernel
theorem dX10_feed_33 : decode cX10_feed 33 = .ok (.iload 4, 2) := by decide +kernel
theorem dX10_feed_35 : decode cX10_feed 35 = .ok (.invokevirtual 82, 3) := by decide +kernel
theorem dX10_feed_38 : decode cX10_feed 38 = .ok (.aload_n 0, 1) := by decide +kernel
theorem dX10_feed_39 : decode cX10_feed 39 = .ok (.iload 5, 2) := by decide +kernel
theorem dX10_feed_41 : decode cX10_feed 41 = .ok (.invokevirtual 82, 3) := by decide +kernel
theorem dX10_feed_44 : decode cX10_feed 44 = .ok (.aload_n 0, 1) := by decide +kernel
theorem dX10_feed_45 : decode cX10_feed 45 = .ok (.getfield 78, 3) := by decide +kernel
theorem dX10_feed_48 : decode cX10_feed 48 = .ok (.ireturn, 1) := by decide +kernel
theorem dX10_putFour_0 : decode cX10_putFour 0 = .ok (.bipush 24, 2) := by decide +kernel
theorem dX10_putFour_2 : decode cX10_putFour 2 = .ok (.istore_n 2, 1) := by decide +kernel
theorem dX10_putFour_3 : decode cX10_putFour 3 = .ok (.iload_n 2, 1) := by decide +kernel
theorem dX10_putFour_4 : decode cX10_putFour 4 = .ok (.ifCond .lt 47, 3) := by decide +kernel
theorem dX10_putFour_7 : decode cX10_putFour 7 = .ok (.aload_n 0, 1) := by decide +kernel
theorem dX10_putFour_8 : decode cX10_putFour 8 = .ok (.getfield 78, 3) := by decide +kernel
theorem dX10_putFour_11 : decode cX10_putFour 11 = .ok (.aload_n 0, 1) := by decide +kernel
theorem dX10_putFour_12 : decode cX10_putFour 12 = .ok (.getfield 9, 3) := by decide +kernel
theorem dX10_putFour_15 : decode cX10_putFour 15 = .ok (.arraylength, 1) := by decide +kernel
theorem dX10_putFour_16 : decode cX10_putFour 16 = .ok (.if_icmp .ge 29, 3) := by decide +kernel
theorem dX10_putFour_19 : decode cX10_putFour 19 = .ok (.aload_n 0, 1) := by decide +kernel
theorem dX10_putFour_20 : decode cX10_putFour 20 = .ok (.getfield 9, 3) := by decide +kernel
theorem dX10_putFour_23 : decode cX10_putFour 23 = .ok (.aload_n 0, 1) := by decide +kernel
theorem dX10_putFour_24 : decode cX10_putFour 24 = .ok (.getfield 78, 3) := by decide +kernel
theorem dX10_putFour_27 : decode cX10_putFour 27 = .ok (.iload_n 1, 1) := by decide +kernel
theorem dX10_putFour_28 : decode cX10_putFour 28 = .ok (.iload_n 2, 1) := by decide +kernel
theorem dX10_putFour_29 : decode cX10_putFour 29 = .ok (.iushr, 1) := by decide +kernel
theorem dX10_putFour_30 : decode cX10_putFour 30 = .ok (.sipush 255, 3) := by decide +kernel
theorem dX10_putFour_33 : decode cX10_putFour 33 = .ok (.iand, 1) := by decide +kernel
theorem dX10_putFour_34 : decode cX10_putFour 34 = .ok (.iastore, 1) := by decide +kernel
theorem dX10_putFour_35 : decode cX10_putFour 35 = .ok (.aload_n 0, 1) := by decide +kernel
theorem dX10_putFour_36 : decode cX10_putFour 36 = .ok (.dup, 1) := by decide +kernel
theorem dX10_putFour_37 : decode cX10_putFour 37 = .ok (.getfield 78, 3) := by decide +kernel
theorem dX10_putFour_40 : decode cX10_putFour 40 = .ok (.iconst 1, 1) := by decide +kernel
theorem dX10_putFour_41 : decode cX10_putFour 41 = .ok (.iadd, 1) := by decide +kernel
theorem dX10_putFour_42 : decode cX10_putFour 42 = .ok (.putfield 78, 3) := by decide +kernel
theorem dX10_putFour_45 : decode cX10_putFour 45 = .ok (.iinc 2 (-8), 3) := by decide +kernel
theorem dX10_putFour_48 : decode cX10_putFour 48 = .ok (.goto (-45), 3) := by decide +kernel
theorem dX10_putFour_51 : decode cX10_putFour 51 = .ok (.return_, 1) := by decide +kernel
theorem dX10_text_0 : decode cX10_text 0 = .ok (.iload_n 1, 1) := by decide +kernel
theorem dX10_text_1 : decode cX10_text 1 = .ok (.ifCond .lt 11, 3) := by decide +kernel
theorem dX10_text_4 : decode cX10_text 4 = .ok (.iload_n 1, 1) := by decide +kernel
theorem dX10_text_5 : decode cX10_text 5 = .ok (.aload_n 0, 1) := by decide +kernel
theorem dX10_text_6 : decode cX10_text 6 = .ok (.getfield 78, 3) := by decide +kernel
theorem dX10_text_9 : decode cX10_text 9 = .ok (.if_icmp .le 6, 3) := by decide +kernel
theorem dX10_text_12 : decode cX10_text 12 = .ok (.bipush (-2), 2) := by decide +kernel
theorem dX10_text_14 : decode cX10_text 14 = .ok (.ireturn, 1) := by decide +kernel
theorem dX10_text_15 : decode cX10_text 15 = .ok (.aload_n 0, 1) := by decide +kernel
theorem dX10_text_16 : decode cX10_text 16 = .ok (.getfield 16, 3) := by decide +kernel
theorem dX10_text_19 : decode cX10_text 19 = .ok (.aload_n 0, 1) := by decide +kernel
theorem dX10_text_20 : decode cX10_text 20 = .ok (.getfield 9, 3) := by decide +kernel
theorem dX10_text_23 : decode cX10_text 23 = .ok (.iload_n 1, 1) := by decide +kernel
theorem dX10_text_24 : decode cX10_text 24 = .ok (.aload_n 0, 1) := by decide +kernel
theorem dX10_text_25 : decode cX10_text 25 = .ok (.getfield 27, 3) := by decide +kernel
theorem dX10_text_28 : decode cX10_text 28 = .ok (.invokevirtual 86, 3) := by decide +kernel
theorem dX10_text_31 : decode cX10_text 31 = .ok (.istore_n 2, 1) := by decide +kernel
theorem dX10_text_32 : decode cX10_text 32 = .ok (.aload_n 0, 1) := by decide +kernel
theorem dX10_text_33 : decode cX10_text 33 = .ok (.iconst 0, 1) := by decide +kernel
theorem dX10_text_34 : decode cX10_text 34 = .ok (.putfield 78, 3) := by decide +kernel
theorem dX10_text_37 : decode cX10_text 37 = .ok (.iload_n 2, 1) := by decide +kernel
theorem dX10_text_38 : decode cX10_text 38 = .ok (.ifCond .ge 5, 3) := by decide +kernel
theorem dX10_text_41 : decode cX10_text 41 = .ok (.iconst (-1), 1) := by decide +kernel
theorem dX10_text_42 : decode cX10_text 42 = .ok (.ireturn, 1) := by decide +kernel
theorem dX10_text_43 : decode cX10_text 43 = .ok (.aload_n 0, 1) := by decide +kernel
theorem dX10_text_44 : decode cX10_text 44 = .ok (.getfield 23, 3) := by decide +kernel
theorem dX10_text_47 : decode cX10_text 47 = .ok (.astore_n 3, 1) := by decide +kernel
theorem dX10_text_48 : decode cX10_text 48 = .ok (.aload_n 0, 1) := by decide +kernel
theorem dX10_text_49 : decode cX10_text 49 = .ok (.aload_n 0, 1) := by decide +kernel
theorem dX10_text_50 : decode cX10_text 50 = .ok (.getfield 27, 3) := by decide +kernel
theorem dX10_text_53 : decode cX10_text 53 = .ok (.putfield 23, 3) := by decide +kernel
theorem dX10_text_56 : decode cX10_text 56 = .ok (.aload_n 0, 1) := by decide +kernel
theorem dX10_text_57 : decode cX10_text 57 = .ok (.aload_n 3, 1) := by decide +kernel
theorem dX10_text_58 : decode cX10_text 58 = .ok (.putfield 27, 3) := by decide +kernel
theorem dX10_text_61 : decode cX10_text 61 = .ok (.aload_n 0, 1) := by decide +kernel
theorem dX10_text_62 : decode cX10_text 62 = .ok (.getfield 47, 3) := by decide +kernel
theorem dX10_text_65 : decode cX10_text 65 = .ok (.invokevirtual 90, 3) := by decide +kernel
theorem dX10_text_68 : decode cX10_text 68 = .ok (.aload_n 0, 1) := by decide +kernel
theorem dX10_text_69 : decode cX10_text 69 = .ok (.iconst 0, 1) := by decide +kernel
theorem dX10_text_70 : decode cX10_text 70 = .ok (.putfield 93, 3) := by decide +kernel
theorem dX10_text_73 : decode cX10_text 73 = .ok (.aload_n 0, 1) := by decide +kernel
theorem dX10_text_74 : decode cX10_text 74 = .ok (.getfield 60, 3) := by decide +kernel
theorem dX10_text_77 : decode cX10_text 77 = .ok (.invokevirtual 97, 3) := by decide +kernel
theorem dX10_text_80 : decode cX10_text 80 = .ok (.aload_n 0, 1) := by decide +kernel
theorem dX10_text_81 : decode cX10_text 81 = .ok (.getfield 33, 3) := by decide +kernel
theorem dX10_text_84 : decode cX10_text 84 = .ok (.invokevirtual 100, 3) := by decide +kernel
theorem dX10_text_87 : decode cX10_text 87 = .ok (.iload_n 2, 1) := by decide +kernel
theorem dX10_text_88 : decode cX10_text 88 = .ok (.ireturn, 1) := by decide +kernel
theorem dX10_fault_0 : decode cX10_fault 0 = .ok (.iload_n 1, 1) := by decide +kernel
theorem dX10_fault_1 : decode cX10_fault 1 = .ok (.lookupswitch 43 #[(0, 27), (1, 35)], 27) := by decide +kernel
theorem dX10_fault_28 : decode cX10_fault 28 = .ok (.aload_n 0, 1) := by decide +kernel
theorem dX10_fault_29 : decode cX10_fault 29 = .ok (.getfield 16, 3) := by decide +kernel
theorem dX10_fault_32 : decode cX10_fault 32 = .ok (.getfield 101, 3) := by decide +kernel
theorem dX10_fault_35 : decode cX10_fault 35 = .ok (.ireturn, 1) := by decide +kernel
theorem dX10_fault_36 : decode cX10_fault 36 = .ok (.aload_n 0, 1) := by decide +kernel
theorem dX10_fault_37 : decode cX10_fault 37 = .ok (.getfield 16, 3) := by decide +kernel
theorem dX10_fault_40 : decode cX10_fault 40 = .ok (.getfield 104, 3) := by decide +kernel
theorem dX10_fault_43 : decode cX10_fault 43 = .ok (.ireturn, 1) := by decide +kernel
theorem dX10_fault_44 : decode cX10_fault 44 = .ok (.iconst (-1), 1) := by decide +kernel
theorem dX10_fault_45 : decode cX10_fault 45 = .ok (.ireturn, 1) := by decide +kernel
theorem dX10_named_0 : decode cX10_named 0 = .ok (.aload_n 0, 1) := by decide +kernel
theorem dX10_named_1 : decode cX10_named 1 = .ok (.getfield 23, 3) := by decide +kernel
theorem dX10_named_4 : decode cX10_named 4 = .ok (.iload_n 1, 1) := by decide +kernel
theorem dX10_named_5 : decode cX10_named 5 = .ok (.invokevirtual 107, 3) := by decide +kernel
theorem dX10_named_8 : decode cX10_named 8 = .ok (.ireturn, 1) := by decide +kernel
theorem dX10_bird_0 : decode cX10_bird 0 = .ok (.aload_n 0, 1) := by decide +kernel
theorem dX10_bird_1 : decode cX10_bird 1 = .ok (.iload_n 1, 1) := by decide +kernel
theorem dX10_bird_2 : decode cX10_bird 2 = .ok (.invokevirtual 111, 3) := by decide +kernel
theorem dX10_bird_5 : decode cX10_bird 5 = .ok (.ifCond .ne 13, 3) := by decide +kernel
theorem dX10_bird_8 : decode cX10_bird 8 = .ok (.new 115, 3) := by decide +kernel
theorem dX10_bird_11 : decode cX10_bird 11 = .ok (.dup, 1) := by decide +kernel
theorem dX10_bird_12 : decode cX10_bird 12 = .ok (.ldc 117, 2) := by decide +kernel
theorem dX10_bird_14 : decode cX10_bird 14 = .ok (.invokespecial 119, 3) := by decide +kernel
theorem dX10_bird_17 : decode cX10_bird 17 = .ok (.athrow, 1) := by decide +kernel
theorem dX10_bird_18 : decode cX10_bird 18 = .ok (.iload_n 2, 1) := by decide +kernel
theorem dX10_bird_19 : decode cX10_bird 19 = .ok (.ifCond .lt 9, 3) := by decide +kernel
theorem dX10_bird_22 : decode cX10_bird 22 = .ok (.iload_n 2, 1) := by decide +kernel
theorem dX10_bird_23 : decode cX10_bird 23 = .ok (.bipush 10, 2) := by decide +kernel
theorem dX10_bird_25 : decode cX10_bird 25 = .ok (.if_icmp .le 13, 3) := by decide +kernel
theorem dX10_bird_28 : decode cX10_bird 28 = .ok (.new 122, 3) := by decide +kernel
theorem dX10_bird_31 : decode cX10_bird 31 = .ok (.dup, 1) := by decide +kernel
theorem dX10_bird_32 : decode cX10_bird 32 = .ok (.ldc 124, 2) := by decide +kernel
theorem dX10_bird_34 : decode cX10_bird 34 = .ok (.invokespecial 126, 3) := by decide +kernel
theorem dX10_bird_37 : decode cX10_bird 37 = .ok (.athrow, 1) := by decide +kernel
theorem dX10_bird_38 : decode cX10_bird 38 = .ok (.aload_n 0, 1) := by decide +kernel
theorem dX10_bird_39 : decode cX10_bird 39 = .ok (.getfield 23, 3) := by decide +kernel
theorem dX10_bird_42 : decode cX10_bird 42 = .ok (.getfield 127, 3) := by decide +kernel
theorem dX10_bird_45 : decode cX10_bird 45 = .ok (.iload_n 1, 1) := by decide +kernel
theorem dX10_bird_46 : decode cX10_bird 46 = .ok (.aaload, 1) := by decide +kernel
theorem dX10_bird_47 : decode cX10_bird 47 = .ok (.iload_n 2, 1) := by decide +kernel
theorem dX10_bird_48 : decode cX10_bird 48 = .ok (.invokevirtual 131, 3) := by decide +kernel
theorem dX10_bird_51 : decode cX10_bird 51 = .ok (.ireturn, 1) := by decide +kernel
theorem dX10_isBird_0 : decode cX10_isBird 0 = .ok (.iload_n 1, 1) := by decide +kernel
theorem dX10_isBird_1 : decode cX10_isBird 1 = .ok (.ifCond .lt 18, 3) := by decide +kernel
theorem dX10_isBird_4 : decode cX10_isBird 4 = .ok (.iload_n 1, 1) := by decide +kernel
theorem dX10_isBird_5 : decode cX10_isBird 5 = .ok (.aload_n 0, 1) := by decide +kernel
theorem dX10_isBird_6 : decode cX10_isBird 6 = .ok (.getfield 23, 3) := by decide +kernel
theorem dX10_isBird_9 : decode cX10_isBird 9 = .ok (.getfield 135, 3) := by decide +kernel
theorem dX10_isBird_12 : decode cX10_isBird 12 = .ok (.if_icmp .ge 7, 3) := by decide +kernel
theorem dX10_isBird_15 : decode cX10_isBird 15 = .ok (.iconst 1, 1) := by decide +kernel
theorem dX10_isBird_16 : decode cX10_isBird 16 = .ok (.goto 4, 3) := by decide +kernel
theorem dX10_isBird_19 : decode cX10_isBird 19 = .ok (.iconst 0, 1) := by decide +kernel
theorem dX10_isBird_20 : decode cX10_isBird 20 = .ok (.ireturn, 1) := by decide +kernel
theorem dX10_isPeriod_0 : decode cX10_isPeriod 0 = .ok (.iload_n 0, 1) := by decide +kernel
theorem dX10_isPeriod_1 : decode cX10_isPeriod 1 = .ok (.ifCond .lt 14, 3) := by decide +kernel
theorem dX10_isPeriod_4 : decode cX10_isPeriod 4 = .ok (.iload_n 0, 1) := by decide +kernel
theorem dX10_isPeriod_5 : decode cX10_isPeriod 5 = .ok (.sipush 200, 3) := by decide +kernel
theorem dX10_isPeriod_8 : decode cX10_isPeriod 8 = .ok (.if_icmp .ge 7, 3) := by decide +kernel
theorem dX10_isPeriod_11 : decode cX10_isPeriod 11 = .ok (.iconst 1, 1) := by decide +kernel
theorem dX10_isPeriod_12 : decode cX10_isPeriod 12 = .ok (.goto 4, 3) := by decide +kernel
theorem dX10_isPeriod_15 : decode cX10_isPeriod 15 = .ok (.iconst 0, 1) := by decide +kernel
theorem dX10_isPeriod_16 : decode cX10_isPeriod 16 = .ok (.ireturn, 1) := by decide +kernel
theorem dX10_arePeriods_0 : decode cX10_arePeriods 0 = .ok (.iload_n 0, 1) := by decide +kernel
theorem dX10_arePeriods_1 : decode cX10_arePeriods 1 = .ok (.invokestatic 138, 3) := by decide +kernel
theorem dX10_arePeriods_4 : decode cX10_arePeriods 4 = .ok (.ifCond .eq 26, 3) := by decide +kernel
theorem dX10_arePeriods_7 : decode cX10_arePeriods 7 = .ok (.iload_n 1, 1) := by decide +kernel
theorem dX10_arePeriods_8 : decode cX10_arePeriods 8 = .ok (.iconst 1, 1) := by decide +kernel
theorem dX10_arePeriods_9 : decode cX10_arePeriods 9 = .ok (.if_icmp .lt 21, 3) := by decide +kernel
theorem dX10_arePeriods_12 : decode cX10_arePeriods 12 = .ok (.iload_n 1, 1) := by decide +kernel
theorem dX10_arePeriods_13 : decode cX10_arePeriods 13 = .ok (.iload_n 2, 1) := by decide +kernel
theorem dX10_arePeriods_14 : decode cX10_arePeriods 14 = .ok (.if_icmp .gt 16, 3) := by decide +kernel
theorem dX10_arePeriods_17 : decode cX10_arePeriods 17 = .ok (.iload_n 0, 1) := by decide +kernel
theorem dX10_arePeriods_18 : decode cX10_arePeriods 18 = .ok (.iload_n 1, 1) := by decide +kernel
theorem dX10_arePeriods_19 : decode cX10_arePeriods 19 = .ok (.iadd, 1) := by decide +kernel
theorem dX10_arePeriods_20 : decode cX10_arePeriods 20 = .ok (.sipush 200, 3) := by decide +kernel
theorem dX10_arePeriods_23 : decode cX10_arePeriods 23 = .ok (.if_icmp .gt 7, 3) := by decide +kernel
theorem dX10_arePeriods_26 : decode cX10_arePeriods 26 = .ok (.iconst 1, 1) := by decide +kernel
theorem dX10_arePeriods_27 : decode cX10_arePeriods 27 = .ok (.goto 4, 3) := by decide +kernel
theorem dX10_arePeriods_30 : decode cX10_arePeriods 30 = .ok (.iconst 0, 1) := by decide +kernel
theorem dX10_arePeriods_31 : decode cX10_arePeriods 31 = .ok (.ireturn, 1) := by decide +kernel
theorem dX10_chip_0 : decode cX10_chip 0 = .ok (.aload_n 0, 1) := by decide +kernel
theorem dX10_chip_1 : decode cX10_chip 1 = .ok (.iload_n 1, 1) := by decide +kernel
theorem dX10_chip_2 : decode cX10_chip 2 = .ok (.invokevirtual 111, 3) := by decide +kernel
theorem dX10_chip_5 : decode cX10_chip 5 = .ok (.ifCond .eq 13, 3) := by decide +kernel
theorem dX10_chip_8 : decode cX10_chip 8 = .ok (.iload_n 2, 1) := by decide +kernel
theorem dX10_chip_9 : decode cX10_chip 9 = .ok (.ifCond .lt 9, 3) := by decide +kernel
theorem dX10_chip_12 : decode cX10_chip 12 = .ok (.iload_n 2, 1) := by decide +kernel
theorem dX10_chip_13 : decode cX10_chip 13 = .ok (.bipush 31, 2) := by decide +kernel
theorem dX10_chip_15 : decode cX10_chip 15 = .ok (.if_icmp .lt 5, 3) := by decide +kernel
theorem dX10_chip_18 : decode cX10_chip 18 = .ok (.iconst 0, 1) := by decide +kernel
theorem dX10_chip_19 : decode cX10_chip 19 = .ok (.ireturn, 1) := by decide +kernel
theorem dX10_chip_20 : decode cX10_chip 20 = .ok (.aload_n 0, 1) := by decide +kernel
theorem dX10_chip_21 : decode cX10_chip 21 = .ok (.getfield 23, 3) := by decide +kernel
theorem dX10_chip_24 : decode cX10_chip 24 = .ok (.getfield 127, 3) := by decide +kernel
theorem dX10_chip_27 : decode cX10_chip 27 = .ok (.iload_n 1, 1) := by decide +kernel
theorem dX10_chip_28 : decode cX10_chip 28 = .ok (.aaload, 1) := by decide +kernel
theorem dX10_chip_29 : decode cX10_chip 29 = .ok (.getfield 141, 3) := by decide +kernel
theorem dX10_chip_32 : decode cX10_chip 32 = .ok (.iload_n 2, 1) := by decide +kernel
theorem dX10_chip_33 : decode cX10_chip 33 = .ok (.iushr, 1) := by decide +kernel
theorem dX10_chip_34 : decode cX10_chip 34 = .ok (.iconst 1, 1) := by decide +kernel
theorem dX10_chip_35 : decode cX10_chip 35 = .ok (.iand, 1) := by decide +kernel
theorem dX10_chip_36 : decode cX10_chip 36 = .ok (.iconst 1, 1) := by decide +kernel
theorem dX10_chip_37 : decode cX10_chip 37 = .ok (.if_icmp .ne 7, 3) := by decide +kernel
theorem dX10_chip_40 : decode cX10_chip 40 = .ok (.iconst 1, 1) := by decide +kernel
theorem dX10_chip_41 : decode cX10_chip 41 = .ok (.goto 4, 3) := by decide +kernel
theorem dX10_chip_44 : decode cX10_chip 44 = .ok (.iconst (-1), 1) := by decide +kernel
theorem dX10_chip_45 : decode cX10_chip 45 = .ok (.ireturn, 1) := by decide +kernel
theorem dX10_period_0 : decode cX10_period 0 = .ok (.iload_n 1, 1) := by decide +kernel
theorem dX10_period_1 : decode cX10_period 1 = .ok (.iconst 1, 1) := by decide +kernel
theorem dX10_period_2 : decode cX10_period 2 = .ok (.if_icmp .lt 9, 3) := by decide +kernel
theorem dX10_period_5 : decode cX10_period 5 = .ok (.iload_n 1, 1) := by decide +kernel
theorem dX10_period_6 : decode cX10_period 6 = .ok (.bipush 31, 2) := by decide +kernel
theorem dX10_period_8 : decode cX10_period 8 = .ok (.if_icmp .le 5, 3) := by decide +kernel
theorem dX10_period_11 : decode cX10_period 11 = .ok (.iconst (-1), 1) := by decide +kernel
theorem dX10_period_12 : decode cX10_period 12 = .ok (.ireturn, 1) := by decide +kernel
theorem dX10_period_13 : decode cX10_period 13 = .ok (.bipush 31, 2) := by decide +kernel
theorem dX10_period_15 : decode cX10_period 15 = .ok (.istore_n 2, 1) := by decide +kernel
theorem dX10_period_16 : decode cX10_period 16 = .ok (.iconst 1, 1) := by decide +kernel
theorem dX10_period_17 : decode cX10_period 17 = .ok (.istore_n 3, 1) := by decide +kernel
theorem dX10_period_18 : decode cX10_period 18 = .ok (.iload_n 3, 1) := by decide +kernel
theorem dX10_period_19 : decode cX10_period 19 = .ok (.bipush 32, 2) := by decide +kernel
theorem dX10_period_21 : decode cX10_period 21 = .ok (.if_icmp .gt 23, 3) := by decide +kernel
theorem dX10_period_24 : decode cX10_period 24 = .ok (.iload_n 2, 1) := by decide +kernel
theorem dX10_period_25 : decode cX10_period 25 = .ok (.iload_n 1, 1) := by decide +kernel
theorem dX10_period_26 : decode cX10_period 26 = .ok (.invokestatic 144, 3) := by decide +kernel
theorem dX10_period_29 : decode cX10_period 29 = .ok (.istore_n 2, 1) := by decide +kernel
theorem dX10_period_30 : decode cX10_period 30 = .ok (.iload_n 2, 1) := by decide +kernel
theorem dX10_period_31 : decode cX10_period 31 = .ok (.bipush 31, 2) := by decide +kernel
theorem dX10_period_33 : decode cX10_period 33 = .ok (.if_icmp .ne 5, 3) := by decide +kernel
theorem dX10_period_36 : decode cX10_period 36 = .ok (.iload_n 3, 1) := by decide +kernel
theorem dX10_period_37 : decode cX10_period 37 = .ok (.ireturn, 1) := by decide +kernel
theorem dX10_period_38 : decode cX10_period 38 = .ok (.iinc 3 1, 3) := by decide +kernel
theorem dX10_period_41 : decode cX10_period 41 = .ok (.goto (-23), 3) := by decide +kernel
theorem dX10_period_44 : decode cX10_period 44 = .ok (.bipush (-2), 2) := by decide +kernel
theorem dX10_period_46 : decode cX10_period 46 = .ok (.ireturn, 1) := by decide +kernel
theorem dX10_stepped_0 : decode cX10_stepped 0 = .ok (.iload_n 0, 1) := by decide +kernel
theorem dX10_stepped_1 : decode cX10_stepped 1 = .ok (.iload_n 1, 1) := by decide +kernel
theorem dX10_stepped_2 : decode cX10_stepped 2 = .ok (.iand, 1) := by decide +kernel
theorem dX10_stepped_3 : decode cX10_stepped 3 = .ok (.invokestatic 148, 3) := by decide +kernel
theorem dX10_stepped_6 : decode cX10_stepped 6 = .ok (.iconst 1, 1) := by decide +kernel
theorem dX10_stepped_7 : decode cX10_stepped 7 = .ok (.iand, 1) := by decide +kernel
theorem dX10_stepped_8 : decode cX10_stepped 8 = .ok (.istore_n 2, 1) := by decide +kernel
theorem dX10_stepped_9 : decode cX10_stepped 9 = .ok (.iload_n 0, 1) := by decide +kernel
theorem dX10_stepped_10 : decode cX10_stepped 10 = .ok (.iconst 1, 1) := by decide +kernel
theorem dX10_stepped_11 : decode cX10_stepped 11 = .ok (.iushr, 1) := by decide +kernel
theorem dX10_stepped_12 : decode cX10_stepped 12 = .ok (.iload_n 2, 1) := by decide +kernel
theorem dX10_stepped_13 : decode cX10_stepped 13 = .ok (.iconst 4, 1) := by decide +kernel
theorem dX10_stepped_14 : decode cX10_stepped 14 = .ok (.ishl, 1) := by decide +kernel
theorem dX10_stepped_15 : decode cX10_stepped 15 = .ok (.ior, 1) := by decide +kernel
theorem dX10_stepped_16 : decode cX10_stepped 16 = .ok (.ireturn, 1) := by decide +kernel
theorem dX10_goesOut_0 : decode cX10_goesOut 0 = .ok (.bipush 31, 2) := by decide +kernel
theorem dX10_goesOut_2 : decode cX10_goesOut 2 = .ok (.istore_n 1, 1) := by decide +kernel
theorem dX10_goesOut_3 : decode cX10_goesOut 3 = .ok (.iconst 0, 1) := by decide +kernel
theorem dX10_goesOut_4 : decode cX10_goesOut 4 = .ok (.istore_n 2, 1) := by decide +kernel
theorem dX10_goesOut_5 : decode cX10_goesOut 5 = .ok (.iconst 0, 1) := by decide +kernel
theorem dX10_goesOut_6 : decode cX10_goesOut 6 = .ok (.istore_n 3, 1) := by decide +kernel
theorem dX10_goesOut_7 : decode cX10_goesOut 7 = .ok (.iload_n 3, 1) := by decide +kernel
theorem dX10_goesOut_8 : decode cX10_goesOut 8 = .ok (.bipush 31, 2) := by decide +kernel
theorem dX10_goesOut_10 : decode cX10_goesOut 10 = .ok (.if_icmp .ge 23, 3) := by decide +kernel
theorem dX10_goesOut_13 : decode cX10_goesOut 13 = .ok (.iload_n 2, 1) := by decide +kernel
theorem dX10_goesOut_14 : decode cX10_goesOut 14 = .ok (.iload_n 1, 1) := by decide +kernel
theorem dX10_goesOut_15 : decode cX10_goesOut 15 = .ok (.iconst 1, 1) := by decide +kernel
theorem dX10_goesOut_16 : decode cX10_goesOut 16 = .ok (.iand, 1) := by decide +kernel
theorem dX10_goesOut_17 : decode cX10_goesOut 17 = .ok (.iload_n 3, 1) := by decide +kernel
theorem dX10_goesOut_18 : decode cX10_goesOut 18 = .ok (.ishl, 1) := by decide +kernel
theorem dX10_goesOut_19 : decode cX10_goesOut 19 = .ok (.ior, 1) := by decide +kernel
theorem dX10_goesOut_20 : decode cX10_goesOut 20 = .ok (.istore_n 2, 1) := by decide +kernel
theorem dX10_goesOut_21 : decode cX10_goesOut 21 = .ok (.iload_n 1, 1) := by decide +kernel
theorem dX10_goesOut_22 : decode cX10_goesOut 22 = .ok (.iload_n 0, 1) := by decide +kernel
theorem dX10_goesOut_23 : decode cX10_goesOut 23 = .ok (.invokestatic 144, 3) := by decide +kernel
theorem dX10_goesOut_26 : decode cX10_goesOut 26 = .ok (.istore_n 1, 1) := by decide +kernel
theorem dX10_goesOut_27 : decode cX10_goesOut 27 = .ok (.iinc 3 1, 3) := by decide +kernel
theorem dX10_goesOut_30 : decode cX10_goesOut 30 = .ok (.goto (-23), 3) := by decide +kernel
theorem dX10_goesOut_33 : decode cX10_goesOut 33 = .ok (.iload_n 2, 1) := by decide +kernel
theorem dX10_goesOut_34 : decode cX10_goesOut 34 = .ok (.ireturn, 1) := by decide +kernel
theorem dX10_around_0 : decode cX10_around 0 = .ok (.iload_n 0, 1) := by decide +kernel
theorem dX10_around_1 : decode cX10_around 1 = .ok (.iload_n 1, 1) := by decide +kernel
theorem dX10_around_2 : decode cX10_around 2 = .ok (.iushr, 1) := by decide +kernel
theorem dX10_around_3 : decode cX10_around 3 = .ok (.iload_n 0, 1) := by decide +kernel
theorem dX10_around_4 : decode cX10_around 4 = .ok (.bipush 31, 2) := by decide +kernel
theorem dX10_around_6 : decode cX10_around 6 = .ok (.iload_n 1, 1) := by decide +kernel
theorem dX10_around_7 : decode cX10_around 7 = .ok (.isub, 1) := by decide +kernel
theorem dX10_around_8 : decode cX10_around 8 = .ok (.ishl, 1) := by decide +kernel
theorem dX10_around_9 : decode cX10_around 9 = .ok (.ior, 1) := by decide +kernel
theorem dX10_around_10 : decode cX10_around 10 = .ok (.ldc 153, 2) := by decide +kernel
theorem dX10_around_12 : decode cX10_around 12 = .ok (.iand, 1) := by decide +kernel
theorem dX10_around_13 : decode cX10_around 13 = .ok (.ireturn, 1) := by decide +kernel
theorem dX10_crossOf_0 : decode cX10_crossOf 0 = .ok (.bipush 31, 2) := by decide +kernel
theorem dX10_crossOf_2 : decode cX10_crossOf 2 = .ok (.iconst 2, 1) := by decide +kernel
theorem dX10_crossOf_3 : decode cX10_crossOf 3 = .ok (.iload_n 0, 1) := by decide +kernel
theorem dX10_crossOf_4 : decode cX10_crossOf 4 = .ok (.iload_n 1, 1) := by decide +kernel
theorem dX10_crossOf_5 : decode cX10_crossOf 5 = .ok (.iload_n 2, 1) := by decide +kernel
theorem dX10_crossOf_6 : decode cX10_crossOf 6 = .ok (.invokestatic 154, 3) := by decide +kernel
theorem dX10_crossOf_9 : decode cX10_crossOf 9 = .ok (.ixor, 1) := by decide +kernel
theorem dX10_crossOf_10 : decode cX10_crossOf 10 = .ok (.invokestatic 148, 3) := by decide +kernel
theorem dX10_crossOf_13 : decode cX10_crossOf 13 = .ok (.imul, 1) := by decide +kernel
theorem dX10_crossOf_14 : decode cX10_crossOf 14 = .ok (.isub, 1) := by decide +kernel
theorem dX10_crossOf_15 : decode cX10_crossOf 15 = .ok (.ireturn, 1) := by decide +kernel
theorem dX10_worstOf_0 : decode cX10_worstOf 0 = .ok (.iconst 0, 1) := by decide +kernel
theorem dX10_worstOf_1 : decode cX10_worstOf 1 = .ok (.istore_n 3, 1) := by decide +kernel
theorem dX10_worstOf_2 : decode cX10_worstOf 2 = .ok (.iload_n 2, 1) := by decide +kernel
theorem dX10_worstOf_3 : decode cX10_worstOf 3 = .ok (.istore 4, 2) := by decide +kernel
theorem dX10_worstOf_5 : decode cX10_worstOf 5 = .ok (.iload 4, 2) := by decide +kernel
theorem dX10_worstOf_7 : decode cX10_worstOf 7 = .ok (.bipush 31, 2) := by decide +kernel
theorem dX10_worstOf_9 : decode cX10_worstOf 9 = .ok (.if_icmp .ge 24, 3) := by decide +kernel
theorem dX10_worstOf_12 : decode cX10_worstOf 12 = .ok (.iload_n 3, 1) := by decide +kernel
theorem dX10_worstOf_13 : decode cX10_worstOf 13 = .ok (.iload_n 0, 1) := by decide +kernel
theorem dX10_worstOf_14 : decode cX10_worstOf 14 = .ok (.iload_n 1, 1) := by decide +kernel
theorem dX10_worstOf_15 : decode cX10_worstOf 15 = .ok (.iload 4, 2) := by decide +kernel
theorem dX10_worstOf_17 : decode cX10_worstOf 17 = .ok (.invokestatic 157, 3) := by decide +kernel
theorem dX10_worstOf_20 : decode cX10_worstOf 20 = .ok (.invokestatic 161, 3) := by decide +kernel
theorem dX10_worstOf_23 : decode cX10_worstOf 23 = .ok (.invokestatic 166, 3) := by decide +kernel
theorem dX10_worstOf_26 : decode cX10_worstOf 26 = .ok (.istore_n 3, 1) := by decide +kernel
theorem dX10_worstOf_27 : decode cX10_worstOf 27 = .ok (.iinc 4 1, 3) := by decide +kernel
theorem dX10_worstOf_30 : decode cX10_worstOf 30 = .ok (.goto (-25), 3) := by decide +kernel
theorem dX10_worstOf_33 : decode cX10_worstOf 33 = .ok (.iload_n 3, 1) := by decide +kernel
theorem dX10_worstOf_34 : decode cX10_worstOf 34 = .ok (.ireturn, 1) := by decide +kernel
theorem dX10_cross_0 : decode cX10_cross 0 = .ok (.aload_n 0, 1) := by decide +kernel
theorem dX10_cross_1 : decode cX10_cross 1 = .ok (.iload_n 1, 1) := by decide +kernel
theorem dX10_cross_2 : decode cX10_cross 2 = .ok (.invokevirtual 111, 3) := by decide +kernel
theorem dX10_cross_5 : decode cX10_cross 5 = .ok (.ifCond .eq 21, 3) := by decide +kernel
theorem dX10_cross_8 : decode cX10_cross 8 = .ok (.aload_n 0, 1) := by decide +kernel
theorem dX10_cross_9 : decode cX10_cross 9 = .ok (.iload_n 2, 1) := by decide +kernel
theorem dX10_cross_10 : decode cX10_cross 10 = .ok (.invokevirtual 111, 3) := by decide +kernel
theorem dX10_cross_13 : decode cX10_cross 13 = .ok (.ifCond .eq 13, 3) := by decide +kernel
theorem dX10_cross_16 : decode cX10_cross 16 = .ok (.iload_n 3, 1) := by decide +kernel
theorem dX10_cross_17 : decode cX10_cross 17 = .ok (.ifCond .lt 9, 3) := by decide +kernel
theorem dX10_cross_20 : decode cX10_cross 20 = .ok (.iload_n 3, 1) := by decide +kernel
theorem dX10_cross_21 : decode cX10_cross 21 = .ok (.bipush 31, 2) := by decide +kernel
theorem dX10_cross_23 : decode cX10_cross 23 = .ok (.if_icmp .lt 6, 3) := by decide +kernel
theorem dX10_cross_26 : decode cX10_cross 26 = .ok (.bipush (-99), 2) := by decide +kernel
theorem dX10_cross_28 : decode cX10_cross 28 = .ok (.ireturn, 1) := by decide +kernel
theorem dX10_cross_29 : decode cX10_cross 29 = .ok (.aload_n 0, 1) := by decide +kernel
theorem dX10_cross_30 : decode cX10_cross 30 = .ok (.getfield 23, 3) := by decide +kernel
theorem dX10_cross_33 : decode cX10_cross 33 = .ok (.getfield 127, 3) := by decide +kernel
theorem dX10_cross_36 : decode cX10_cross 36 = .ok (.iload_n 1, 1) := by decide +kernel
theorem dX10_cross_37 : decode cX10_cross 37 = .ok (.aaload, 1) := by decide +kernel
theorem dX10_cross_38 : decode cX10_cross 38 = .ok (.getfield 141, 3) := by decide +kernel
theorem dX10_cross_41 : decode cX10_cross 41 = .ok (.aload_n 0, 1) := by decide +kernel
theorem dX10_cross_42 : decode cX10_cross 42 = .ok (.getfield 23, 3) := by decide +kernel
theorem dX10_cross_45 : decode cX10_cross 45 = .ok (.getfield 127, 3) := by decide +kernel
theorem dX10_cross_48 : decode cX10_cross 48 = .ok (.iload_n 2, 1) := by decide +kernel
theorem dX10_cross_49 : decode cX10_cross 49 = .ok (.aaload, 1) := by decide +kernel
theorem dX10_cross_50 : decode cX10_cross 50 = .ok (.getfield 141, 3) := by decide +kernel
theorem dX10_cross_53 : decode cX10_cross 53 = .ok (.iload_n 3, 1) := by decide +kernel
theorem dX10_cross_54 : decode cX10_cross 54 = .ok (.invokestatic 157, 3) := by decide +kernel
theorem dX10_cross_57 : decode cX10_cross 57 = .ok (.ireturn, 1) := by decide +kernel
theorem dX10_worst_0 : decode cX10_worst 0 = .ok (.aload_n 0, 1) := by decide +kernel
theorem dX10_worst_1 : decode cX10_worst 1 = .ok (.iload_n 1, 1) := by decide +kernel
theorem dX10_worst_2 : decode cX10_worst 2 = .ok (.invokevirtual 111, 3) := by decide +kernel
theorem dX10_worst_5 : decode cX10_worst 5 = .ok (.ifCond .eq 11, 3) := by decide +kernel
theorem dX10_worst_8 : decode cX10_worst 8 = .ok (.aload_n 0, 1) := by decide +kernel
theorem dX10_worst_9 : decode cX10_worst 9 = .ok (.iload_n 2, 1) := by decide +kernel
theorem dX10_worst_10 : decode cX10_worst 10 = .ok (.invokevirtual 111, 3) := by decide +kernel
theorem dX10_worst_13 : decode cX10_worst 13 = .ok (.ifCond .ne 6, 3) := by decide +kernel
theorem dX10_worst_16 : decode cX10_worst 16 = .ok (.bipush (-2), 2) := by decide +kernel
theorem dX10_worst_18 : decode cX10_worst 18 = .ok (.ireturn, 1) := by decide +kernel
theorem dX10_worst_19 : decode cX10_worst 19 = .ok (.aload_n 0, 1) := by decide +kernel
theorem dX10_worst_20 : decode cX10_worst 20 = .ok (.getfield 23, 3) := by decide +kernel
theorem dX10_worst_23 : decode cX10_worst 23 = .ok (.getfield 127, 3) := by decide +kernel
theorem dX10_worst_26 : decode cX10_worst 26 = .ok (.iload_n 1, 1) := by decide +kernel
theorem dX10_worst_27 : decode cX10_worst 27 = .ok (.aaload, 1) := by decide +kernel
theorem dX10_worst_28 : decode cX10_worst 28 = .ok (.getfield 141, 3) := by decide +kernel
theorem dX10_worst_31 : decode cX10_worst 31 = .ok (.aload_n 0, 1) := by decide +kernel
theorem dX10_worst_32 : decode cX10_worst 32 = .ok (.getfield 23, 3) := by decide +kernel
theorem dX10_worst_35 : decode cX10_worst 35 = .ok (.getfield 127, 3) := by decide +kernel
theorem dX10_worst_38 : decode cX10_worst 38 = .ok (.iload_n 2, 1) := by decide +kernel
theorem dX10_worst_39 : decode cX10_worst 39 = .ok (.aaload, 1) := by decide +kernel
theorem dX10_worst_40 : decode cX10_worst 40 = .ok (.getfield 141, 3) := by decide +kernel
theorem dX10_worst_43 : decode cX10_worst 43 = .ok (.iload_n 1, 1) := by decide +kernel
theorem dX10_worst_44 : decode cX10_worst 44 = .ok (.iload_n 2, 1) := by decide +kernel
theorem dX10_worst_45 : decode cX10_worst 45 = .ok (.if_icmp .ne 7, 3) := by decide +kernel
theorem dX10_worst_48 : decode cX10_worst 48 = .ok (.iconst 1, 1) := by decide +kernel
theorem dX10_worst_49 : decode cX10_worst 49 = .ok (.goto 4, 3) := by decide +kernel
theorem dX10_worst_52 : decode cX10_worst 52 = .ok (.iconst 0, 1) := by decide +kernel
theorem dX10_worst_53 : decode cX10_worst 53 = .ok (.invokestatic 169, 3) := by decide +kernel
theorem dX10_worst_56 : decode cX10_worst 56 = .ok (.ireturn, 1) := by decide +kernel
theorem dX10_quiet_0 : decode cX10_quiet 0 = .ok (.iconst 0, 1) := by decide +kernel
theorem dX10_quiet_1 : decode cX10_quiet 1 = .ok (.istore_n 1, 1) := by decide +kernel
theorem dX10_quiet_2 : decode cX10_quiet 2 = .ok (.bipush 32, 2) := by decide +kernel
theorem dX10_quiet_4 : decode cX10_quiet 4 = .ok (.istore_n 2, 1) := by decide +kernel
theorem dX10_quiet_5 : decode cX10_quiet 5 = .ok (.iconst 0, 1) := by decide +kernel
theorem dX10_quiet_6 : decode cX10_quiet 6 = .ok (.istore_n 3, 1) := by decide +kernel
theorem dX10_quiet_7 : decode cX10_quiet 7 = .ok (.iload_n 3, 1) := by decide +kernel
theorem dX10_quiet_8 : decode cX10_quiet 8 = .ok (.bipush 31, 2) := by decide +kernel
theorem dX10_quiet_10 : decode cX10_quiet 10 = .ok (.if_icmp .ge 80, 3) := by decide +kernel
theorem dX10_quiet_13 : decode cX10_quiet 13 = .ok (.aload_n 0, 1) := by decide +kernel
theorem dX10_quiet_14 : decode cX10_quiet 14 = .ok (.getfield 23, 3) := by decide +kernel
theorem dX10_quiet_17 : decode cX10_quiet 17 = .ok (.iload_n 3, 1) := by decide +kernel
theorem dX10_quiet_18 : decode cX10_quiet 18 = .ok (.invokevirtual 172, 3) := by decide +kernel
theorem dX10_quiet_21 : decode cX10_quiet 21 = .ok (.istore 4, 2) := by decide +kernel
theorem dX10_quiet_23 : decode cX10_quiet 23 = .ok (.iconst 0, 1) := by decide +kernel
theorem dX10_quiet_24 : decode cX10_quiet 24 = .ok (.istore 5, 2) := by decide +kernel
theorem dX10_quiet_26 : decode cX10_quiet 26 = .ok (.iconst 0, 1) := by decide +kernel
theorem dX10_quiet_27 : decode cX10_quiet 27 = .ok (.istore 6, 2) := by decide +kernel
theorem dX10_quiet_29 : decode cX10_quiet 29 = .ok (.iload 6, 2) := by decide +kernel
theorem dX10_quiet_31 : decode cX10_quiet 31 = .ok (.aload_n 0, 1) := by decide +kernel
theorem dX10_quiet_32 : decode cX10_quiet 32 = .ok (.getfield 23, 3) := by decide +kernel
theorem dX10_quiet_35 : decode cX10_quiet 35 = .ok (.getfield 135, 3) := by decide +kernel
theorem dX10_quiet_38 : decode cX10_quiet 38 = .ok (.if_icmp .ge 35, 3) := by decide +kernel
theorem dX10_quiet_41 : decode cX10_quiet 41 = .ok (.iload 5, 2) := by decide +kernel
theorem dX10_quiet_43 : decode cX10_quiet 43 = .ok (.iload 4, 2) := by decide +kernel
theorem dX10_quiet_45 : decode cX10_quiet 45 = .ok (.aload_n 0, 1) := by decide +kernel
theorem dX10_quiet_46 : decode cX10_quiet 46 = .ok (.getfield 23, 3) := by decide +kernel
theorem dX10_quiet_49 : decode cX10_quiet 49 = .ok (.getfield 127, 3) := by decide +kernel
theorem dX10_quiet_52 : decode cX10_quiet 52 = .ok (.iload 6, 2) := by decide +kernel
theorem dX10_quiet_54 : decode cX10_quiet 54 = .ok (.aaload, 1) := by decide +kernel
theorem dX10_quiet_55 : decode cX10_quiet 55 = .ok (.getfield 141, 3) := by decide +kernel
theorem dX10_quiet_58 : decode cX10_quiet 58 = .ok (.iconst 0, 1) := by decide +kernel
theorem dX10_quiet_59 : decode cX10_quiet 59 = .ok (.invokestatic 169, 3) := by decide +kernel
theorem dX10_quiet_62 : decode cX10_quiet 62 = .ok (.invokestatic 166, 3) := by decide +kernel
theorem dX10_quiet_65 : decode cX10_quiet 65 = .ok (.istore 5, 2) := by decide +kernel
theorem dX10_quiet_67 : decode cX10_quiet 67 = .ok (.iinc 6 1, 3) := by decide +kernel
theorem dX10_quiet_70 : decode cX10_quiet 70 = .ok (.goto (-41), 3) := by decide +kernel
theorem dX10_quiet_73 : decode cX10_quiet 73 = .ok (.iload 5, 2) := by decide +kernel
theorem dX10_quiet_75 : decode cX10_quiet 75 = .ok (.iload_n 2, 1) := by decide +kernel
theorem dX10_quiet_76 : decode cX10_quiet 76 = .ok (.if_icmp .ge 8, 3) := by decide +kernel
theorem dX10_quiet_79 : decode cX10_quiet 79 = .ok (.iload 5, 2) := by decide +kernel
theorem dX10_quiet_81 : decode cX10_quiet 81 = .ok (.istore_n 2, 1) := by decide +kernel
theorem dX10_quiet_82 : decode cX10_quiet 82 = .ok (.iload_n 3, 1) := by decide +kernel
theorem dX10_quiet_83 : decode cX10_quiet 83 = .ok (.istore_n 1, 1) := by decide +kernel
theorem dX10_quiet_84 : decode cX10_quiet 84 = .ok (.iinc 3 1, 3) := by decide +kernel
theorem dX10_quiet_87 : decode cX10_quiet 87 = .ok (.goto (-80), 3) := by decide +kernel
theorem dX10_quiet_90 : decode cX10_quiet 90 = .ok (.iload_n 1, 1) := by decide +kernel
theorem dX10_quiet_91 : decode cX10_quiet 91 = .ok (.ireturn, 1) := by decide +kernel
theorem dX10_sample_0 : decode cX10_sample 0 = .ok (.iload_n 1, 1) := by decide +kernel
theorem dX10_sample_1 : decode cX10_sample 1 = .ok (.ifCond .lt 19, 3) := by decide +kernel
theorem dX10_sample_4 : decode cX10_sample 4 = .ok (.iload_n 1, 1) := by decide +kernel
theorem dX10_sample_5 : decode cX10_sample 5 = .ok (.sipush 12400, 3) := by decide +kernel
theorem dX10_sample_8 : decode cX10_sample 8 = .ok (.if_icmp .ge 12, 3) := by decide +kernel
theorem dX10_sample_11 : decode cX10_sample 11 = .ok (.iload_n 2, 1) := by decide +kernel
theorem dX10_sample_12 : decode cX10_sample 12 = .ok (.ifCond .lt 8, 3) := by decide +kernel
theorem dX10_sample_15 : decode cX10_sample 15 = .ok (.iload_n 2, 1) := by decide +kernel
theorem dX10_sample_16 : decode cX10_sample 16 = .ok (.iconst 1, 1) := by decide +kernel
theorem dX10_sample_17 : decode cX10_sample 17 = .ok (.if_icmp .le 5, 3) := by decide +kernel
theorem dX10_sample_20 : decode cX10_sample 20 = .ok (.iconst 0, 1) := by decide +kernel
theorem dX10_sample_21 : decode cX10_sample 21 = .ok (.ireturn, 1) := by decide +kernel
theorem dX10_sample_22 : decode cX10_sample 22 = .ok (.aload_n 0, 1) := by decide +kernel
theorem dX10_sample_23 : decode cX10_sample 23 = .ok (.getfield 33, 3) := by decide +kernel
theorem dX10_sample_26 : decode cX10_sample 26 = .ok (.aload_n 0, 1) := by decide +kernel
theorem dX10_sample_27 : decode cX10_sample 27 = .ok (.getfield 23, 3) := by decide +kernel
theorem dX10_sample_30 : decode cX10_sample 30 = .ok (.iload_n 1, 1) := by decide +kernel
theorem dX10_sample_31 : decode cX10_sample 31 = .ok (.bipush 62, 2) := by decide +kernel
theorem dX10_sample_33 : decode cX10_sample 33 = .ok (.idiv, 1) := by decide +kernel
theorem dX10_sample_34 : decode cX10_sample 34 = .ok (.invokevirtual 175, 3) := by decide +kernel
theorem dX10_sample_37 : decode cX10_sample 37 = .ok (.iload_n 2, 1) := by decide +kernel
theorem dX10_sample_38 : decode cX10_sample 38 = .ok (.ifCond .ne 18, 3) := by decide +kernel
theorem dX10_sample_41 : decode cX10_sample 41 = .ok (.aload_n 0, 1) := by decide +kernel
theorem dX10_sample_42 : decode cX10_sample 42 = .ok (.getfield 33, 3) := by decide +kernel
theorem dX10_sample_45 : decode cX10_sample 45 = .ok (.getfield 179, 3) := by decide +kernel
theorem dX10_sample_48 : decode cX10_sample 48 = .ok (.iload_n 1, 1) := by decide +kernel
theorem dX10_sample_49 : decode cX10_sample 49 = .ok (.bipush 62, 2) := by decide +kernel
theorem dX10_sample_51 : decode cX10_sample 51 = .ok (.irem, 1) := by decide +kernel
theorem dX10_sample_52 : decode cX10_sample 52 = .ok (.iaload, 1) := by decide +kernel
theorem dX10_sample_53 : decode cX10_sample 53 = .ok (.goto 15, 3) := by decide +kernel
theorem dX10_sample_56 : decode cX10_sample 56 = .ok (.aload_n 0, 1) := by decide +kernel
theorem dX10_sample_57 : decode cX10_sample 57 = .ok (.getfield 33, 3) := by decide +kernel
theorem dX10_sample_60 : decode cX10_sample 60 = .ok (.getfield 182, 3) := by decide +kernel
theorem dX10_sample_63 : decode cX10_sample 63 = .ok (.iload_n 1, 1) := by decide +kernel
theorem dX10_sample_64 : decode cX10_sample 64 = .ok (.bipush 62, 2) := by decide +kernel
theorem dX10_sample_66 : decode cX10_sample 66 = .ok (.irem, 1) := by decide +kernel
theorem dX10_sample_67 : decode cX10_sample 67 = .ok (.iaload, 1) := by decide +kernel
theorem dX10_sample_68 : decode cX10_sample 68 = .ok (.ireturn, 1) := by decide +kernel
theorem dX10_bit_0 : decode cX10_bit 0 = .ok (.aload_n 0, 1) := by decide +kernel
theorem dX10_bit_1 : decode cX10_bit 1 = .ok (.iload_n 1, 1) := by decide +kernel
theorem dX10_bit_2 : decode cX10_bit 2 = .ok (.invokevirtual 111, 3) := by decide +kernel
theorem dX10_bit_5 : decode cX10_bit 5 = .ok (.ifCond .eq 14, 3) := by decide +kernel
theorem dX10_bit_8 : decode cX10_bit 8 = .ok (.iload_n 2, 1) := by decide +kernel
theorem dX10_bit_9 : decode cX10_bit 9 = .ok (.ifCond .lt 10, 3) := by decide +kernel
theorem dX10_bit_12 : decode cX10_bit 12 = .ok (.iload_n 2, 1) := by decide +kernel
theorem dX10_bit_13 : decode cX10_bit 13 = .ok (.sipush 199, 3) := by decide +kernel
theorem dX10_bit_16 : decode cX10_bit 16 = .ok (.if_icmp .le 5, 3) := by decide +kernel
theorem dX10_bit_19 : decode cX10_bit 19 = .ok (.iconst (-1), 1) := by decide +kernel
theorem dX10_bit_20 : decode cX10_bit 20 = .ok (.ireturn, 1) := by decide +kernel
theorem dX10_bit_21 : decode cX10_bit 21 = .ok (.aload_n 0, 1) := by decide +kernel
theorem dX10_bit_22 : decode cX10_bit 22 = .ok (.getfield 23, 3) := by decide +kernel
theorem dX10_bit_25 : decode cX10_bit 25 = .ok (.getfield 127, 3) := by decide +kernel
theorem dX10_bit_28 : decode cX10_bit 28 = .ok (.iload_n 1, 1) := by decide +kernel
theorem dX10_bit_29 : decode cX10_bit 29 = .ok (.aaload, 1) := by decide +kernel
theorem dX10_bit_30 : decode cX10_bit 30 = .ok (.iload_n 2, 1) := by decide +kernel
theorem dX10_bit_31 : decode cX10_bit 31 = .ok (.invokevirtual 185, 3) := by decide +kernel
theorem dX10_bit_34 : decode cX10_bit 34 = .ok (.ireturn, 1) := by decide +kernel
theorem dX10_sum_0 : decode cX10_sum 0 = .ok (.aload_n 0, 1) := by decide +kernel
theorem dX10_sum_1 : decode cX10_sum 1 = .ok (.iload_n 1, 1) := by decide +kernel
theorem dX10_sum_2 : decode cX10_sum 2 = .ok (.invokevirtual 111, 3) := by decide +kernel
theorem dX10_sum_5 : decode cX10_sum 5 = .ok (.ifCond .eq 44, 3) := by decide +kernel
theorem dX10_sum_8 : decode cX10_sum 8 = .ok (.iload_n 2, 1) := by decide +kernel
theorem dX10_sum_9 : decode cX10_sum 9 = .ok (.invokestatic 138, 3) := by decide +kernel
theorem dX10_sum_12 : decode cX10_sum 12 = .ok (.ifCond .eq 37, 3) := by decide +kernel
theorem dX10_sum_15 : decode cX10_sum 15 = .ok (.iload_n 3, 1) := by decide +kernel
theorem dX10_sum_16 : decode cX10_sum 16 = .ok (.ifCond .lt 33, 3) := by decide +kernel
theorem dX10_sum_19 : decode cX10_sum 19 = .ok (.iload_n 3, 1) := by decide +kernel
theorem dX10_sum_20 : decode cX10_sum 20 = .ok (.sipush 930, 3) := by decide +kernel
theorem dX10_sum_23 : decode cX10_sum 23 = .ok (.if_icmp .ge 26, 3) := by decide +kernel
theorem dX10_sum_26 : decode cX10_sum 26 = .ok (.iload 4, 2) := by decide +kernel
theorem dX10_sum_28 : decode cX10_sum 28 = .ok (.ifCond .lt 21, 3) := by decide +kernel
theorem dX10_sum_31 : decode cX10_sum 31 = .ok (.iload 4, 2) := by decide +kernel
theorem dX10_sum_33 : decode cX10_sum 33 = .ok (.bipush 16, 2) := by decide +kernel
theorem dX10_sum_35 : decode cX10_sum 35 = .ok (.if_icmp .ge 14, 3) := by decide +kernel
theorem dX10_sum_38 : decode cX10_sum 38 = .ok (.iload 5, 2) := by decide +kernel
theorem dX10_sum_40 : decode cX10_sum 40 = .ok (.ifCond .lt 9, 3) := by decide +kernel
theorem dX10_sum_43 : decode cX10_sum 43 = .ok (.iload 5, 2) := by decide +kernel
theorem dX10_sum_45 : decode cX10_sum 45 = .ok (.iconst 2, 1) := by decide +kernel
theorem dX10_sum_46 : decode cX10_sum 46 = .ok (.if_icmp .le 5, 3) := by decide +kernel
theorem dX10_sum_49 : decode cX10_sum 49 = .ok (.iconst 0, 1) := by decide +kernel
theorem dX10_sum_50 : decode cX10_sum 50 = .ok (.ireturn, 1) := by decide +kernel
theorem dX10_sum_51 : decode cX10_sum 51 = .ok (.aload_n 0, 1) := by decide +kernel
theorem dX10_sum_52 : decode cX10_sum 52 = .ok (.getfield 33, 3) := by decide +kernel
theorem dX10_sum_55 : decode cX10_sum 55 = .ok (.aload_n 0, 1) := by decide +kernel
theorem dX10_sum_56 : decode cX10_sum 56 = .ok (.getfield 23, 3) := by decide +kernel
theorem dX10_sum_59 : decode cX10_sum 59 = .ok (.iload_n 2, 1) := by decide +kernel
theorem dX10_sum_60 : decode cX10_sum 60 = .ok (.invokevirtual 175, 3) := by decide +kernel
theorem dX10_sum_63 : decode cX10_sum 63 = .ok (.aload_n 0, 1) := by decide +kernel
theorem dX10_sum_64 : decode cX10_sum 64 = .ok (.getfield 33, 3) := by decide +kernel
theorem dX10_sum_67 : decode cX10_sum 67 = .ok (.aload_n 0, 1) := by decide +kernel
theorem dX10_sum_68 : decode cX10_sum 68 = .ok (.getfield 23, 3) := by decide +kernel
theorem dX10_sum_71 : decode cX10_sum 71 = .ok (.getfield 127, 3) := by decide +kernel
theorem dX10_sum_74 : decode cX10_sum 74 = .ok (.iload_n 1, 1) := by decide +kernel
theorem dX10_sum_75 : decode cX10_sum 75 = .ok (.aaload, 1) := by decide +kernel
theorem dX10_sum_76 : decode cX10_sum 76 = .ok (.getfield 141, 3) := by decide +kernel
theorem dX10_sum_79 : decode cX10_sum 79 = .ok (.invokevirtual 188, 3) := by decide +kernel
theorem dX10_sum_82 : decode cX10_sum 82 = .ok (.aload_n 0, 1) := by decide +kernel
theorem dX10_sum_83 : decode cX10_sum 83 = .ok (.getfield 33, 3) := by decide +kernel
theorem dX10_sum_86 : decode cX10_sum 86 = .ok (.iload_n 2, 1) := by decide +kernel
theorem dX10_sum_87 : decode cX10_sum 87 = .ok (.iload_n 3, 1) := by decide +kernel
theorem dX10_sum_88 : decode cX10_sum 88 = .ok (.bipush 62, 2) := by decide +kernel
theorem dX10_sum_90 : decode cX10_sum 90 = .ok (.idiv, 1) := by decide +kernel
theorem dX10_sum_91 : decode cX10_sum 91 = .ok (.iload 4, 2) := by decide +kernel
theorem dX10_sum_93 : decode cX10_sum 93 = .ok (.invokevirtual 191, 3) := by decide +kernel
theorem dX10_sum_96 : decode cX10_sum 96 = .ok (.aload_n 0, 1) := by decide +kernel
theorem dX10_sum_97 : decode cX10_sum 97 = .ok (.getfield 33, 3) := by decide +kernel
theorem dX10_sum_100 : decode cX10_sum 100 = .ok (.iload_n 3, 1) := by decide +kernel
theorem dX10_sum_101 : decode cX10_sum 101 = .ok (.bipush 62, 2) := by decide +kernel
theorem dX10_sum_103 : decode cX10_sum 103 = .ok (.irem, 1) := by decide +kernel
theorem dX10_sum_104 : decode cX10_sum 104 = .ok (.invokevirtual 195, 3) := by decide +kernel
theorem dX10_sum_107 : decode cX10_sum 107 = .ok (.iload 5, 2) := by decide +kernel
theorem dX10_sum_109 : decode cX10_sum 109 = .ok (.lookupswitch 43 #[(0, 27), (1, 35)], 27) := by decide +kernel
theorem dX10_sum_136 : decode cX10_sum 136 = .ok (.aload_n 0, 1) := by decide +kernel
theorem dX10_sum_137 : decode cX10_sum 137 = .ok (.getfield 33, 3) := by decide +kernel
theorem dX10_sum_140 : decode cX10_sum 140 = .ok (.getfield 198, 3) := by decide +kernel
theorem dX10_sum_143 : decode cX10_sum 143 = .ok (.ireturn, 1) := by decide +kernel
theorem dX10_sum_144 : decode cX10_sum 144 = .ok (.aload_n 0, 1) := by decide +kernel
theorem dX10_sum_145 : decode cX10_sum 145 = .ok (.getfield 33, 3) := by decide +kernel
theorem dX10_sum_148 : decode cX10_sum 148 = .ok (.getfield 201, 3) := by decide +kernel
theorem dX10_sum_151 : decode cX10_sum 151 = .ok (.ireturn, 1) := by decide +kernel
theorem dX10_sum_152 : decode cX10_sum 152 = .ok (.aload_n 0, 1) := by decide +kernel
theorem dX10_sum_153 : decode cX10_sum 153 = .ok (.getfield 33, 3) := by decide +kernel
theorem dX10_sum_156 : decode cX10_sum 156 = .ok (.invokevirtual 204, 3) := by decide +kernel
theorem dX10_sum_159 : decode cX10_sum 159 = .ok (.ireturn, 1) := by decide +kernel
theorem dX10_huntOver_0 : decode cX10_huntOver 0 = .ok (.aload_n 0, 1) := by decide +kernel
theorem dX10_huntOver_1 : decode cX10_huntOver 1 = .ok (.getfield 40, 3) := by decide +kernel
theorem dX10_huntOver_4 : decode cX10_huntOver 4 = .ok (.invokevirtual 208, 3) := by decide +kernel
theorem dX10_huntOver_7 : decode cX10_huntOver 7 = .ok (.iconst 0, 1) := by decide +kernel
theorem dX10_huntOver_8 : decode cX10_huntOver 8 = .ok (.istore 4, 2) := by decide +kernel
theorem dX10_huntOver_10 : decode cX10_huntOver 10 = .ok (.iload 4, 2) := by decide +kernel
theorem dX10_huntOver_12 : decode cX10_huntOver 12 = .ok (.iload_n 3, 1) := by decide +kernel
theorem dX10_huntOver_13 : decode cX10_huntOver 13 = .ok (.if_icmp .ge 51, 3) := by decide +kernel
theorem dX10_huntOver_16 : decode cX10_huntOver 16 = .ok (.aload_n 0, 1) := by decide +kernel
theorem dX10_huntOver_17 : decode cX10_huntOver 17 = .ok (.getfield 33, 3) := by decide +kernel
theorem dX10_huntOver_20 : decode cX10_huntOver 20 = .ok (.aload_n 0, 1) := by decide +kernel
theorem dX10_huntOver_21 : decode cX10_huntOver 21 = .ok (.getfield 23, 3) := by decide +kernel
theorem dX10_huntOver_24 : decode cX10_huntOver 24 = .ok (.iload_n 2, 1) := by decide +kernel
theorem dX10_huntOver_25 : decode cX10_huntOver 25 = .ok (.iload 4, 2) := by decide +kernel
theorem dX10_huntOver_27 : decode cX10_huntOver 27 = .ok (.iadd, 1) := by decide +kernel
theorem dX10_huntOver_28 : decode cX10_huntOver 28 = .ok (.invokevirtual 175, 3) := by decide +kernel
theorem dX10_huntOver_31 : decode cX10_huntOver 31 = .ok (.aload_n 0, 1) := by decide +kernel
theorem dX10_huntOver_32 : decode cX10_huntOver 32 = .ok (.getfield 40, 3) := by decide +kernel
theorem dX10_huntOver_35 : decode cX10_huntOver 35 = .ok (.aload_n 0, 1) := by decide +kernel
theorem dX10_huntOver_36 : decode cX10_huntOver 36 = .ok (.getfield 33, 3) := by decide +kernel
theorem dX10_huntOver_39 : decode cX10_huntOver 39 = .ok (.aload_n 0, 1) := by decide +kernel
theorem dX10_huntOver_40 : decode cX10_huntOver 40 = .ok (.getfield 23, 3) := by decide +kernel
theorem dX10_huntOver_43 : decode cX10_huntOver 43 = .ok (.getfield 127, 3) := by decide +kernel
theorem dX10_huntOver_46 : decode cX10_huntOver 46 = .ok (.iload_n 1, 1) := by decide +kernel
theorem dX10_huntOver_47 : decode cX10_huntOver 47 = .ok (.aaload, 1) := by decide +kernel
theorem dX10_huntOver_48 : decode cX10_huntOver 48 = .ok (.getfield 141, 3) := by decide +kernel
theorem dX10_huntOver_51 : decode cX10_huntOver 51 = .ok (.iload_n 2, 1) := by decide +kernel
theorem dX10_huntOver_52 : decode cX10_huntOver 52 = .ok (.iload 4, 2) := by decide +kernel
theorem dX10_huntOver_54 : decode cX10_huntOver 54 = .ok (.iadd, 1) := by decide +kernel
theorem dX10_huntOver_55 : decode cX10_huntOver 55 = .ok (.invokevirtual 211, 3) := by decide +kernel
theorem dX10_huntOver_58 : decode cX10_huntOver 58 = .ok (.iinc 4 1, 3) := by decide +kernel
theorem dX10_huntOver_61 : decode cX10_huntOver 61 = .ok (.goto (-51), 3) := by decide +kernel
theorem dX10_huntOver_64 : decode cX10_huntOver 64 = .ok (.aload_n 0, 1) := by decide +kernel
theorem dX10_huntOver_65 : decode cX10_huntOver 65 = .ok (.getfield 40, 3) := by decide +kernel
theorem dX10_huntOver_68 : decode cX10_huntOver 68 = .ok (.invokevirtual 215, 3) := by decide +kernel
theorem dX10_huntOver_71 : decode cX10_huntOver 71 = .ok (.return_, 1) := by decide +kernel
theorem dX10_isAcquiredAs_0 : decode cX10_isAcquiredAs 0 = .ok (.aload_n 0, 1) := by decide +kernel
theorem dX10_isAcquiredAs_1 : decode cX10_isAcquiredAs 1 = .ok (.getfield 33, 3) := by decide +kernel
theorem dX10_isAcquiredAs_4 : decode cX10_isAcquiredAs 4 = .ok (.aload_n 0, 1) := by decide +kernel
theorem dX10_isAcquiredAs_5 : decode cX10_isAcquiredAs 5 = .ok (.getfield 23, 3) := by decide +kernel
theorem dX10_isAcquiredAs_8 : decode cX10_isAcquiredAs 8 = .ok (.iload_n 2, 1) := by decide +kernel
theorem dX10_isAcquiredAs_9 : decode cX10_isAcquiredAs 9 = .ok (.iload_n 3, 1) := by decide +kernel
theorem dX10_isAcquiredAs_10 : decode cX10_isAcquiredAs 10 = .ok (.iload 4, 2) := by decide +kernel
theorem dX10_isAcquiredAs_12 : decode cX10_isAcquiredAs 12 = .ok (.iload 5, 2) := by decide +kernel
theorem dX10_isAcquiredAs_14 : decode cX10_isAcquiredAs 14 = .ok (.invokevirtual 218, 3) := by decide +kernel
theorem dX10_isAcquiredAs_17 : decode cX10_isAcquiredAs 17 = .ok (.aload_n 0, 1) := by decide +kernel
theorem dX10_isAcquiredAs_18 : decode cX10_isAcquiredAs 18 = .ok (.getfield 40, 3) := by decide +kernel
theorem dX10_isAcquiredAs_21 : decode cX10_isAcquiredAs 21 = .ok (.invokevirtual 208, 3) := by decide +kernel
theorem dX10_isAcquiredAs_24 : decode cX10_isAcquiredAs 24 = .ok (.aload_n 0, 1) := by decide +kernel
theorem dX10_isAcquiredAs_25 : decode cX10_isAcquiredAs 25 = .ok (.getfield 40, 3) := by decide +kernel
theorem dX10_isAcquiredAs_28 : decode cX10_isAcquiredAs 28 = .ok (.aload_n 0, 1) := by decide +kernel
theorem dX10_isAcquiredAs_29 : decode cX10_isAcquiredAs 29 = .ok (.getfield 33, 3) := by decide +kernel
theorem dX10_isAcquiredAs_32 : decode cX10_isAcquiredAs 32 = .ok (.aload_n 0, 1) := by decide +kernel
theorem dX10_isAcquiredAs_33 : decode cX10_isAcquiredAs 33 = .ok (.getfield 23, 3) := by decide +kernel
theorem dX10_isAcquiredAs_36 : decode cX10_isAcquiredAs 36 = .ok (.getfield 127, 3) := by decide +kernel
theorem dX10_isAcquiredAs_39 : decode cX10_isAcquiredAs 39 = .ok (.iload_n 1, 1) := by decide +kernel
theorem dX10_isAcquiredAs_40 : decode cX10_isAcquiredAs 40 = .ok (.aaload, 1) := by decide +kernel
theorem dX10_isAcquiredAs_41 : decode cX10_isAcquiredAs 41 = .ok (.getfield 141, 3) := by decide +kernel
theorem dX10_isAcquiredAs_44 : decode cX10_isAcquiredAs 44 = .ok (.iload_n 2, 1) := by decide +kernel
theorem dX10_isAcquiredAs_45 : decode cX10_isAcquiredAs 45 = .ok (.invokevirtual 211, 3) := by decide +kernel
theorem dX10_isAcquiredAs_48 : decode cX10_isAcquiredAs 48 = .ok (.aload_n 0, 1) := by decide +kernel
theorem dX10_isAcquiredAs_49 : decode cX10_isAcquiredAs 49 = .ok (.getfield 40, 3) := by decide +kernel
theorem dX10_isAcquiredAs_52 : decode cX10_isAcquiredAs 52 = .ok (.invokevirtual 215, 3) := by decide +kernel
theorem dX10_isAcquiredAs_55 : decode cX10_isAcquiredAs 55 = .ok (.aload_n 0, 1) := by decide +kernel
theorem dX10_isAcquiredAs_56 : decode cX10_isAcquiredAs 56 = .ok (.getfield 40, 3) := by decide +kernel
theorem dX10_isAcquiredAs_59 : decode cX10_isAcquiredAs 59 = .ok (.aload_n 0, 1) := by decide +kernel
theorem dX10_isAcquiredAs_60 : decode cX10_isAcquiredAs 60 = .ok (.getfield 23, 3) := by decide +kernel
theorem dX10_isAcquiredAs_63 : decode cX10_isAcquiredAs 63 = .ok (.getfield 222, 3) := by decide +kernel
theorem dX10_isAcquiredAs_66 : decode cX10_isAcquiredAs 66 = .ok (.invokevirtual 225, 3) := by decide +kernel
theorem dX10_isAcquiredAs_69 : decode cX10_isAcquiredAs 69 = .ok (.ireturn, 1) := by decide +kernel
theorem dX10_isPeakRight_0 : decode cX10_isPeakRight 0 = .ok (.aload_n 0, 1) := by decide +kernel
theorem dX10_isPeakRight_1 : decode cX10_isPeakRight 1 = .ok (.getfield 23, 3) := by decide +kernel
theorem dX10_isPeakRight_4 : decode cX10_isPeakRight 4 = .ok (.getfield 127, 3) := by decide +kernel
theorem dX10_isPeakRight_7 : decode cX10_isPeakRight 7 = .ok (.iload_n 1, 1) := by decide +kernel
theorem dX10_isPeakRight_8 : decode cX10_isPeakRight 8 = .ok (.aaload, 1) := by decide +kernel
theorem dX10_isPeakRight_9 : decode cX10_isPeakRight 9 = .ok (.astore_n 3, 1) := by decide +kernel
theorem dX10_isPeakRight_10 : decode cX10_isPeakRight 10 = .ok (.aload_n 3, 1) := by decide +kernel
theorem dX10_isPeakRight_11 : decode cX10_isPeakRight 11 = .ok (.invokevirtual 228, 3) := by decide +kernel
theorem dX10_isPeakRight_14 : decode cX10_isPeakRight 14 = .ok (.ifCond .eq 33, 3) := by decide +kernel
theorem dX10_isPeakRight_17 : decode cX10_isPeakRight 17 = .ok (.aload_n 0, 1) := by decide +kernel
theorem dX10_isPeakRight_18 : decode cX10_isPeakRight 18 = .ok (.getfield 40, 3) := by decide +kernel
theorem dX10_isPeakRight_21 : decode cX10_isPeakRight 21 = .ok (.getfield 232, 3) := by decide +kernel
theorem dX10_isPeakRight_24 : decode cX10_isPeakRight 24 = .ok (.bipush 62, 2) := by decide +kernel
theorem dX10_isPeakRight_26 : decode cX10_isPeakRight 26 = .ok (.aload_n 3, 1) := by decide +kernel
theorem dX10_isPeakRight_27 : decode cX10_isPeakRight 27 = .ok (.getfield 235, 3) := by decide +kernel
theorem dX10_isPeakRight_30 : decode cX10_isPeakRight 30 = .ok (.imul, 1) := by decide +kernel
theorem dX10_isPeakRight_31 : decode cX10_isPeakRight 31 = .ok (.aload_n 3, 1) := by decide +kernel
theorem dX10_isPeakRight_32 : decode cX10_isPeakRight 32 = .ok (.iload_n 2, 1) := by decide +kernel
theorem dX10_isPeakRight_33 : decode cX10_isPeakRight 33 = .ok (.invokevirtual 238, 3) := by decide +kernel
theorem dX10_isPeakRight_36 : decode cX10_isPeakRight 36 = .ok (.bipush 62, 2) := by decide +kernel
theorem dX10_isPeakRight_38 : decode cX10_isPeakRight 38 = .ok (.irem, 1) := by decide +kernel
theorem dX10_isPeakRight_39 : decode cX10_isPeakRight 39 = .ok (.iadd, 1) := by decide +kernel
theorem dX10_isPeakRight_40 : decode cX10_isPeakRight 40 = .ok (.if_icmp .ne 7, 3) := by decide +kernel
theorem dX10_isPeakRight_43 : decode cX10_isPeakRight 43 = .ok (.iconst 1, 1) := by decide +kernel
theorem dX10_isPeakRight_44 : decode cX10_isPeakRight 44 = .ok (.goto 4, 3) := by decide +kernel
theorem dX10_isPeakRight_47 : decode cX10_isPeakRight 47 = .ok (.iconst 0, 1) := by decide +kernel
theorem dX10_isPeakRight_48 : decode cX10_isPeakRight 48 = .ok (.ireturn, 1) := by decide +kernel
theorem dX10_hunt_0 : decode cX10_hunt 0 = .ok (.aload_n 0, 1) := by decide +kernel
theorem dX10_hunt_1 : decode cX10_hunt 1 = .ok (.iload_n 1, 1) := by decide +kernel
theorem dX10_hunt_2 : decode cX10_hunt 2 = .ok (.invokevirtual 111, 3) := by decide +kernel
theorem dX10_hunt_5 : decode cX10_hunt 5 = .ok (.ifCond .eq 23, 3) := by decide +kernel
theorem dX10_hunt_8 : decode cX10_hunt 8 = .ok (.iload_n 2, 1) := by decide +kernel
theorem dX10_hunt_9 : decode cX10_hunt 9 = .ok (.iload_n 3, 1) := by decide +kernel
theorem dX10_hunt_10 : decode cX10_hunt 10 = .ok (.iconst 4, 1) := by decide +kernel
theorem dX10_hunt_11 : decode cX10_hunt 11 = .ok (.invokestatic 241, 3) := by decide +kernel
theorem dX10_hunt_14 : decode cX10_hunt 14 = .ok (.ifCond .eq 14, 3) := by decide +kernel
theorem dX10_hunt_17 : decode cX10_hunt 17 = .ok (.iload 4, 2) := by decide +kernel
theorem dX10_hunt_19 : decode cX10_hunt 19 = .ok (.ifCond .lt 9, 3) := by decide +kernel
theorem dX10_hunt_22 : decode cX10_hunt 22 = .ok (.iload 4, 2) := by decide +kernel
theorem dX10_hunt_24 : decode cX10_hunt 24 = .ok (.iconst 3, 1) := by decide +kernel
theorem dX10_hunt_25 : decode cX10_hunt 25 = .ok (.if_icmp .le 5, 3) := by decide +kernel
theorem dX10_hunt_28 : decode cX10_hunt 28 = .ok (.iconst (-1), 1) := by decide +kernel
theorem dX10_hunt_29 : decode cX10_hunt 29 = .ok (.ireturn, 1) := by decide +kernel
theorem dX10_hunt_30 : decode cX10_hunt 30 = .ok (.aload_n 0, 1) := by decide +kernel
theorem dX10_hunt_31 : decode cX10_hunt 31 = .ok (.iload_n 1, 1) := by decide +kernel
theorem dX10_hunt_32 : decode cX10_hunt 32 = .ok (.iload_n 2, 1) := by decide +kernel
theorem dX10_hunt_33 : decode cX10_hunt 33 = .ok (.iload_n 3, 1) := by decide +kernel
theorem dX10_hunt_34 : decode cX10_hunt 34 = .ok (.invokevirtual 245, 3) := by decide +kernel
theorem dX10_hunt_37 : decode cX10_hunt 37 = .ok (.iload 4, 2) := by decide +kernel
theorem dX10_hunt_39 : decode cX10_hunt 39 = .ok (.tableswitch 49 0 2 #[25, 33, 41], 25) := by decide +kernel
theorem dX10_hunt_64 : decode cX10_hunt 64 = .ok (.aload_n 0, 1) := by decide +kernel
theorem dX10_hunt_65 : decode cX10_hunt 65 = .ok (.getfield 40, 3) := by decide +kernel
theorem dX10_hunt_68 : decode cX10_hunt 68 = .ok (.getfield 232, 3) := by decide +kernel
theorem dX10_hunt_71 : decode cX10_hunt 71 = .ok (.ireturn, 1) := by decide +kernel
theorem dX10_hunt_72 : decode cX10_hunt 72 = .ok (.aload_n 0, 1) := by decide +kernel
theorem dX10_hunt_73 : decode cX10_hunt 73 = .ok (.getfield 40, 3) := by decide +kernel
theorem dX10_hunt_76 : decode cX10_hunt 76 = .ok (.getfield 248, 3) := by decide +kernel
theorem dX10_hunt_79 : decode cX10_hunt 79 = .ok (.ireturn, 1) := by decide +kernel
theorem dX10_hunt_80 : decode cX10_hunt 80 = .ok (.aload_n 0, 1) := by decide +kernel
theorem dX10_hunt_81 : decode cX10_hunt 81 = .ok (.getfield 40, 3) := by decide +kernel
theorem dX10_hunt_84 : decode cX10_hunt 84 = .ok (.getfield 251, 3) := by decide +kernel
theorem dX10_hunt_87 : decode cX10_hunt 87 = .ok (.ireturn, 1) := by decide +kernel
theorem dX10_hunt_88 : decode cX10_hunt 88 = .ok (.aload_n 0, 1) := by decide +kernel
theorem dX10_hunt_89 : decode cX10_hunt 89 = .ok (.getfield 40, 3) := by decide +kernel
theorem dX10_hunt_92 : decode cX10_hunt 92 = .ok (.aload_n 0, 1) := by decide +kernel
theorem dX10_hunt_93 : decode cX10_hunt 93 = .ok (.getfield 23, 3) := by decide +kernel
theorem dX10_hunt_96 : decode cX10_hunt 96 = .ok (.getfield 222, 3) := by decide +kernel
theorem dX10_hunt_99 : decode cX10_hunt 99 = .ok (.invokevirtual 225, 3) := by decide +kernel
theorem dX10_hunt_102 : decode cX10_hunt 102 = .ok (.ifCond .eq 7, 3) := by decide +kernel
theorem dX10_hunt_105 : decode cX10_hunt 105 = .ok (.iconst 1, 1) := by decide +kernel
theorem dX10_hunt_106 : decode cX10_hunt 106 = .ok (.goto 4, 3) := by decide +kernel
theorem dX10_hunt_109 : decode cX10_hunt 109 = .ok (.iconst 0, 1) := by decide +kernel
theorem dX10_hunt_110 : decode cX10_hunt 110 = .ok (.ireturn, 1) := by decide +kernel
theorem dX10_listen_0 : decode cX10_listen 0 = .ok (.aload_n 0, 1) := by decide +kernel
theorem dX10_listen_1 : decode cX10_listen 1 = .ok (.iload_n 1, 1) := by decide +kernel
theorem dX10_listen_2 : decode cX10_listen 2 = .ok (.invokevirtual 111, 3) := by decide +kernel
theorem dX10_listen_5 : decode cX10_listen 5 = .ok (.ifCond .eq 10, 3) := by decide +kernel
theorem dX10_listen_8 : decode cX10_listen 8 = .ok (.iload_n 2, 1) := by decide +kernel
theorem dX10_listen_9 : decode cX10_listen 9 = .ok (.invokestatic 138, 3) := by decide +kernel
theorem dX10_listen_12 : decode cX10_listen 12 = .ok (.ifCond .ne 5, 3) := by decide +kernel
theorem dX10_listen_15 : decode cX10_listen 15 = .ok (.iconst (-1), 1) := by decide +kernel
theorem dX10_listen_16 : decode cX10_listen 16 = .ok (.ireturn, 1) := by decide +kernel
theorem dX10_listen_17 : decode cX10_listen 17 = .ok (.aload_n 0, 1) := by decide +kernel
theorem dX10_listen_18 : decode cX10_listen 18 = .ok (.getfield 23, 3) := by decide +kernel
theorem dX10_listen_21 : decode cX10_listen 21 = .ok (.getfield 127, 3) := by decide +kernel
theorem dX10_listen_24 : decode cX10_listen 24 = .ok (.iload_n 1, 1) := by decide +kernel
theorem dX10_listen_25 : decode cX10_listen 25 = .ok (.aaload, 1) := by decide +kernel
theorem dX10_listen_26 : decode cX10_listen 26 = .ok (.invokevirtual 228, 3) := by decide +kernel
theorem dX10_listen_29 : decode cX10_listen 29 = .ok (.ifCond .ne 6, 3) := by decide +kernel
theorem dX10_listen_32 : decode cX10_listen 32 = .ok (.bipush (-2), 2) := by decide +kernel
theorem dX10_listen_34 : decode cX10_listen 34 = .ok (.ireturn, 1) := by decide +kernel
theorem dX10_listen_35 : decode cX10_listen 35 = .ok (.aload_n 0, 1) := by decide +kernel
theorem dX10_listen_36 : decode cX10_listen 36 = .ok (.getfield 40, 3) := by decide +kernel
theorem dX10_listen_39 : decode cX10_listen 39 = .ok (.invokevirtual 208, 3) := by decide +kernel
theorem dX10_listen_42 : decode cX10_listen 42 = .ok (.iconst 1, 1) := by decide +kernel
theorem dX10_listen_43 : decode cX10_listen 43 = .ok (.istore_n 3, 1) := by decide +kernel
theorem dX10_listen_44 : decode cX10_listen 44 = .ok (.iload_n 3, 1) := by decide +kernel
theorem dX10_listen_45 : decode cX10_listen 45 = .ok (.iconst 4, 1) := by decide +kernel
theorem dX10_listen_46 : decode cX10_listen 46 = .ok (.if_icmp .gt 98, 3) := by decide +kernel
theorem dX10_listen_49 : decode cX10_listen 49 = .ok (.iload_n 2, 1) := by decide +kernel
theorem dX10_listen_50 : decode cX10_listen 50 = .ok (.iload_n 3, 1) := by decide +kernel
theorem dX10_listen_51 : decode cX10_listen 51 = .ok (.iadd, 1) := by decide +kernel
theorem dX10_listen_52 : decode cX10_listen 52 = .ok (.sipush 200, 3) := by decide +kernel
theorem dX10_listen_55 : decode cX10_listen 55 = .ok (.if_icmp .gt 89, 3) := by decide +kernel
theorem dX10_listen_58 : decode cX10_listen 58 = .ok (.iload_n 2, 1) := by decide +kernel
theorem dX10_listen_59 : decode cX10_listen 59 = .ok (.iload_n 3, 1) := by decide +kernel
theorem dX10_listen_60 : decode cX10_listen 60 = .ok (.iadd, 1) := by decide +kernel
theorem dX10_listen_61 : decode cX10_listen 61 = .ok (.iconst 1, 1) := by decide +kernel
theorem dX10_listen_62 : decode cX10_listen 62 = .ok (.isub, 1) := by decide +kernel
theorem dX10_listen_63 : decode cX10_listen 63 = .ok (.istore 4, 2) := by decide +kernel
theorem dX10_listen_65 : decode cX10_listen 65 = .ok (.aload_n 0, 1) := by decide +kernel
theorem dX10_listen_66 : decode cX10_listen 66 = .ok (.getfield 33, 3) := by decide +kernel
theorem dX10_listen_69 : decode cX10_listen 69 = .ok (.aload_n 0, 1) := by decide +kernel
theorem dX10_listen_70 : decode cX10_listen 70 = .ok (.getfield 23, 3) := by decide +kernel
theorem dX10_listen_73 : decode cX10_listen 73 = .ok (.iload 4, 2) := by decide +kernel
theorem dX10_listen_75 : decode cX10_listen 75 = .ok (.invokevirtual 175, 3) := by decide +kernel
theorem dX10_listen_78 : decode cX10_listen 78 = .ok (.aload_n 0, 1) := by decide +kernel
theorem dX10_listen_79 : decode cX10_listen 79 = .ok (.getfield 40, 3) := by decide +kernel
theorem dX10_listen_82 : decode cX10_listen 82 = .ok (.aload_n 0, 1) := by decide +kernel
theorem dX10_listen_83 : decode cX10_listen 83 = .ok (.getfield 33, 3) := by decide +kernel
theorem dX10_listen_86 : decode cX10_listen 86 = .ok (.aload_n 0, 1) := by decide +kernel
theorem dX10_listen_87 : decode cX10_listen 87 = .ok (.getfield 23, 3) := by decide +kernel
theorem dX10_listen_90 : decode cX10_listen 90 = .ok (.getfield 127, 3) := by decide +kernel
theorem dX10_listen_93 : decode cX10_listen 93 = .ok (.iload_n 1, 1) := by decide +kernel
theorem dX10_listen_94 : decode cX10_listen 94 = .ok (.aaload, 1) := by decide +kernel
theorem dX10_listen_95 : decode cX10_listen 95 = .ok (.getfield 141, 3) := by decide +kernel
theorem dX10_listen_98 : decode cX10_listen 98 = .ok (.iload 4, 2) := by decide +kernel
theorem dX10_listen_100 : decode cX10_listen 100 = .ok (.invokevirtual 211, 3) := by decide +kernel
theorem dX10_listen_103 : decode cX10_listen 103 = .ok (.aload_n 0, 1) := by decide +kernel
theorem dX10_listen_104 : decode cX10_listen 104 = .ok (.getfield 40, 3) := by decide +kernel
theorem dX10_listen_107 : decode cX10_listen 107 = .ok (.invokevirtual 215, 3) := by decide +kernel
theorem dX10_listen_110 : decode cX10_listen 110 = .ok (.aload_n 0, 1) := by decide +kernel
theorem dX10_listen_111 : decode cX10_listen 111 = .ok (.getfield 40, 3) := by decide +kernel
theorem dX10_listen_114 : decode cX10_listen 114 = .ok (.aload_n 0, 1) := by decide +kernel
theorem dX10_listen_115 : decode cX10_listen 115 = .ok (.getfield 23, 3) := by decide +kernel
theorem dX10_listen_118 : decode cX10_listen 118 = .ok (.getfield 222, 3) := by decide +kernel
theorem dX10_listen_121 : decode cX10_listen 121 = .ok (.invokevirtual 225, 3) := by decide +kernel
theorem dX10_listen_124 : decode cX10_listen 124 = .ok (.ifCond .eq 14, 3) := by decide +kernel
theorem dX10_listen_127 : decode cX10_listen 127 = .ok (.aload_n 0, 1) := by decide +kernel
theorem dX10_listen_128 : decode cX10_listen 128 = .ok (.iload_n 1, 1) := by decide +kernel
theorem dX10_listen_129 : decode cX10_listen 129 = .ok (.iload_n 2, 1) := by decide +kernel
theorem dX10_listen_130 : decode cX10_listen 130 = .ok (.invokevirtual 254, 3) := by decide +kernel
theorem dX10_listen_133 : decode cX10_listen 133 = .ok (.ifCond .eq 5, 3) := by decide +kernel
theorem dX10_listen_136 : decode cX10_listen 136 = .ok (.iload_n 3, 1) := by decide +kernel
theorem dX10_listen_137 : decode cX10_listen 137 = .ok (.ireturn, 1) := by decide +kernel
theorem dX10_listen_138 : decode cX10_listen 138 = .ok (.iinc 3 1, 3) := by decide +kernel
theorem dX10_listen_141 : decode cX10_listen 141 = .ok (.goto (-97), 3) := by decide +kernel
theorem dX10_listen_144 : decode cX10_listen 144 = .ok (.bipush (-3), 2) := by decide +kernel
theorem dX10_listen_146 : decode cX10_listen 146 = .ok (.ireturn, 1) := by decide +kernel
theorem dX10_clear_0 : decode cX10_clear 0 = .ok (.aload_n 0, 1) := by decide +kernel
theorem dX10_clear_1 : decode cX10_clear 1 = .ok (.iload_n 1, 1) := by decide +kernel
theorem dX10_clear_2 : decode cX10_clear 2 = .ok (.invokevirtual 111, 3) := by decide +kernel
theorem dX10_clear_5 : decode cX10_clear 5 = .ok (.ifCond .eq 19, 3) := by decide +kernel
theorem dX10_clear_8 : decode cX10_clear 8 = .ok (.iload_n 2, 1) := by decide +kernel
theorem dX10_clear_9 : decode cX10_clear 9 = .ok (.invokestatic 138, 3) := by decide +kernel
theorem dX10_clear_12 : decode cX10_clear 12 = .ok (.ifCond .eq 12, 3) := by decide +kernel
theorem dX10_clear_15 : decode cX10_clear 15 = .ok (.iload_n 3, 1) := by decide +kernel
theorem dX10_clear_16 : decode cX10_clear 16 = .ok (.ifCond .lt 8, 3) := by decide +kernel
theorem dX10_clear_19 : decode cX10_clear 19 = .ok (.iload_n 3, 1) := by decide +kernel
theorem dX10_clear_20 : decode cX10_clear 20 = .ok (.iconst 2, 1) := by decide +kernel
theorem dX10_clear_21 : decode cX10_clear 21 = .ok (.if_icmp .le 5, 3) := by decide +kernel
theorem dX10_clear_24 : decode cX10_clear 24 = .ok (.iconst (-1), 1) := by decide +kernel
theorem dX10_clear_25 : decode cX10_clear 25 = .ok (.ireturn, 1) := by decide +kernel
theorem dX10_clear_26 : decode cX10_clear 26 = .ok (.iload_n 3, 1) := by decide +kernel
theorem dX10_clear_27 : decode cX10_clear 27 = .ok (.iconst 1, 1) := by decide +kernel
theorem dX10_clear_28 : decode cX10_clear 28 = .ok (.if_icmp .ne 13, 3) := by decide +kernel
theorem dX10_clear_31 : decode cX10_clear 31 = .ok (.aload_n 0, 1) := by decide +kernel
theorem dX10_clear_32 : decode cX10_clear 32 = .ok (.getfield 23, 3) := by decide +kernel
theorem dX10_clear_35 : decode cX10_clear 35 = .ok (.getfield 258, 3) := by decide +kernel
theorem dX10_clear_38 : decode cX10_clear 38 = .ok (.goto 4, 3) := by decide +kernel
theorem dX10_clear_41 : decode cX10_clear 41 = .ok (.iconst 0, 1) := by decide +kernel
theorem dX10_clear_42 : decode cX10_clear 42 = .ok (.istore 4, 2) := by decide +kernel
theorem dX10_clear_44 : decode cX10_clear 44 = .ok (.iload_n 3, 1) := by decide +kernel
theorem dX10_clear_45 : decode cX10_clear 45 = .ok (.ifCond .ne 7, 3) := by decide +kernel
theorem dX10_clear_48 : decode cX10_clear 48 = .ok (.iconst (-1), 1) := by decide +kernel
theorem dX10_clear_49 : decode cX10_clear 49 = .ok (.goto 4, 3) := by decide +kernel
theorem dX10_clear_52 : decode cX10_clear 52 = .ok (.iload_n 1, 1) := by decide +kernel
theorem dX10_clear_53 : decode cX10_clear 53 = .ok (.istore 5, 2) := by decide +kernel
theorem dX10_clear_55 : decode cX10_clear 55 = .ok (.aload_n 0, 1) := by decide +kernel
theorem dX10_clear_56 : decode cX10_clear 56 = .ok (.iload_n 1, 1) := by decide +kernel
theorem dX10_clear_57 : decode cX10_clear 57 = .ok (.iload_n 2, 1) := by decide +kernel
theorem dX10_clear_58 : decode cX10_clear 58 = .ok (.iload 4, 2) := by decide +kernel
theorem dX10_clear_60 : decode cX10_clear 60 = .ok (.aload_n 0, 1) := by decide +kernel
theorem dX10_clear_61 : decode cX10_clear 61 = .ok (.getfield 23, 3) := by decide +kernel
theorem dX10_clear_64 : decode cX10_clear 64 = .ok (.getfield 261, 3) := by decide +kernel
theorem dX10_clear_67 : decode cX10_clear 67 = .ok (.iload 5, 2) := by decide +kernel
theorem dX10_clear_69 : decode cX10_clear 69 = .ok (.invokevirtual 264, 3) := by decide +kernel
theorem dX10_clear_72 : decode cX10_clear 72 = .ok (.ifCond .eq 7, 3) := by decide +kernel
theorem dX10_clear_75 : decode cX10_clear 75 = .ok (.iconst 1, 1) := by decide +kernel
theorem dX10_clear_76 : decode cX10_clear 76 = .ok (.goto 4, 3) := by decide +kernel
theorem dX10_clear_79 : decode cX10_clear 79 = .ok (.iconst 0, 1) := by decide +kernel
theorem dX10_clear_80 : decode cX10_clear 80 = .ok (.ireturn, 1) := by decide +kernel
theorem dX10_limit_0 : decode cX10_limit 0 = .ok (.aload_n 0, 1) := by decide +kernel
theorem dX10_limit_1 : decode cX10_limit 1 = .ok (.iload_n 1, 1) := by decide +kernel
theorem dX10_limit_2 : decode cX10_limit 2 = .ok (.invokevirtual 111, 3) := by decide +kernel
theorem dX10_limit_5 : decode cX10_limit 5 = .ok (.ifCond .eq 10, 3) := by decide +kernel
theorem dX10_limit_8 : decode cX10_limit 8 = .ok (.iload_n 2, 1) := by decide +kernel
theorem dX10_limit_9 : decode cX10_limit 9 = .ok (.invokestatic 138, 3) := by decide +kernel
theorem dX10_limit_12 : decode cX10_limit 12 = .ok (.ifCond .ne 5, 3) := by decide +kernel
theorem dX10_limit_15 : decode cX10_limit 15 = .ok (.iconst (-1), 1) := by decide +kernel
theorem dX10_limit_16 : decode cX10_limit 16 = .ok (.ireturn, 1) := by decide +kernel
theorem dX10_limit_17 : decode cX10_limit 17 = .ok (.iconst 0, 1) := by decide +kernel
theorem dX10_limit_18 : decode cX10_limit 18 = .ok (.istore_n 3, 1) := by decide +kernel
theorem dX10_limit_19 : decode cX10_limit 19 = .ok (.iload_n 3, 1) := by decide +kernel
theorem dX10_limit_20 : decode cX10_limit 20 = .ok (.bipush 99, 2) := by decide +kernel
theorem dX10_limit_22 : decode cX10_limit 22 = .ok (.if_icmp .gt 29, 3) := by decide +kernel
theorem dX10_limit_25 : decode cX10_limit 25 = .ok (.aload_n 0, 1) := by decide +kernel
theorem dX10_limit_26 : decode cX10_limit 26 = .ok (.iload_n 1, 1) := by decide +kernel
theorem dX10_limit_27 : decode cX10_limit 27 = .ok (.iload_n 2, 1) := by decide +kernel
theorem dX10_limit_28 : decode cX10_limit 28 = .ok (.iload_n 3, 1) := by decide +kernel
theorem dX10_limit_29 : decode cX10_limit 29 = .ok (.aload_n 0, 1) := by decide +kernel
theorem dX10_limit_30 : decode cX10_limit 30 = .ok (.getfield 23, 3) := by decide +kernel
theorem dX10_limit_33 : decode cX10_limit 33 = .ok (.getfield 261, 3) := by decide +kernel
theorem dX10_limit_36 : decode cX10_limit 36 = .ok (.iconst (-1), 1) := by decide +kernel
theorem dX10_limit_37 : decode cX10_limit 37 = .ok (.invokevirtual 264, 3) := by decide +kernel
theorem dX10_limit_40 : decode cX10_limit 40 = .ok (.ifCond .ne 5, 3) := by decide +kernel
theorem dX10_limit_43 : decode cX10_limit 43 = .ok (.iload_n 3, 1) := by decide +kernel
theorem dX10_limit_44 : decode cX10_limit 44 = .ok (.ireturn, 1) := by decide +kernel
theorem dX10_limit_45 : decode cX10_limit 45 = .ok (.iinc 3 9, 3) := by decide +kernel
theorem dX10_limit_48 : decode cX10_limit 48 = .ok (.goto (-29), 3) := by decide +kernel
theorem dX10_limit_51 : decode cX10_limit 51 = .ok (.bipush (-2), 2) := by decide +kernel
theorem dX10_limit_53 : decode cX10_limit 53 = .ok (.ireturn, 1) := by decide +kernel
theorem dX10_chance_0 : decode cX10_chance 0 = .ok (.aload_n 0, 1) := by decide +kernel
theorem dX10_chance_1 : decode cX10_chance 1 = .ok (.iload_n 1, 1) := by decide +kernel
theorem dX10_chance_2 : decode cX10_chance 2 = .ok (.invokevirtual 111, 3) := by decide +kernel
theorem dX10_chance_5 : decode cX10_chance 5 = .ok (.ifCond .eq 32, 3) := by decide +kernel
theorem dX10_chance_8 : decode cX10_chance 8 = .ok (.iload_n 2, 1) := by decide +kernel
theorem dX10_chance_9 : decode cX10_chance 9 = .ok (.invokestatic 138, 3) := by decide +kernel
theorem dX10_chance_12 : decode cX10_chance 12 = .ok (.ifCond .eq 25, 3) := by decide +kernel
theorem dX10_chance_15 : decode cX10_chance 15 = .ok (.iload_n 3, 1) := by decide +kernel
theorem dX10_chance_16 : decode cX10_chance 16 = .ok (.iconst 1, 1) := by decide +kernel
theorem dX10_chance_17 : decode cX10_chance 17 = .ok (.if_icmp .lt 20, 3) := by decide +kernel
theorem dX10_chance_20 : decode cX10_chance 20 = .ok (.iload_n 3, 1) := by decide +kernel
theorem dX10_chance_21 : decode cX10_chance 21 = .ok (.bipush 10, 2) := by decide +kernel
theorem dX10_chance_23 : decode cX10_chance 23 = .ok (.if_icmp .gt 14, 3) := by decide +kernel
theorem dX10_chance_26 : decode cX10_chance 26 = .ok (.iload 4, 2) := by decide +kernel
theorem dX10_chance_28 : decode cX10_chance 28 = .ok (.ifCond .lt 9, 3) := by decide +kernel
theorem dX10_chance_31 : decode cX10_chance 31 = .ok (.iload 4, 2) := by decide +kernel
theorem dX10_chance_33 : decode cX10_chance 33 = .ok (.iconst 1, 1) := by decide +kernel
theorem dX10_chance_34 : decode cX10_chance 34 = .ok (.if_icmp .le 5, 3) := by decide +kernel
theorem dX10_chance_37 : decode cX10_chance 37 = .ok (.iconst (-1), 1) := by decide +kernel
theorem dX10_chance_38 : decode cX10_chance 38 = .ok (.ireturn, 1) := by decide +kernel
theorem dX10_chance_39 : decode cX10_chance 39 = .ok (.iconst 0, 1) := by decide +kernel
theorem dX10_chance_40 : decode cX10_chance 40 = .ok (.istore 5, 2) := by decide +kernel
theorem dX10_chance_42 : decode cX10_chance 42 = .ok (.aload_n 0, 1) := by decide +kernel
theorem dX10_chance_43 : decode cX10_chance 43 = .ok (.getfield 23, 3) := by decide +kernel
theorem dX10_chance_46 : decode cX10_chance 46 = .ok (.getfield 261, 3) := by decide +kernel
theorem dX10_chance_49 : decode cX10_chance 49 = .ok (.istore 6, 2) := by decide +kernel
theorem dX10_chance_51 : decode cX10_chance 51 = .ok (.iconst 0, 1) := by decide +kernel
theorem dX10_chance_52 : decode cX10_chance 52 = .ok (.istore 7, 2) := by decide +kernel
theorem dX10_chance_54 : decode cX10_chance 54 = .ok (.iload 7, 2) := by decide +kernel
theorem dX10_chance_56 : decode cX10_chance 56 = .ok (.iload_n 3, 1) := by decide +kernel
theorem dX10_chance_57 : decode cX10_chance 57 = .ok (.if_icmp .ge 60, 3) := by decide +kernel
theorem dX10_chance_60 : decode cX10_chance 60 = .ok (.iload 6, 2) := by decide +kernel
theorem dX10_chance_62 : decode cX10_chance 62 = .ok (.invokestatic 268, 3) := by decide +kernel
theorem dX10_chance_65 : decode cX10_chance 65 = .ok (.istore 6, 2) := by decide +kernel
theorem dX10_chance_67 : decode cX10_chance 67 = .ok (.aload_n 0, 1) := by decide +kernel
theorem dX10_chance_68 : decode cX10_chance 68 = .ok (.iload_n 1, 1) := by decide +kernel
theorem dX10_chance_69 : decode cX10_chance 69 = .ok (.iload_n 2, 1) := by decide +kernel
theorem dX10_chance_70 : decode cX10_chance 70 = .ok (.aload_n 0, 1) := by decide +kernel
theorem dX10_chance_71 : decode cX10_chance 71 = .ok (.getfield 23, 3) := by decide +kernel
theorem dX10_chance_74 : decode cX10_chance 74 = .ok (.getfield 258, 3) := by decide +kernel
theorem dX10_chance_77 : decode cX10_chance 77 = .ok (.iload 6, 2) := by decide +kernel
theorem dX10_chance_79 : decode cX10_chance 79 = .ok (.ldc_w 271, 3) := by decide +kernel
theorem dX10_chance_82 : decode cX10_chance 82 = .ok (.irem, 1) := by decide +kernel
theorem dX10_chance_83 : decode cX10_chance 83 = .ok (.iconst (-1), 1) := by decide +kernel
theorem dX10_chance_84 : decode cX10_chance 84 = .ok (.invokevirtual 264, 3) := by decide +kernel
theorem dX10_chance_87 : decode cX10_chance 87 = .ok (.istore 8, 2) := by decide +kernel
theorem dX10_chance_89 : decode cX10_chance 89 = .ok (.iload 8, 2) := by decide +kernel
theorem dX10_chance_91 : decode cX10_chance 91 = .ok (.ifCond .eq 20, 3) := by decide +kernel
theorem dX10_chance_94 : decode cX10_chance 94 = .ok (.iload 4, 2) := by decide +kernel
theorem dX10_chance_96 : decode cX10_chance 96 = .ok (.ifCond .eq 12, 3) := by decide +kernel
theorem dX10_chance_99 : decode cX10_chance 99 = .ok (.aload_n 0, 1) := by decide +kernel
theorem dX10_chance_100 : decode cX10_chance 100 = .ok (.iload_n 1, 1) := by decide +kernel
theorem dX10_chance_101 : decode cX10_chance 101 = .ok (.iload_n 2, 1) := by decide +kernel
theorem dX10_chance_102 : decode cX10_chance 102 = .ok (.invokevirtual 254, 3) := by decide +kernel
theorem dX10_chance_105 : decode cX10_chance 105 = .ok (.ifCond .eq 6, 3) := by decide +kernel
theorem dX10_chance_108 : decode cX10_chance 108 = .ok (.iinc 5 1, 3) := by decide +kernel
theorem dX10_chance_111 : decode cX10_chance 111 = .ok (.iinc 7 1, 3) := by decide +kernel
theorem dX10_chance_114 : decode cX10_chance 114 = .ok (.goto (-60), 3) := by decide +kernel
theorem dX10_chance_117 : decode cX10_chance 117 = .ok (.iload 5, 2) := by decide +kernel
theorem dX10_chance_119 : decode cX10_chance 119 = .ok (.ireturn, 1) := by decide +kernel
theorem dX10_clearest_0 : decode cX10_clearest 0 = .ok (.aload_n 0, 1) := by decide +kernel
theorem dX10_clearest_1 : decode cX10_clearest 1 = .ok (.iload_n 1, 1) := by decide +kernel
theorem dX10_clearest_2 : decode cX10_clearest 2 = .ok (.invokevirtual 111, 3) := by decide +kernel
theorem dX10_clearest_5 : decode cX10_clearest 5 = .ok (.ifCond .eq 13, 3) := by decide +kernel
theorem dX10_clearest_8 : decode cX10_clearest 8 = .ok (.iload_n 2, 1) := by decide +kernel
theorem dX10_clearest_9 : decode cX10_clearest 9 = .ok (.iload_n 3, 1) := by decide +kernel
theorem dX10_clearest_10 : decode cX10_clearest 10 = .ok (.bipush 8, 2) := by decide +kernel
theorem dX10_clearest_12 : decode cX10_clearest 12 = .ok (.invokestatic 241, 3) := by decide +kernel
theorem dX10_clearest_15 : decode cX10_clearest 15 = .ok (.ifCond .ne 5, 3) := by decide +kernel
theorem dX10_clearest_18 : decode cX10_clearest 18 = .ok (.iconst (-1), 1) := by decide +kernel
theorem dX10_clearest_19 : decode cX10_clearest 19 = .ok (.ireturn, 1) := by decide +kernel
theorem dX10_clearest_20 : decode cX10_clearest 20 = .ok (.iload_n 2, 1) := by decide +kernel
theorem dX10_clearest_21 : decode cX10_clearest 21 = .ok (.istore 4, 2) := by decide +kernel
theorem dX10_clearest_23 : decode cX10_clearest 23 = .ok (.ldc2_w 272, 3) := by decide +kernel
theorem dX10_clearest_26 : decode cX10_clearest 26 = .ok (.lstore 5, 2) := by decide +kernel
theorem dX10_clearest_28 : decode cX10_clearest 28 = .ok (.lconst 1, 1) := by decide +kernel
theorem dX10_clearest_29 : decode cX10_clearest 29 = .ok (.lstore 7, 2) := by decide +kernel
theorem dX10_clearest_31 : decode cX10_clearest 31 = .ok (.iconst 0, 1) := by decide +kernel
theorem dX10_clearest_32 : decode cX10_clearest 32 = .ok (.istore 9, 2) := by decide +kernel
theorem dX10_clearest_34 : decode cX10_clearest 34 = .ok (.iload 9, 2) := by decide +kernel
theorem dX10_clearest_36 : decode cX10_clearest 36 = .ok (.iload_n 3, 1) := by decide +kernel
theorem dX10_clearest_37 : decode cX10_clearest 37 = .ok (.if_icmp .ge 81, 3) := by decide +kernel
theorem dX10_clearest_40 : decode cX10_clearest 40 = .ok (.aload_n 0, 1) := by decide +kernel
theorem dX10_clearest_41 : decode cX10_clearest 41 = .ok (.iload_n 1, 1) := by decide +kernel
theorem dX10_clearest_42 : decode cX10_clearest 42 = .ok (.iload_n 2, 1) := by decide +kernel
theorem dX10_clearest_43 : decode cX10_clearest 43 = .ok (.iload 9, 2) := by decide +kernel
theorem dX10_clearest_45 : decode cX10_clearest 45 = .ok (.iadd, 1) := by decide +kernel
theorem dX10_clearest_46 : decode cX10_clearest 46 = .ok (.iconst 1, 1) := by decide +kernel
theorem dX10_clearest_47 : decode cX10_clearest 47 = .ok (.invokevirtual 245, 3) := by decide +kernel
theorem dX10_clearest_50 : decode cX10_clearest 50 = .ok (.aload_n 0, 1) := by decide +kernel
theorem dX10_clearest_51 : decode cX10_clearest 51 = .ok (.getfield 40, 3) := by decide +kernel
theorem dX10_clearest_54 : decode cX10_clearest 54 = .ok (.getfield 248, 3) := by decide +kernel
theorem dX10_clearest_57 : decode cX10_clearest 57 = .ok (.i2l, 1) := by decide +kernel
theorem dX10_clearest_58 : decode cX10_clearest 58 = .ok (.lstore 10, 2) := by decide +kernel
theorem dX10_clearest_60 : decode cX10_clearest 60 = .ok (.aload_n 0, 1) := by decide +kernel
theorem dX10_clearest_61 : decode cX10_clearest 61 = .ok (.getfield 40, 3) := by decide +kernel
theorem dX10_clearest_64 : decode cX10_clearest 64 = .ok (.getfield 251, 3) := by decide +kernel
theorem dX10_clearest_67 : decode cX10_clearest 67 = .ok (.ifCond .ne 7, 3) := by decide +kernel
theorem dX10_clearest_70 : decode cX10_clearest 70 = .ok (.lconst 1, 1) := by decide +kernel
theorem dX10_clearest_71 : decode cX10_clearest 71 = .ok (.goto 11, 3) := by decide +kernel
theorem dX10_clearest_74 : decode cX10_clearest 74 = .ok (.aload_n 0, 1) := by decide +kernel
theorem dX10_clearest_75 : decode cX10_clearest 75 = .ok (.getfield 40, 3) := by decide +kernel
theorem dX10_clearest_78 : decode cX10_clearest 78 = .ok (.getfield 251, 3) := by decide +kernel
theorem dX10_clearest_81 : decode cX10_clearest 81 = .ok (.i2l, 1) := by decide +kernel
theorem dX10_clearest_82 : decode cX10_clearest 82 = .ok (.lstore 12, 2) := by decide +kernel
theorem dX10_clearest_84 : decode cX10_clearest 84 = .ok (.lload 10, 2) := by decide +kernel
theorem dX10_clearest_86 : decode cX10_clearest 86 = .ok (.lload 7, 2) := by decide +kernel
theorem dX10_clearest_88 : decode cX10_clearest 88 = .ok (.lmul, 1) := by decide +kernel
theorem dX10_clearest_89 : decode cX10_clearest 89 = .ok (.lload 5, 2) := by decide +kernel
theorem dX10_clearest_91 : decode cX10_clearest 91 = .ok (.lload 12, 2) := by decide +kernel
theorem dX10_clearest_93 : decode cX10_clearest 93 = .ok (.lmul, 1) := by decide +kernel
theorem dX10_clearest_94 : decode cX10_clearest 94 = .ok (.lcmp, 1) := by decide +kernel
theorem dX10_clearest_95 : decode cX10_clearest 95 = .ok (.ifCond .le 17, 3) := by decide +kernel
theorem dX10_clearest_98 : decode cX10_clearest 98 = .ok (.iload_n 2, 1) := by decide +kernel
theorem dX10_clearest_99 : decode cX10_clearest 99 = .ok (.iload 9, 2) := by decide +kernel
theorem dX10_clearest_101 : decode cX10_clearest 101 = .ok (.iadd, 1) := by decide +kernel
theorem dX10_clearest_102 : decode cX10_clearest 102 = .ok (.istore 4, 2) := by decide +kernel
theorem dX10_clearest_104 : decode cX10_clearest 104 = .ok (.lload 10, 2) := by decide +kernel
theorem dX10_clearest_106 : decode cX10_clearest 106 = .ok (.lstore 5, 2) := by decide +kernel
theorem dX10_clearest_108 : decode cX10_clearest 108 = .ok (.lload 12, 2) := by decide +kernel
theorem dX10_clearest_110 : decode cX10_clearest 110 = .ok (.lstore 7, 2) := by decide +kernel
theorem dX10_clearest_112 : decode cX10_clearest 112 = .ok (.iinc 9 1, 3) := by decide +kernel
theorem dX10_clearest_115 : decode cX10_clearest 115 = .ok (.goto (-81), 3) := by decide +kernel
theorem dX10_clearest_118 : decode cX10_clearest 118 = .ok (.iload 4, 2) := by decide +kernel
theorem dX10_clearest_120 : decode cX10_clearest 120 = .ok (.ireturn, 1) := by decide +kernel
theorem dX10_tune_0 : decode cX10_tune 0 = .ok (.aload_n 0, 1) := by decide +kernel
theorem dX10_tune_1 : decode cX10_tune 1 = .ok (.iload_n 1, 1) := by decide +kernel
theorem dX10_tune_2 : decode cX10_tune 2 = .ok (.invokevirtual 111, 3) := by decide +kernel
theorem dX10_tune_5 : decode cX10_tune 5 = .ok (.ifCond .eq 20, 3) := by decide +kernel
theorem dX10_tune_8 : decode cX10_tune 8 = .ok (.iload_n 2, 1) := by decide +kernel
theorem dX10_tune_9 : decode cX10_tune 9 = .ok (.invokestatic 138, 3) := by decide +kernel
theorem dX10_tune_12 : decode cX10_tune 12 = .ok (.ifCond .eq 13, 3) := by decide +kernel
theorem dX10_tune_15 : decode cX10_tune 15 = .ok (.iload_n 3, 1) := by decide +kernel
theorem dX10_tune_16 : decode cX10_tune 16 = .ok (.ifCond .lt 9, 3) := by decide +kernel
theorem dX10_tune_19 : decode cX10_tune 19 = .ok (.iload_n 3, 1) := by decide +kernel
theorem dX10_tune_20 : decode cX10_tune 20 = .ok (.bipush 62, 2) := by decide +kernel
theorem dX10_tune_22 : decode cX10_tune 22 = .ok (.if_icmp .lt 5, 3) := by decide +kernel
theorem dX10_tune_25 : decode cX10_tune 25 = .ok (.iconst (-1), 1) := by decide +kernel
theorem dX10_tune_26 : decode cX10_tune 26 = .ok (.ireturn, 1) := by decide +kernel
theorem dX10_tune_27 : decode cX10_tune 27 = .ok (.aload_n 0, 1) := by decide +kernel
theorem dX10_tune_28 : decode cX10_tune 28 = .ok (.getfield 33, 3) := by decide +kernel
theorem dX10_tune_31 : decode cX10_tune 31 = .ok (.aload_n 0, 1) := by decide +kernel
theorem dX10_tune_32 : decode cX10_tune 32 = .ok (.getfield 23, 3) := by decide +kernel
theorem dX10_tune_35 : decode cX10_tune 35 = .ok (.iload_n 2, 1) := by decide +kernel
theorem dX10_tune_36 : decode cX10_tune 36 = .ok (.invokevirtual 175, 3) := by decide +kernel
theorem dX10_tune_39 : decode cX10_tune 39 = .ok (.aload_n 0, 1) := by decide +kernel
theorem dX10_tune_40 : decode cX10_tune 40 = .ok (.getfield 33, 3) := by decide +kernel
theorem dX10_tune_43 : decode cX10_tune 43 = .ok (.aload_n 0, 1) := by decide +kernel
theorem dX10_tune_44 : decode cX10_tune 44 = .ok (.getfield 23, 3) := by decide +kernel
theorem dX10_tune_47 : decode cX10_tune 47 = .ok (.getfield 127, 3) := by decide +kernel
theorem dX10_tune_50 : decode cX10_tune 50 = .ok (.iload_n 1, 1) := by decide +kernel
theorem dX10_tune_51 : decode cX10_tune 51 = .ok (.aaload, 1) := by decide +kernel
theorem dX10_tune_52 : decode cX10_tune 52 = .ok (.getfield 141, 3) := by decide +kernel
theorem dX10_tune_55 : decode cX10_tune 55 = .ok (.invokevirtual 188, 3) := by decide +kernel
theorem dX10_tune_58 : decode cX10_tune 58 = .ok (.iconst 0, 1) := by decide +kernel
theorem dX10_tune_59 : decode cX10_tune 59 = .ok (.istore 4, 2) := by decide +kernel
theorem dX10_tune_61 : decode cX10_tune 61 = .ok (.iconst (-1), 1) := by decide +kernel
theorem dX10_tune_62 : decode cX10_tune 62 = .ok (.istore 5, 2) := by decide +kernel
theorem dX10_tune_64 : decode cX10_tune 64 = .ok (.iconst 0, 1) := by decide +kernel
theorem dX10_tune_65 : decode cX10_tune 65 = .ok (.istore 6, 2) := by decide +kernel
theorem dX10_tune_67 : decode cX10_tune 67 = .ok (.iload 6, 2) := by decide +kernel
theorem dX10_tune_69 : decode cX10_tune 69 = .ok (.bipush 15, 2) := by decide +kernel
theorem dX10_tune_71 : decode cX10_tune 71 = .ok (.if_icmp .ge 53, 3) := by decide +kernel
theorem dX10_tune_74 : decode cX10_tune 74 = .ok (.aload_n 0, 1) := by decide +kernel
theorem dX10_tune_75 : decode cX10_tune 75 = .ok (.getfield 33, 3) := by decide +kernel
theorem dX10_tune_78 : decode cX10_tune 78 = .ok (.iload_n 2, 1) := by decide +kernel
theorem dX10_tune_79 : decode cX10_tune 79 = .ok (.iload 6, 2) := by decide +kernel
theorem dX10_tune_81 : decode cX10_tune 81 = .ok (.iconst 0, 1) := by decide +kernel
theorem dX10_tune_82 : decode cX10_tune 82 = .ok (.invokevirtual 191, 3) := by decide +kernel
theorem dX10_tune_85 : decode cX10_tune 85 = .ok (.aload_n 0, 1) := by decide +kernel
theorem dX10_tune_86 : decode cX10_tune 86 = .ok (.getfield 33, 3) := by decide +kernel
theorem dX10_tune_89 : decode cX10_tune 89 = .ok (.iload_n 3, 1) := by decide +kernel
theorem dX10_tune_90 : decode cX10_tune 90 = .ok (.invokevirtual 195, 3) := by decide +kernel
theorem dX10_tune_93 : decode cX10_tune 93 = .ok (.aload_n 0, 1) := by decide +kernel
theorem dX10_tune_94 : decode cX10_tune 94 = .ok (.getfield 33, 3) := by decide +kernel
theorem dX10_tune_97 : decode cX10_tune 97 = .ok (.invokevirtual 204, 3) := by decide +kernel
theorem dX10_tune_100 : decode cX10_tune 100 = .ok (.iload 5, 2) := by decide +kernel
theorem dX10_tune_102 : decode cX10_tune 102 = .ok (.if_icmp .le 16, 3) := by decide +kernel
theorem dX10_tune_105 : decode cX10_tune 105 = .ok (.aload_n 0, 1) := by decide +kernel
theorem dX10_tune_106 : decode cX10_tune 106 = .ok (.getfield 33, 3) := by decide +kernel
theorem dX10_tune_109 : decode cX10_tune 109 = .ok (.invokevirtual 204, 3) := by decide +kernel
theorem dX10_tune_112 : decode cX10_tune 112 = .ok (.istore 5, 2) := by decide +kernel
theorem dX10_tune_114 : decode cX10_tune 114 = .ok (.iload 6, 2) := by decide +kernel
theorem dX10_tune_116 : decode cX10_tune 116 = .ok (.istore 4, 2) := by decide +kernel
theorem dX10_tune_118 : decode cX10_tune 118 = .ok (.iinc 6 1, 3) := by decide +kernel
theorem dX10_tune_121 : decode cX10_tune 121 = .ok (.goto (-54), 3) := by decide +kernel
theorem dX10_tune_124 : decode cX10_tune 124 = .ok (.iload 4, 2) := by decide +kernel
theorem dX10_tune_126 : decode cX10_tune 126 = .ok (.ireturn, 1) := by decide +kernel
theorem dX10_isChannel_0 : decode cX10_isChannel 0 = .ok (.iload_n 1, 1) := by decide +kernel
theorem dX10_isChannel_1 : decode cX10_isChannel 1 = .ok (.ifCond .lt 18, 3) := by decide +kernel
theorem dX10_isChannel_4 : decode cX10_isChannel 4 = .ok (.iload_n 1, 1) := by decide +kernel
theorem dX10_isChannel_5 : decode cX10_isChannel 5 = .ok (.aload_n 0, 1) := by decide +kernel
theorem dX10_isChannel_6 : decode cX10_isChannel 6 = .ok (.getfield 47, 3) := by decide +kernel
theorem dX10_isChannel_9 : decode cX10_isChannel 9 = .ok (.getfield 274, 3) := by decide +kernel
theorem dX10_isChannel_12 : decode cX10_isChannel 12 = .ok (.if_icmp .ge 7, 3) := by decide +kernel
theorem dX10_isChannel_15 : decode cX10_isChannel 15 = .ok (.iconst 1, 1) := by decide +kernel
theorem dX10_isChannel_16 : decode cX10_isChannel 16 = .ok (.goto 4, 3) := by decide +kernel
theorem dX10_isChannel_19 : decode cX10_isChannel 19 = .ok (.iconst 0, 1) := by decide +kernel
theorem dX10_isChannel_20 : decode cX10_isChannel 20 = .ok (.ireturn, 1) := by decide +kernel
theorem dX10_lock_0 : decode cX10_lock 0 = .ok (.aload_n 0, 1) := by decide +kernel
theorem dX10_lock_1 : decode cX10_lock 1 = .ok (.iload_n 1, 1) := by decide +kernel
theorem dX10_lock_2 : decode cX10_lock 2 = .ok (.invokevirtual 111, 3) := by decide +kernel
theorem dX10_lock_5 : decode cX10_lock 5 = .ok (.ifCond .eq 14, 3) := by decide +kernel
theorem dX10_lock_8 : decode cX10_lock 8 = .ok (.iload_n 2, 1) := by decide +kernel
theorem dX10_lock_9 : decode cX10_lock 9 = .ok (.ifCond .lt 10, 3) := by decide +kernel
theorem dX10_lock_12 : decode cX10_lock 12 = .ok (.iload_n 2, 1) := by decide +kernel
theorem dX10_lock_13 : decode cX10_lock 13 = .ok (.sipush 199, 3) := by decide +kernel
theorem dX10_lock_16 : decode cX10_lock 16 = .ok (.if_icmp .lt 5, 3) := by decide +kernel
theorem dX10_lock_19 : decode cX10_lock 19 = .ok (.iconst (-1), 1) := by decide +kernel
theorem dX10_lock_20 : decode cX10_lock 20 = .ok (.ireturn, 1) := by decide +kernel
theorem dX10_lock_21 : decode cX10_lock 21 = .ok (.aload_n 0, 1) := by decide +kernel
theorem dX10_lock_22 : decode cX10_lock 22 = .ok (.iload_n 1, 1) := by decide +kernel
theorem dX10_lock_23 : decode cX10_lock 23 = .ok (.iload_n 2, 1) := by decide +kernel
theorem dX10_lock_24 : decode cX10_lock 24 = .ok (.iconst 1, 1) := by decide +kernel
theorem dX10_lock_25 : decode cX10_lock 25 = .ok (.invokevirtual 245, 3) := by decide +kernel
theorem dX10_lock_28 : decode cX10_lock 28 = .ok (.aload_n 0, 1) := by decide +kernel
theorem dX10_lock_29 : decode cX10_lock 29 = .ok (.getfield 40, 3) := by decide +kernel
theorem dX10_lock_32 : decode cX10_lock 32 = .ok (.aload_n 0, 1) := by decide +kernel
theorem dX10_lock_33 : decode cX10_lock 33 = .ok (.getfield 23, 3) := by decide +kernel
theorem dX10_lock_36 : decode cX10_lock 36 = .ok (.getfield 222, 3) := by decide +kernel
theorem dX10_lock_39 : decode cX10_lock 39 = .ok (.invokevirtual 225, 3) := by decide +kernel
theorem dX10_lock_42 : decode cX10_lock 42 = .ok (.ifCond .ne 6, 3) := by decide +kernel
theorem dX10_lock_45 : decode cX10_lock 45 = .ok (.bipush (-2), 2) := by decide +kernel
theorem dX10_lock_47 : decode cX10_lock 47 = .ok (.ireturn, 1) := by decide +kernel
theorem dX10_lock_48 : decode cX10_lock 48 = .ok (.aload_n 0, 1) := by decide +kernel
theorem dX10_lock_49 : decode cX10_lock 49 = .ok (.getfield 47, 3) := by decide +kernel
theorem dX10_lock_52 : decode cX10_lock 52 = .ok (.getfield 274, 3) := by decide +kernel
theorem dX10_lock_55 : decode cX10_lock 55 = .ok (.iconst 4, 1) := by decide +kernel
theorem dX10_lock_56 : decode cX10_lock 56 = .ok (.if_icmp .lt 6, 3) := by decide +kernel
theorem dX10_lock_59 : decode cX10_lock 59 = .ok (.bipush (-3), 2) := by decide +kernel
theorem dX10_lock_61 : decode cX10_lock 61 = .ok (.ireturn, 1) := by decide +kernel
theorem dX10_lock_62 : decode cX10_lock 62 = .ok (.aload_n 0, 1) := by decide +kernel
theorem dX10_lock_63 : decode cX10_lock 63 = .ok (.getfield 60, 3) := by decide +kernel
theorem dX10_lock_66 : decode cX10_lock 66 = .ok (.aload_n 0, 1) := by decide +kernel
theorem dX10_lock_67 : decode cX10_lock 67 = .ok (.getfield 47, 3) := by decide +kernel
theorem dX10_lock_70 : decode cX10_lock 70 = .ok (.invokevirtual 277, 3) := by decide +kernel
theorem dX10_lock_73 : decode cX10_lock 73 = .ok (.aload_n 0, 1) := by decide +kernel
theorem dX10_lock_74 : decode cX10_lock 74 = .ok (.getfield 47, 3) := by decide +kernel
theorem dX10_lock_77 : decode cX10_lock 77 = .ok (.getfield 274, 3) := by decide +kernel
theorem dX10_lock_80 : decode cX10_lock 80 = .ok (.istore_n 3, 1) := by decide +kernel
theorem dX10_lock_81 : decode cX10_lock 81 = .ok (.aload_n 0, 1) := by decide +kernel
theorem dX10_lock_82 : decode cX10_lock 82 = .ok (.getfield 47, 3) := by decide +kernel
theorem dX10_lock_85 : decode cX10_lock 85 = .ok (.getfield 281, 3) := by decide +kernel
theorem dX10_lock_88 : decode cX10_lock 88 = .ok (.iload_n 3, 1) := by decide +kernel
theorem dX10_lock_89 : decode cX10_lock 89 = .ok (.aaload, 1) := by decide +kernel
theorem dX10_lock_90 : decode cX10_lock 90 = .ok (.iload_n 1, 1) := by decide +kernel
theorem dX10_lock_91 : decode cX10_lock 91 = .ok (.aload_n 0, 1) := by decide +kernel
theorem dX10_lock_92 : decode cX10_lock 92 = .ok (.getfield 40, 3) := by decide +kernel
theorem dX10_lock_95 : decode cX10_lock 95 = .ok (.getfield 232, 3) := by decide +kernel
theorem dX10_lock_98 : decode cX10_lock 98 = .ok (.aload_n 0, 1) := by decide +kernel
theorem dX10_lock_99 : decode cX10_lock 99 = .ok (.getfield 40, 3) := by decide +kernel
theorem dX10_lock_102 : decode cX10_lock 102 = .ok (.getfield 248, 3) := by decide +kernel
theorem dX10_lock_105 : decode cX10_lock 105 = .ok (.iload_n 2, 1) := by decide +kernel
theorem dX10_lock_106 : decode cX10_lock 106 = .ok (.iconst 1, 1) := by decide +kernel
theorem dX10_lock_107 : decode cX10_lock 107 = .ok (.iadd, 1) := by decide +kernel
theorem dX10_lock_108 : decode cX10_lock 108 = .ok (.invokevirtual 285, 3) := by decide +kernel
theorem dX10_lock_111 : decode cX10_lock 111 = .ok (.aload_n 0, 1) := by decide +kernel
theorem dX10_lock_112 : decode cX10_lock 112 = .ok (.getfield 47, 3) := by decide +kernel
theorem dX10_lock_115 : decode cX10_lock 115 = .ok (.iload_n 3, 1) := by decide +kernel
theorem dX10_lock_116 : decode cX10_lock 116 = .ok (.iconst 1, 1) := by decide +kernel
theorem dX10_lock_117 : decode cX10_lock 117 = .ok (.iadd, 1) := by decide +kernel
theorem dX10_lock_118 : decode cX10_lock 118 = .ok (.putfield 274, 3) := by decide +kernel
theorem dX10_lock_121 : decode cX10_lock 121 = .ok (.iload_n 3, 1) := by decide +kernel
theorem dX10_lock_122 : decode cX10_lock 122 = .ok (.ireturn, 1) := by decide +kernel
theorem dX10_drop_0 : decode cX10_drop 0 = .ok (.aload_n 0, 1) := by decide +kernel
theorem dX10_drop_1 : decode cX10_drop 1 = .ok (.getfield 47, 3) := by decide +kernel
theorem dX10_drop_4 : decode cX10_drop 4 = .ok (.getfield 274, 3) := by decide +kernel
theorem dX10_drop_7 : decode cX10_drop 7 = .ok (.ifCond .ne 5, 3) := by decide +kernel
theorem dX10_drop_10 : decode cX10_drop 10 = .ok (.iconst (-1), 1) := by decide +kernel
theorem dX10_drop_11 : decode cX10_drop 11 = .ok (.ireturn, 1) := by decide +kernel
theorem dX10_drop_12 : decode cX10_drop 12 = .ok (.aload_n 0, 1) := by decide +kernel
theorem dX10_drop_13 : decode cX10_drop 13 = .ok (.getfield 60, 3) := by decide +kernel
theorem dX10_drop_16 : decode cX10_drop 16 = .ok (.aload_n 0, 1) := by decide +kernel
theorem dX10_drop_17 : decode cX10_drop 17 = .ok (.getfield 47, 3) := by decide +kernel
theorem dX10_drop_20 : decode cX10_drop 20 = .ok (.invokevirtual 277, 3) := by decide +kernel
theorem dX10_drop_23 : decode cX10_drop 23 = .ok (.aload_n 0, 1) := by decide +kernel
theorem dX10_drop_24 : decode cX10_drop 24 = .ok (.getfield 47, 3) := by decide +kernel
theorem dX10_drop_27 : decode cX10_drop 27 = .ok (.dup, 1) := by decide +kernel
theorem dX10_drop_28 : decode cX10_drop 28 = .ok (.getfield 274, 3) := by decide +kernel
theorem dX10_drop_31 : decode cX10_drop 31 = .ok (.iconst 1, 1) := by decide +kernel
theorem dX10_drop_32 : decode cX10_drop 32 = .ok (.isub, 1) := by decide +kernel
theorem dX10_drop_33 : decode cX10_drop 33 = .ok (.putfield 274, 3) := by decide +kernel
theorem dX10_drop_36 : decode cX10_drop 36 = .ok (.aload_n 0, 1) := by decide +kernel
theorem dX10_drop_37 : decode cX10_drop 37 = .ok (.getfield 47, 3) := by decide +kernel
theorem dX10_drop_40 : decode cX10_drop 40 = .ok (.getfield 274, 3) := by decide +kernel
theorem dX10_drop_43 : decode cX10_drop 43 = .ok (.ireturn, 1) := by decide +kernel
theorem dX10_follow_0 : decode cX10_follow 0 = .ok (.iload_n 1, 1) := by decide +kernel
theorem dX10_follow_1 : decode cX10_follow 1 = .ok (.iconst 1, 1) := by decide +kernel
theorem dX10_follow_2 : decode cX10_follow 2 = .ok (.if_icmp .lt 9, 3) := by decide +kernel
theorem dX10_follow_5 : decode cX10_follow 5 = .ok (.iload_n 1, 1) := by decide +kernel
theorem dX10_follow_6 : decode cX10_follow 6 = .ok (.bipush 64, 2) := by decide +kernel
theorem dX10_follow_8 : decode cX10_follow 8 = .ok (.if_icmp .le 5, 3) := by decide +kernel
theorem dX10_follow_11 : decode cX10_follow 11 = .ok (.iconst (-1), 1) := by decide +kernel
theorem dX10_follow_12 : decode cX10_follow 12 = .ok (.ireturn, 1) := by decide +kernel
theorem dX10_follow_13 : decode cX10_follow 13 = .ok (.aload_n 0, 1) := by decide +kernel
theorem dX10_follow_14 : decode cX10_follow 14 = .ok (.getfield 60, 3) := by decide +kernel
theorem dX10_follow_17 : decode cX10_follow 17 = .ok (.aload_n 0, 1) := by decide +kernel
theorem dX10_follow_18 : decode cX10_follow 18 = .ok (.getfield 47, 3) := by decide +kernel
theorem dX10_follow_21 : decode cX10_follow 21 = .ok (.invokevirtual 277, 3) := by decide +kernel
theorem dX10_follow_24 : decode cX10_follow 24 = .ok (.aload_n 0, 1) := by decide +kernel
theorem dX10_follow_25 : decode cX10_follow 25 = .ok (.aload_n 0, 1) := by decide +kernel
theorem dX10_follow_26 : decode cX10_follow 26 = .ok (.getfield 47, 3) := by decide +kernel
theorem dX10_follow_29 : decode cX10_follow 29 = .ok (.iload_n 1, 1) := by decide +kernel
theorem dX10_follow_30 : decode cX10_follow 30 = .ok (.invokevirtual 290, 3) := by decide +kernel
theorem dX10_follow_33 : decode cX10_follow 33 = .ok (.ireturn, 1) := by decide +kernel
theorem dX10_followAll_0 : decode cX10_followAll 0 = .ok (.iconst 0, 1) := by decide +kernel
theorem dX10_followAll_1 : decode cX10_followAll 1 = .ok (.istore_n 3, 1) := by decide +kernel
theorem dX10_followAll_2 : decode cX10_followAll 2 = .ok (.iconst 0, 1) := by decide +kernel
theorem dX10_followAll_3 : decode cX10_followAll 3 = .ok (.istore 4, 2) := by decide +kernel
theorem dX10_followAll_5 : decode cX10_followAll 5 = .ok (.iload 4, 2) := by decide +kernel
theorem dX10_followAll_7 : decode cX10_followAll 7 = .ok (.iload_n 2, 1) := by decide +kernel
theorem dX10_followAll_8 : decode cX10_followAll 8 = .ok (.if_icmp .ge 54, 3) := by decide +kernel
theorem dX10_followAll_11 : decode cX10_followAll 11 = .ok (.iconst 0, 1) := by decide +kernel
theorem dX10_followAll_12 : decode cX10_followAll 12 = .ok (.istore 5, 2) := by decide +kernel
theorem dX10_followAll_14 : decode cX10_followAll 14 = .ok (.iload 5, 2) := by decide +kernel
theorem dX10_followAll_16 : decode cX10_followAll 16 = .ok (.aload_n 1, 1) := by decide +kernel
theorem dX10_followAll_17 : decode cX10_followAll 17 = .ok (.getfield 274, 3) := by decide +kernel
theorem dX10_followAll_20 : decode cX10_followAll 20 = .ok (.if_icmp .ge 36, 3) := by decide +kernel
theorem dX10_followAll_23 : decode cX10_followAll 23 = .ok (.aload_n 1, 1) := by decide +kernel
theorem dX10_followAll_24 : decode cX10_followAll 24 = .ok (.getfield 281, 3) := by decide +kernel
theorem dX10_followAll_27 : decode cX10_followAll 27 = .ok (.iload 5, 2) := by decide +kernel
theorem dX10_followAll_29 : decode cX10_followAll 29 = .ok (.aaload, 1) := by decide +kernel
theorem dX10_followAll_30 : decode cX10_followAll 30 = .ok (.invokevirtual 294, 3) := by decide +kernel
theorem dX10_followAll_33 : decode cX10_followAll 33 = .ok (.ifCond .eq 17, 3) := by decide +kernel
theorem dX10_followAll_36 : decode cX10_followAll 36 = .ok (.aload_n 0, 1) := by decide +kernel
theorem dX10_followAll_37 : decode cX10_followAll 37 = .ok (.aload_n 1, 1) := by decide +kernel
theorem dX10_followAll_38 : decode cX10_followAll 38 = .ok (.getfield 281, 3) := by decide +kernel
theorem dX10_followAll_41 : decode cX10_followAll 41 = .ok (.iload 5, 2) := by decide +kernel
theorem dX10_followAll_43 : decode cX10_followAll 43 = .ok (.aaload, 1) := by decide +kernel
theorem dX10_followAll_44 : decode cX10_followAll 44 = .ok (.invokevirtual 297, 3) := by decide +kernel
theorem dX10_followAll_47 : decode cX10_followAll 47 = .ok (.iinc 3 1, 3) := by decide +kernel
theorem dX10_followAll_50 : decode cX10_followAll 50 = .ok (.iinc 5 1, 3) := by decide +kernel
theorem dX10_followAll_53 : decode cX10_followAll 53 = .ok (.goto (-39), 3) := by decide +kernel
theorem dX10_followAll_56 : decode cX10_followAll 56 = .ok (.iinc 4 1, 3) := by decide +kernel
theorem dX10_followAll_59 : decode cX10_followAll 59 = .ok (.goto (-54), 3) := by decide +kernel
theorem dX10_followAll_62 : decode cX10_followAll 62 = .ok (.iload_n 3, 1) := by decide +kernel
theorem dX10_followAll_63 : decode cX10_followAll 63 = .ok (.ireturn, 1) := by decide +kernel
theorem dX10_followOne_0 : decode cX10_followOne 0 = .ok (.aload_n 1, 1) := by decide +kernel
theorem dX10_followOne_1 : decode cX10_followOne 1 = .ok (.invokevirtual 301, 3) := by decide +kernel
theorem dX10_followOne_4 : decode cX10_followOne 4 = .ok (.istore_n 2, 1) := by decide +kernel
theorem dX10_followOne_5 : decode cX10_followOne 5 = .ok (.aload_n 0, 1) := by decide +kernel
theorem dX10_followOne_6 : decode cX10_followOne 6 = .ok (.getfield 33, 3) := by decide +kernel
theorem dX10_followOne_9 : decode cX10_followOne 9 = .ok (.aload_n 0, 1) := by decide +kernel
theorem dX10_followOne_10 : decode cX10_followOne 10 = .ok (.getfield 23, 3) := by decide +kernel
theorem dX10_followOne_13 : decode cX10_followOne 13 = .ok (.aload_n 1, 1) := by decide +kernel
theorem dX10_followOne_14 : decode cX10_followOne 14 = .ok (.getfield 304, 3) := by decide +kernel
theorem dX10_followOne_17 : decode cX10_followOne 17 = .ok (.invokevirtual 175, 3) := by decide +kernel
theorem dX10_followOne_20 : decode cX10_followOne 20 = .ok (.aload_n 0, 1) := by decide +kernel
theorem dX10_followOne_21 : decode cX10_followOne 21 = .ok (.getfield 33, 3) := by decide +kernel
theorem dX10_followOne_24 : decode cX10_followOne 24 = .ok (.aload_n 0, 1) := by decide +kernel
theorem dX10_followOne_25 : decode cX10_followOne 25 = .ok (.getfield 23, 3) := by decide +kernel
theorem dX10_followOne_28 : decode cX10_followOne 28 = .ok (.aload_n 1, 1) := by decide +kernel
theorem dX10_followOne_29 : decode cX10_followOne 29 = .ok (.getfield 307, 3) := by decide +kernel
theorem dX10_followOne_32 : decode cX10_followOne 32 = .ok (.invokevirtual 310, 3) := by decide +kernel
theorem dX10_followOne_35 : decode cX10_followOne 35 = .ok (.invokevirtual 188, 3) := by decide +kernel
theorem dX10_followOne_38 : decode cX10_followOne 38 = .ok (.aload_n 0, 1) := by decide +kernel
theorem dX10_followOne_39 : decode cX10_followOne 39 = .ok (.getfield 33, 3) := by decide +kernel
theorem dX10_followOne_42 : decode cX10_followOne 42 = .ok (.aload_n 1, 1) := by decide +kernel
theorem dX10_followOne_43 : decode cX10_followOne 43 = .ok (.getfield 304, 3) := by decide +kernel
theorem dX10_followOne_46 : decode cX10_followOne 46 = .ok (.aload_n 1, 1) := by decide +kernel
theorem dX10_followOne_47 : decode cX10_followOne 47 = .ok (.getfield 313, 3) := by decide +kernel
theorem dX10_followOne_50 : decode cX10_followOne 50 = .ok (.aload_n 1, 1) := by decide +kernel
theorem dX10_followOne_51 : decode cX10_followOne 51 = .ok (.getfield 314, 3) := by decide +kernel
theorem dX10_followOne_54 : decode cX10_followOne 54 = .ok (.invokevirtual 191, 3) := by decide +kernel
theorem dX10_followOne_57 : decode cX10_followOne 57 = .ok (.aload_n 0, 1) := by decide +kernel
theorem dX10_followOne_58 : decode cX10_followOne 58 = .ok (.getfield 33, 3) := by decide +kernel
theorem dX10_followOne_61 : decode cX10_followOne 61 = .ok (.iload_n 2, 1) := by decide +kernel
theorem dX10_followOne_62 : decode cX10_followOne 62 = .ok (.ifCond .ne 8, 3) := by decide +kernel
theorem dX10_followOne_65 : decode cX10_followOne 65 = .ok (.bipush 61, 2) := by decide +kernel
theorem dX10_followOne_67 : decode cX10_followOne 67 = .ok (.goto 6, 3) := by decide +kernel
theorem dX10_followOne_70 : decode cX10_followOne 70 = .ok (.iload_n 2, 1) := by decide +kernel
theorem dX10_followOne_71 : decode cX10_followOne 71 = .ok (.iconst 1, 1) := by decide +kernel
theorem dX10_followOne_72 : decode cX10_followOne 72 = .ok (.isub, 1) := by decide +kernel
theorem dX10_followOne_73 : decode cX10_followOne 73 = .ok (.invokevirtual 195, 3) := by decide +kernel
theorem dX10_followOne_76 : decode cX10_followOne 76 = .ok (.aload_n 0, 1) := by decide +kernel
theorem dX10_followOne_77 : decode cX10_followOne 77 = .ok (.getfield 33, 3) := by decide +kernel
theorem dX10_followOne_80 : decode cX10_followOne 80 = .ok (.invokevirtual 204, 3) := by decide +kernel
theorem dX10_followOne_83 : decode cX10_followOne 83 = .ok (.istore_n 3, 1) := by decide +kernel
theorem dX10_followOne_84 : decode cX10_followOne 84 = .ok (.aload_n 0, 1) := by decide +kernel
theorem dX10_followOne_85 : decode cX10_followOne 85 = .ok (.getfield 33, 3) := by decide +kernel
theorem dX10_followOne_88 : decode cX10_followOne 88 = .ok (.iload_n 2, 1) := by decide +kernel
theorem dX10_followOne_89 : decode cX10_followOne 89 = .ok (.bipush 61, 2) := by decide +kernel
theorem dX10_followOne_91 : decode cX10_followOne 91 = .ok (.if_icmp .ne 7, 3) := by decide +kernel
theorem dX10_followOne_94 : decode cX10_followOne 94 = .ok (.iconst 0, 1) := by decide +kernel
theorem dX10_followOne_95 : decode cX10_followOne 95 = .ok (.goto 6, 3) := by decide +kernel
theorem dX10_followOne_98 : decode cX10_followOne 98 = .ok (.iload_n 2, 1) := by decide +kernel
theorem dX10_followOne_99 : decode cX10_followOne 99 = .ok (.iconst 1, 1) := by decide +kernel
theorem dX10_followOne_100 : decode cX10_followOne 100 = .ok (.iadd, 1) := by decide +kernel
theorem dX10_followOne_101 : decode cX10_followOne 101 = .ok (.invokevirtual 195, 3) := by decide +kernel
theorem dX10_followOne_104 : decode cX10_followOne 104 = .ok (.aload_n 0, 1) := by decide +kernel
theorem dX10_followOne_105 : decode cX10_followOne 105 = .ok (.getfield 33, 3) := by decide +kernel
theorem dX10_followOne_108 : decode cX10_followOne 108 = .ok (.invokevirtual 204, 3) := by decide +kernel
theorem dX10_followOne_111 : decode cX10_followOne 111 = .ok (.istore 4, 2) := by decide +kernel
theorem dX10_followOne_113 : decode cX10_followOne 113 = .ok (.aload_n 0, 1) := by decide +kernel
theorem dX10_followOne_114 : decode cX10_followOne 114 = .ok (.getfield 33, 3) := by decide +kernel
theorem dX10_followOne_117 : decode cX10_followOne 117 = .ok (.iload_n 2, 1) := by decide +kernel
theorem dX10_followOne_118 : decode cX10_followOne 118 = .ok (.invokevirtual 195, 3) := by decide +kernel
theorem dX10_followOne_121 : decode cX10_followOne 121 = .ok (.aload_n 1, 1) := by decide +kernel
theorem dX10_followOne_122 : decode cX10_followOne 122 = .ok (.iload_n 3, 1) := by decide +kernel
theorem dX10_followOne_123 : decode cX10_followOne 123 = .ok (.iload 4, 2) := by decide +kernel
theorem dX10_followOne_125 : decode cX10_followOne 125 = .ok (.invokevirtual 317, 3) := by decide +kernel
theorem dX10_followOne_128 : decode cX10_followOne 128 = .ok (.aload_n 1, 1) := by decide +kernel
theorem dX10_followOne_129 : decode cX10_followOne 129 = .ok (.aload_n 0, 1) := by decide +kernel
theorem dX10_followOne_130 : decode cX10_followOne 130 = .ok (.getfield 33, 3) := by decide +kernel
theorem dX10_followOne_133 : decode cX10_followOne 133 = .ok (.getfield 198, 3) := by decide +kernel
theorem dX10_followOne_136 : decode cX10_followOne 136 = .ok (.aload_n 0, 1) := by decide +kernel
theorem dX10_followOne_137 : decode cX10_followOne 137 = .ok (.getfield 33, 3) := by decide +kernel
theorem dX10_followOne_140 : decode cX10_followOne 140 = .ok (.getfield 201, 3) := by decide +kernel
theorem dX10_followOne_143 : decode cX10_followOne 143 = .ok (.invokevirtual 321, 3) := by decide +kernel
theorem dX10_followOne_146 : decode cX10_followOne 146 = .ok (.aload_n 1, 1) := by decide +kernel
theorem dX10_followOne_147 : decode cX10_followOne 147 = .ok (.aload_n 0, 1) := by decide +kernel
theorem dX10_followOne_148 : decode cX10_followOne 148 = .ok (.getfield 33, 3) := by decide +kernel
theorem dX10_followOne_151 : decode cX10_followOne 151 = .ok (.getfield 198, 3) := by decide +kernel
theorem dX10_followOne_154 : decode cX10_followOne 154 = .ok (.ifCond .ge 7, 3) := by decide +kernel
theorem dX10_followOne_157 : decode cX10_followOne 157 = .ok (.iconst 1, 1) := by decide +kernel
theorem dX10_followOne_158 : decode cX10_followOne 158 = .ok (.goto 4, 3) := by decide +kernel
theorem dX10_followOne_161 : decode cX10_followOne 161 = .ok (.iconst 0, 1) := by decide +kernel
theorem dX10_followOne_162 : decode cX10_followOne 162 = .ok (.invokevirtual 324, 3) := by decide +kernel
theorem dX10_followOne_165 : decode cX10_followOne 165 = .ok (.aload_n 1, 1) := by decide +kernel
theorem dX10_followOne_166 : decode cX10_followOne 166 = .ok (.aload_n 0, 1) := by decide +kernel
theorem dX10_followOne_167 : decode cX10_followOne 167 = .ok (.getfield 33, 3) := by decide +kernel
theorem dX10_followOne_170 : decode cX10_followOne 170 = .ok (.invokevirtual 204, 3) := by decide +kernel
theorem dX10_followOne_173 : decode cX10_followOne 173 = .ok (.invokevirtual 327, 3) := by decide +kernel
theorem dX10_followOne_176 : decode cX10_followOne 176 = .ok (.return_, 1) := by decide +kernel
theorem dX10_channel_0 : decode cX10_channel 0 = .ok (.aload_n 0, 1) := by decide +kernel
theorem dX10_channel_1 : decode cX10_channel 1 = .ok (.iload_n 1, 1) := by decide +kernel
theorem dX10_channel_2 : decode cX10_channel 2 = .ok (.invokevirtual 330, 3) := by decide +kernel
theorem dX10_channel_5 : decode cX10_channel 5 = .ok (.ifCond .ne 5, 3) := by decide +kernel
theorem dX10_channel_8 : decode cX10_channel 8 = .ok (.iconst (-1), 1) := by decide +kernel
theorem dX10_channel_9 : decode cX10_channel 9 = .ok (.ireturn, 1) := by decide +kernel
theorem dX10_channel_10 : decode cX10_channel 10 = .ok (.aload_n 0, 1) := by decide +kernel
theorem dX10_channel_11 : decode cX10_channel 11 = .ok (.getfield 47, 3) := by decide +kernel
theorem dX10_channel_14 : decode cX10_channel 14 = .ok (.getfield 281, 3) := by decide +kernel
theorem dX10_channel_17 : decode cX10_channel 17 = .ok (.iload_n 1, 1) := by decide +kernel
theorem dX10_channel_18 : decode cX10_channel 18 = .ok (.aaload, 1) := by decide +kernel
theorem dX10_channel_19 : decode cX10_channel 19 = .ok (.iload_n 2, 1) := by decide +kernel
theorem dX10_channel_20 : decode cX10_channel 20 = .ok (.invokevirtual 333, 3) := by decide +kernel
theorem dX10_channel_23 : decode cX10_channel 23 = .ok (.ireturn, 1) := by decide +kernel
theorem dX10_logged_0 : decode cX10_logged 0 = .ok (.aload_n 0, 1) := by decide +kernel
theorem dX10_logged_1 : decode cX10_logged 1 = .ok (.iload_n 1, 1) := by decide +kernel
theorem dX10_logged_2 : decode cX10_logged 2 = .ok (.invokevirtual 330, 3) := by decide +kernel
theorem dX10_logged_5 : decode cX10_logged 5 = .ok (.ifCond .eq 23, 3) := by decide +kernel
theorem dX10_logged_8 : decode cX10_logged 8 = .ok (.iload_n 2, 1) := by decide +kernel
theorem dX10_logged_9 : decode cX10_logged 9 = .ok (.ifCond .lt 19, 3) := by decide +kernel
theorem dX10_logged_12 : decode cX10_logged 12 = .ok (.iload_n 2, 1) := by decide +kernel
theorem dX10_logged_13 : decode cX10_logged 13 = .ok (.aload_n 0, 1) := by decide +kernel
theorem dX10_logged_14 : decode cX10_logged 14 = .ok (.getfield 47, 3) := by decide +kernel
theorem dX10_logged_17 : decode cX10_logged 17 = .ok (.getfield 281, 3) := by decide +kernel
theorem dX10_logged_20 : decode cX10_logged 20 = .ok (.iload_n 1, 1) := by decide +kernel
theorem dX10_logged_21 : decode cX10_logged 21 = .ok (.aaload, 1) := by decide +kernel
theorem dX10_logged_22 : decode cX10_logged 22 = .ok (.getfield 334, 3) := by decide +kernel
theorem dX10_logged_25 : decode cX10_logged 25 = .ok (.if_icmp .lt 5, 3) := by decide +kernel
theorem dX10_logged_28 : decode cX10_logged 28 = .ok (.iconst (-1), 1) := by decide +kernel
theorem dX10_logged_29 : decode cX10_logged 29 = .ok (.ireturn, 1) := by decide +kernel
theorem dX10_logged_30 : decode cX10_logged 30 = .ok (.aload_n 0, 1) := by decide +kernel
theorem dX10_logged_31 : decode cX10_logged 31 = .ok (.getfield 47, 3) := by decide +kernel
theorem dX10_logged_34 : decode cX10_logged 34 = .ok (.getfield 281, 3) := by decide +kernel
theorem dX10_logged_37 : decode cX10_logged 37 = .ok (.iload_n 1, 1) := by decide +kernel
theorem dX10_logged_38 : decode cX10_logged 38 = .ok (.aaload, 1) := by decide +kernel
theorem dX10_logged_39 : decode cX10_logged 39 = .ok (.iload_n 2, 1) := by decide +kernel
theorem dX10_logged_40 : decode cX10_logged 40 = .ok (.invokevirtual 337, 3) := by decide +kernel
theorem dX10_logged_43 : decode cX10_logged 43 = .ok (.ireturn, 1) := by decide +kernel
theorem dX10_readFrames_0 : decode cX10_readFrames 0 = .ok (.aload_n 0, 1) := by decide +kernel
theorem dX10_readFrames_1 : decode cX10_readFrames 1 = .ok (.getfield 67, 3) := by decide +kernel
theorem dX10_readFrames_4 : decode cX10_readFrames 4 = .ok (.aload_n 1, 1) := by decide +kernel
theorem dX10_readFrames_5 : decode cX10_readFrames 5 = .ok (.getfield 340, 3) := by decide +kernel
theorem dX10_readFrames_8 : decode cX10_readFrames 8 = .ok (.aload_n 1, 1) := by decide +kernel
theorem dX10_readFrames_9 : decode cX10_readFrames 9 = .ok (.getfield 334, 3) := by decide +kernel
theorem dX10_readFrames_12 : decode cX10_readFrames 12 = .ok (.invokevirtual 344, 3) := by decide +kernel
theorem dX10_readFrames_15 : decode cX10_readFrames 15 = .ok (.return_, 1) := by decide +kernel
theorem dX10_frame_0 : decode cX10_frame 0 = .ok (.aload_n 0, 1) := by decide +kernel
theorem dX10_frame_1 : decode cX10_frame 1 = .ok (.iload_n 1, 1) := by decide +kernel
theorem dX10_frame_2 : decode cX10_frame 2 = .ok (.invokevirtual 330, 3) := by decide +kernel
theorem dX10_frame_5 : decode cX10_frame 5 = .ok (.ifCond .eq 8, 3) := by decide +kernel
theorem dX10_frame_8 : decode cX10_frame 8 = .ok (.iload_n 2, 1) := by decide +kernel
theorem dX10_frame_9 : decode cX10_frame 9 = .ok (.iconst (-1), 1) := by decide +kernel
theorem dX10_frame_10 : decode cX10_frame 10 = .ok (.if_icmp .ge 5, 3) := by decide +kernel
theorem dX10_frame_13 : decode cX10_frame 13 = .ok (.iconst (-1), 1) := by decide +kernel
theorem dX10_frame_14 : decode cX10_frame 14 = .ok (.ireturn, 1) := by decide +kernel
theorem dX10_frame_15 : decode cX10_frame 15 = .ok (.iload_n 2, 1) := by decide +kernel
theorem dX10_frame_16 : decode cX10_frame 16 = .ok (.iconst (-1), 1) := by decide +kernel
theorem dX10_frame_17 : decode cX10_frame 17 = .ok (.if_icmp .eq 14, 3) := by decide +kernel
theorem dX10_frame_20 : decode cX10_frame 20 = .ok (.iload_n 3, 1) := by decide +kernel
theorem dX10_frame_21 : decode cX10_frame 21 = .ok (.ifCond .lt 8, 3) := by decide +kernel
theorem dX10_frame_24 : decode cX10_frame 24 = .ok (.iload_n 3, 1) := by decide +kernel
theorem dX10_frame_25 : decode cX10_frame 25 = .ok (.iconst 3, 1) := by decide +kernel
theorem dX10_frame_26 : decode cX10_frame 26 = .ok (.if_icmp .le 5, 3) := by decide +kernel
theorem dX10_frame_29 : decode cX10_frame 29 = .ok (.iconst (-1), 1) := by decide +kernel
theorem dX10_frame_30 : decode cX10_frame 30 = .ok (.ireturn, 1) := by decide +kernel
theorem dX10_frame_31 : decode cX10_frame 31 = .ok (.aload_n 0, 1) := by decide +kernel
theorem dX10_frame_32 : decode cX10_frame 32 = .ok (.aload_n 0, 1) := by decide +kernel
theorem dX10_frame_33 : decode cX10_frame 33 = .ok (.getfield 47, 3) := by decide +kernel
theorem dX10_frame_36 : decode cX10_frame 36 = .ok (.getfield 281, 3) := by decide +kernel
theorem dX10_frame_39 : decode cX10_frame 39 = .ok (.iload_n 1, 1) := by decide +kernel
theorem dX10_frame_40 : decode cX10_frame 40 = .ok (.aaload, 1) := by decide +kernel
theorem dX10_frame_41 : decode cX10_frame 41 = .ok (.invokevirtual 348, 3) := by decide +kernel
theorem dX10_frame_44 : decode cX10_frame 44 = .ok (.iload_n 2, 1) := by decide +kernel
theorem dX10_frame_45 : decode cX10_frame 45 = .ok (.iconst (-1), 1) := by decide +kernel
theorem dX10_frame_46 : decode cX10_frame 46 = .ok (.if_icmp .ne 11, 3) := by decide +kernel
theorem dX10_frame_49 : decode cX10_frame 49 = .ok (.aload_n 0, 1) := by decide +kernel
theorem dX10_frame_50 : decode cX10_frame 50 = .ok (.getfield 67, 3) := by decide +kernel
theorem dX10_frame_53 : decode cX10_frame 53 = .ok (.getfield 351, 3) := by decide +kernel
theorem dX10_frame_56 : decode cX10_frame 56 = .ok (.ireturn, 1) := by decide +kernel
theorem dX10_frame_57 : decode cX10_frame 57 = .ok (.iload_n 2, 1) := by decide +kernel
theorem dX10_frame_58 : decode cX10_frame 58 = .ok (.aload_n 0, 1) := by decide +kernel
theorem dX10_frame_59 : decode cX10_frame 59 = .ok (.getfield 67, 3) := by decide +kernel
theorem dX10_frame_62 : decode cX10_frame 62 = .ok (.getfield 351, 3) := by decide +kernel
theorem dX10_frame_65 : decode cX10_frame 65 = .ok (.if_icmp .ge 15, 3) := by decide +kernel
theorem dX10_frame_68 : decode cX10_frame 68 = .ok (.aload_n 0, 1) := by decide +kernel
theorem dX10_frame_69 : decode cX10_frame 69 = .ok (.getfield 67, 3) := by decide +kernel
theorem dX10_frame_72 : decode cX10_frame 72 = .ok (.iload_n 2, 1) := by decide +kernel
theorem dX10_frame_73 : decode cX10_frame 73 = .ok (.iload_n 3, 1) := by decide +kernel
theorem dX10_frame_74 : decode cX10_frame 74 = .ok (.invokevirtual 354, 3) := by decide +kernel
theorem dX10_frame_77 : decode cX10_frame 77 = .ok (.goto 5, 3) := by decide +kernel
theorem dX10_frame_80 : decode cX10_frame 80 = .ok (.bipush (-2), 2) := by decide +kernel
theorem dX10_frame_82 : decode cX10_frame 82 = .ok (.ireturn, 1) := by decide +kernel
theorem dX10_bad_0 : decode cX10_bad 0 = .ok (.aload_n 0, 1) := by decide +kernel
theorem dX10_bad_1 : decode cX10_bad 1 = .ok (.iload_n 1, 1) := by decide +kernel
theorem dX10_bad_2 : decode cX10_bad 2 = .ok (.invokevirtual 330, 3) := by decide +kernel
theorem dX10_bad_5 : decode cX10_bad 5 = .ok (.ifCond .ne 5, 3) := by decide +kernel
theorem dX10_bad_8 : decode cX10_bad 8 = .ok (.iconst (-1), 1) := by decide +kernel
theorem dX10_bad_9 : decode cX10_bad 9 = .ok (.ireturn, 1) := by decide +kernel
theorem dX10_bad_10 : decode cX10_bad 10 = .ok (.aload_n 0, 1) := by decide +kernel
theorem dX10_bad_11 : decode cX10_bad 11 = .ok (.aload_n 0, 1) := by decide +kernel
theorem dX10_bad_12 : decode cX10_bad 12 = .ok (.getfield 47, 3) := by decide +kernel
theorem dX10_bad_15 : decode cX10_bad 15 = .ok (.getfield 281, 3) := by decide +kernel
theorem dX10_bad_18 : decode cX10_bad 18 = .ok (.iload_n 1, 1) := by decide +kernel
theorem dX10_bad_19 : decode cX10_bad 19 = .ok (.aaload, 1) := by decide +kernel
theorem dX10_bad_20 : decode cX10_bad 20 = .ok (.invokevirtual 348, 3) := by decide +kernel
theorem dX10_bad_23 : decode cX10_bad 23 = .ok (.aload_n 0, 1) := by decide +kernel
theorem dX10_bad_24 : decode cX10_bad 24 = .ok (.getfield 67, 3) := by decide +kernel
theorem dX10_bad_27 : decode cX10_bad 27 = .ok (.getfield 356, 3) := by decide +kernel
theorem dX10_bad_30 : decode cX10_bad 30 = .ok (.ireturn, 1) := by decide +kernel
theorem dX10_errors_0 : decode cX10_errors 0 = .ok (.aload_n 0, 1) := by decide +kernel
theorem dX10_errors_1 : decode cX10_errors 1 = .ok (.iload_n 1, 1) := by decide +kernel
theorem dX10_errors_2 : decode cX10_errors 2 = .ok (.invokevirtual 330, 3) := by decide +kernel
theorem dX10_errors_5 : decode cX10_errors 5 = .ok (.ifCond .ne 5, 3) := by decide +kernel
theorem dX10_errors_8 : decode cX10_errors 8 = .ok (.iconst (-1), 1) := by decide +kernel
theorem dX10_errors_9 : decode cX10_errors 9 = .ok (.ireturn, 1) := by decide +kernel
theorem dX10_errors_10 : decode cX10_errors 10 = .ok (.aload_n 0, 1) := by decide +kernel
theorem dX10_errors_11 : decode cX10_errors 11 = .ok (.getfield 47, 3) := by decide +kernel
theorem dX10_errors_14 : decode cX10_errors 14 = .ok (.getfield 281, 3) := by decide +kernel
theorem dX10_errors_17 : decode cX10_errors 17 = .ok (.iload_n 1, 1) := by decide +kernel
theorem dX10_errors_18 : decode cX10_errors 18 = .ok (.aaload, 1) := by decide +kernel
theorem dX10_errors_19 : decode cX10_errors 19 = .ok (.astore_n 2, 1) := by decide +kernel
theorem dX10_errors_20 : decode cX10_errors 20 = .ok (.aload_n 0, 1) := by decide +kernel
theorem dX10_errors_21 : decode cX10_errors 21 = .ok (.aload_n 2, 1) := by decide +kernel
theorem dX10_errors_22 : decode cX10_errors 22 = .ok (.getfield 307, 3) := by decide +kernel
theorem dX10_errors_25 : decode cX10_errors 25 = .ok (.invokevirtual 111, 3) := by decide +kernel
theorem dX10_errors_28 : decode cX10_errors 28 = .ok (.ifCond .eq 21, 3) := by decide +kernel
theorem dX10_errors_31 : decode cX10_errors 31 = .ok (.aload_n 0, 1) := by decide +kernel
theorem dX10_errors_32 : decode cX10_errors 32 = .ok (.getfield 23, 3) := by decide +kernel
theorem dX10_errors_35 : decode cX10_errors 35 = .ok (.getfield 127, 3) := by decide +kernel
theorem dX10_errors_38 : decode cX10_errors 38 = .ok (.aload_n 2, 1) := by decide +kernel
theorem dX10_errors_39 : decode cX10_errors 39 = .ok (.getfield 307, 3) := by decide +kernel
theorem dX10_errors_42 : decode cX10_errors 42 = .ok (.aaload, 1) := by decide +kernel
theorem dX10_errors_43 : decode cX10_errors 43 = .ok (.invokevirtual 228, 3) := by decide +kernel
theorem dX10_errors_46 : decode cX10_errors 46 = .ok (.ifCond .ne 6, 3) := by decide +kernel
theorem dX10_errors_49 : decode cX10_errors 49 = .ok (.bipush (-2), 2) := by decide +kernel
theorem dX10_errors_51 : decode cX10_errors 51 = .ok (.ireturn, 1) := by decide +kernel
theorem dX10_errors_52 : decode cX10_errors 52 = .ok (.aload_n 0, 1) := by decide +kernel
theorem dX10_errors_53 : decode cX10_errors 53 = .ok (.getfield 23, 3) := by decide +kernel
theorem dX10_errors_56 : decode cX10_errors 56 = .ok (.getfield 127, 3) := by decide +kernel
theorem dX10_errors_59 : decode cX10_errors 59 = .ok (.aload_n 2, 1) := by decide +kernel
theorem dX10_errors_60 : decode cX10_errors 60 = .ok (.getfield 307, 3) := by decide +kernel
theorem dX10_errors_63 : decode cX10_errors 63 = .ok (.aaload, 1) := by decide +kernel
theorem dX10_errors_64 : decode cX10_errors 64 = .ok (.astore_n 3, 1) := by decide +kernel
theorem dX10_errors_65 : decode cX10_errors 65 = .ok (.iconst 0, 1) := by decide +kernel
theorem dX10_errors_66 : decode cX10_errors 66 = .ok (.istore 4, 2) := by decide +kernel
theorem dX10_errors_68 : decode cX10_errors 68 = .ok (.iconst 0, 1) := by decide +kernel
theorem dX10_errors_69 : decode cX10_errors 69 = .ok (.istore 5, 2) := by decide +kernel
theorem dX10_errors_71 : decode cX10_errors 71 = .ok (.iload 5, 2) := by decide +kernel
theorem dX10_errors_73 : decode cX10_errors 73 = .ok (.aload_n 2, 1) := by decide +kernel
theorem dX10_errors_74 : decode cX10_errors 74 = .ok (.getfield 334, 3) := by decide +kernel
theorem dX10_errors_77 : decode cX10_errors 77 = .ok (.if_icmp .ge 63, 3) := by decide +kernel
theorem dX10_errors_80 : decode cX10_errors 80 = .ok (.aload_n 2, 1) := by decide +kernel
theorem dX10_errors_81 : decode cX10_errors 81 = .ok (.getfield 304, 3) := by decide +kernel
theorem dX10_errors_84 : decode cX10_errors 84 = .ok (.aload_n 2, 1) := by decide +kernel
theorem dX10_errors_85 : decode cX10_errors 85 = .ok (.getfield 334, 3) := by decide +kernel
theorem dX10_errors_88 : decode cX10_errors 88 = .ok (.isub, 1) := by decide +kernel
theorem dX10_errors_89 : decode cX10_errors 89 = .ok (.iload 5, 2) := by decide +kernel
theorem dX10_errors_91 : decode cX10_errors 91 = .ok (.iadd, 1) := by decide +kernel
theorem dX10_errors_92 : decode cX10_errors 92 = .ok (.istore 6, 2) := by decide +kernel
theorem dX10_errors_94 : decode cX10_errors 94 = .ok (.bipush 62, 2) := by decide +kernel
theorem dX10_errors_96 : decode cX10_errors 96 = .ok (.iload 6, 2) := by decide +kernel
theorem dX10_errors_98 : decode cX10_errors 98 = .ok (.imul, 1) := by decide +kernel
theorem dX10_errors_99 : decode cX10_errors 99 = .ok (.bipush 31, 2) := by decide +kernel
theorem dX10_errors_101 : decode cX10_errors 101 = .ok (.iadd, 1) := by decide +kernel
theorem dX10_errors_102 : decode cX10_errors 102 = .ok (.aload_n 3, 1) := by decide +kernel
theorem dX10_errors_103 : decode cX10_errors 103 = .ok (.iload 6, 2) := by decide +kernel
theorem dX10_errors_105 : decode cX10_errors 105 = .ok (.invokevirtual 238, 3) := by decide +kernel
theorem dX10_errors_108 : decode cX10_errors 108 = .ok (.isub, 1) := by decide +kernel
theorem dX10_errors_109 : decode cX10_errors 109 = .ok (.bipush 62, 2) := by decide +kernel
theorem dX10_errors_111 : decode cX10_errors 111 = .ok (.invokestatic 359, 3) := by decide +kernel
theorem dX10_errors_114 : decode cX10_errors 114 = .ok (.istore 7, 2) := by decide +kernel
theorem dX10_errors_116 : decode cX10_errors 116 = .ok (.aload_n 2, 1) := by decide +kernel
theorem dX10_errors_117 : decode cX10_errors 117 = .ok (.iload 5, 2) := by decide +kernel
theorem dX10_errors_119 : decode cX10_errors 119 = .ok (.invokevirtual 337, 3) := by decide +kernel
theorem dX10_errors_122 : decode cX10_errors 122 = .ok (.aload_n 3, 1) := by decide +kernel
theorem dX10_errors_123 : decode cX10_errors 123 = .ok (.iload 7, 2) := by decide +kernel
theorem dX10_errors_125 : decode cX10_errors 125 = .ok (.invokevirtual 185, 3) := by decide +kernel
theorem dX10_errors_128 : decode cX10_errors 128 = .ok (.if_icmp .eq 6, 3) := by decide +kernel
theorem dX10_errors_131 : decode cX10_errors 131 = .ok (.iinc 4 1, 3) := by decide +kernel
theorem dX10_errors_134 : decode cX10_errors 134 = .ok (.iinc 5 1, 3) := by decide +kernel
theorem dX10_errors_137 : decode cX10_errors 137 = .ok (.goto (-66), 3) := by decide +kernel
theorem dX10_errors_140 : decode cX10_errors 140 = .ok (.iload 4, 2) := by decide +kernel
theorem dX10_errors_142 : decode cX10_errors 142 = .ok (.aload_n 2, 1) := by decide +kernel
theorem dX10_errors_143 : decode cX10_errors 143 = .ok (.getfield 334, 3) := by decide +kernel
theorem dX10_errors_146 : decode cX10_errors 146 = .ok (.iload 4, 2) := by decide +kernel
theorem dX10_errors_148 : decode cX10_errors 148 = .ok (.isub, 1) := by decide +kernel
theorem dX10_errors_149 : decode cX10_errors 149 = .ok (.invokestatic 362, 3) := by decide +kernel
theorem dX10_errors_152 : decode cX10_errors 152 = .ok (.ireturn, 1) := by decide +kernel
theorem dX10_latest_0 : decode cX10_latest 0 = .ok (.aload_n 0, 1) := by decide +kernel
theorem dX10_latest_1 : decode cX10_latest 1 = .ok (.iload_n 1, 1) := by decide +kernel
theorem dX10_latest_2 : decode cX10_latest 2 = .ok (.invokevirtual 330, 3) := by decide +kernel
theorem dX10_latest_5 : decode cX10_latest 5 = .ok (.ifCond .eq 12, 3) := by decide +kernel
theorem dX10_latest_8 : decode cX10_latest 8 = .ok (.iload_n 2, 1) := by decide +kernel
theorem dX10_latest_9 : decode cX10_latest 9 = .ok (.ifCond .lt 8, 3) := by decide +kernel
theorem dX10_latest_12 : decode cX10_latest 12 = .ok (.iload_n 2, 1) := by decide +kernel
theorem dX10_latest_13 : decode cX10_latest 13 = .ok (.iconst 3, 1) := by decide +kernel
theorem dX10_latest_14 : decode cX10_latest 14 = .ok (.if_icmp .le 5, 3) := by decide +kernel
theorem dX10_latest_17 : decode cX10_latest 17 = .ok (.iconst (-1), 1) := by decide +kernel
theorem dX10_latest_18 : decode cX10_latest 18 = .ok (.ireturn, 1) := by decide +kernel
theorem dX10_latest_19 : decode cX10_latest 19 = .ok (.aload_n 0, 1) := by decide +kernel
theorem dX10_latest_20 : decode cX10_latest 20 = .ok (.aload_n 0, 1) := by decide +kernel
theorem dX10_latest_21 : decode cX10_latest 21 = .ok (.getfield 47, 3) := by decide +kernel
theorem dX10_latest_24 : decode cX10_latest 24 = .ok (.getfield 281, 3) := by decide +kernel
theorem dX10_latest_27 : decode cX10_latest 27 = .ok (.iload_n 1, 1) := by decide +kernel
theorem dX10_latest_28 : decode cX10_latest 28 = .ok (.aaload, 1) := by decide +kernel
theorem dX10_latest_29 : decode cX10_latest 29 = .ok (.invokevirtual 348, 3) := by decide +kernel
theorem dX10_latest_32 : decode cX10_latest 32 = .ok (.aload_n 0, 1) := by decide +kernel
theorem dX10_latest_33 : decode cX10_latest 33 = .ok (.getfield 67, 3) := by decide +kernel
theorem dX10_latest_36 : decode cX10_latest 36 = .ok (.getfield 351, 3) := by decide +kernel
theorem dX10_latest_39 : decode cX10_latest 39 = .ok (.iconst 1, 1) := by decide +kernel
theorem dX10_latest_40 : decode cX10_latest 40 = .ok (.isub, 1) := by decide +kernel
theorem dX10_latest_41 : decode cX10_latest 41 = .ok (.istore_n 3, 1) := by decide +kernel
theorem dX10_latest_42 : decode cX10_latest 42 = .ok (.iload_n 3, 1) := by decide +kernel
theorem dX10_latest_43 : decode cX10_latest 43 = .ok (.ifCond .lt 32, 3) := by decide +kernel
theorem dX10_latest_46 : decode cX10_latest 46 = .ok (.aload_n 0, 1) := by decide +kernel
theorem dX10_latest_47 : decode cX10_latest 47 = .ok (.getfield 67, 3) := by decide +kernel
theorem dX10_latest_50 : decode cX10_latest 50 = .ok (.iload_n 3, 1) := by decide +kernel
theorem dX10_latest_51 : decode cX10_latest 51 = .ok (.iconst 1, 1) := by decide +kernel
theorem dX10_latest_52 : decode cX10_latest 52 = .ok (.invokevirtual 354, 3) := by decide +kernel
theorem dX10_latest_55 : decode cX10_latest 55 = .ok (.iload_n 2, 1) := by decide +kernel
theorem dX10_latest_56 : decode cX10_latest 56 = .ok (.if_icmp .ne 13, 3) := by decide +kernel
theorem dX10_latest_59 : decode cX10_latest 59 = .ok (.aload_n 0, 1) := by decide +kernel
theorem dX10_latest_60 : decode cX10_latest 60 = .ok (.getfield 67, 3) := by decide +kernel
theorem dX10_latest_63 : decode cX10_latest 63 = .ok (.iload_n 3, 1) := by decide +kernel
theorem dX10_latest_64 : decode cX10_latest 64 = .ok (.iconst 2, 1) := by decide +kernel
theorem dX10_latest_65 : decode cX10_latest 65 = .ok (.invokevirtual 354, 3) := by decide +kernel
theorem dX10_latest_68 : decode cX10_latest 68 = .ok (.ireturn, 1) := by decide +kernel
theorem dX10_latest_69 : decode cX10_latest 69 = .ok (.iinc 3 (-1), 3) := by decide +kernel
theorem dX10_latest_72 : decode cX10_latest 72 = .ok (.goto (-30), 3) := by decide +kernel
theorem dX10_latest_75 : decode cX10_latest 75 = .ok (.bipush (-2), 2) := by decide +kernel
theorem dX10_latest_77 : decode cX10_latest 77 = .ok (.ireturn, 1) := by decide +kernel
theorem dX10_off_0 : decode cX10_off 0 = .ok (.aload_n 0, 1) := by decide +kernel
theorem dX10_off_1 : decode cX10_off 1 = .ok (.iload_n 1, 1) := by decide +kernel
theorem dX10_off_2 : decode cX10_off 2 = .ok (.invokevirtual 330, 3) := by decide +kernel
theorem dX10_off_5 : decode cX10_off 5 = .ok (.ifCond .ne 5, 3) := by decide +kernel
theorem dX10_off_8 : decode cX10_off 8 = .ok (.iconst (-1), 1) := by decide +kernel
theorem dX10_off_9 : decode cX10_off 9 = .ok (.ireturn, 1) := by decide +kernel
theorem dX10_off_10 : decode cX10_off 10 = .ok (.aload_n 0, 1) := by decide +kernel
theorem dX10_off_11 : decode cX10_off 11 = .ok (.getfield 47, 3) := by decide +kernel
theorem dX10_off_14 : decode cX10_off 14 = .ok (.getfield 281, 3) := by decide +kernel
theorem dX10_off_17 : decode cX10_off 17 = .ok (.iload_n 1, 1) := by decide +kernel
theorem dX10_off_18 : decode cX10_off 18 = .ok (.aaload, 1) := by decide +kernel
theorem dX10_off_19 : decode cX10_off 19 = .ok (.astore_n 2, 1) := by decide +kernel
theorem dX10_off_20 : decode cX10_off 20 = .ok (.aload_n 0, 1) := by decide +kernel
theorem dX10_off_21 : decode cX10_off 21 = .ok (.aload_n 2, 1) := by decide +kernel
theorem dX10_off_22 : decode cX10_off 22 = .ok (.getfield 307, 3) := by decide +kernel
theorem dX10_off_25 : decode cX10_off 25 = .ok (.invokevirtual 111, 3) := by decide +kernel
theorem dX10_off_28 : decode cX10_off 28 = .ok (.ifCond .eq 21, 3) := by decide +kernel
theorem dX10_off_31 : decode cX10_off 31 = .ok (.aload_n 0, 1) := by decide +kernel
theorem dX10_off_32 : decode cX10_off 32 = .ok (.getfield 23, 3) := by decide +kernel
theorem dX10_off_35 : decode cX10_off 35 = .ok (.getfield 127, 3) := by decide +kernel
theorem dX10_off_38 : decode cX10_off 38 = .ok (.aload_n 2, 1) := by decide +kernel
theorem dX10_off_39 : decode cX10_off 39 = .ok (.getfield 307, 3) := by decide +kernel
theorem dX10_off_42 : decode cX10_off 42 = .ok (.aaload, 1) := by decide +kernel
theorem dX10_off_43 : decode cX10_off 43 = .ok (.invokevirtual 228, 3) := by decide +kernel
theorem dX10_off_46 : decode cX10_off 46 = .ok (.ifCond .ne 6, 3) := by decide +kernel
theorem dX10_off_49 : decode cX10_off 49 = .ok (.bipush (-2), 2) := by decide +kernel
theorem dX10_off_51 : decode cX10_off 51 = .ok (.ireturn, 1) := by decide +kernel
theorem dX10_off_52 : decode cX10_off 52 = .ok (.aload_n 2, 1) := by decide +kernel
theorem dX10_off_53 : decode cX10_off 53 = .ok (.getfield 304, 3) := by decide +kernel
theorem dX10_off_56 : decode cX10_off 56 = .ok (.sipush 199, 3) := by decide +kernel
theorem dX10_off_59 : decode cX10_off 59 = .ok (.invokestatic 362, 3) := by decide +kernel
theorem dX10_off_62 : decode cX10_off 62 = .ok (.istore_n 3, 1) := by decide +kernel
theorem dX10_off_63 : decode cX10_off 63 = .ok (.aload_n 2, 1) := by decide +kernel
theorem dX10_off_64 : decode cX10_off 64 = .ok (.invokevirtual 301, 3) := by decide +kernel
theorem dX10_off_67 : decode cX10_off 67 = .ok (.aload_n 0, 1) := by decide +kernel
theorem dX10_off_68 : decode cX10_off 68 = .ok (.getfield 23, 3) := by decide +kernel
theorem dX10_off_71 : decode cX10_off 71 = .ok (.getfield 127, 3) := by decide +kernel
theorem dX10_off_74 : decode cX10_off 74 = .ok (.aload_n 2, 1) := by decide +kernel
theorem dX10_off_75 : decode cX10_off 75 = .ok (.getfield 307, 3) := by decide +kernel
theorem dX10_off_78 : decode cX10_off 78 = .ok (.aaload, 1) := by decide +kernel
theorem dX10_off_79 : decode cX10_off 79 = .ok (.iload_n 3, 1) := by decide +kernel
theorem dX10_off_80 : decode cX10_off 80 = .ok (.invokevirtual 238, 3) := by decide +kernel
theorem dX10_off_83 : decode cX10_off 83 = .ok (.bipush 62, 2) := by decide +kernel
theorem dX10_off_85 : decode cX10_off 85 = .ok (.irem, 1) := by decide +kernel
theorem dX10_off_86 : decode cX10_off 86 = .ok (.invokestatic 365, 3) := by decide +kernel
theorem dX10_off_89 : decode cX10_off 89 = .ok (.ireturn, 1) := by decide +kernel
theorem dX10_apart_0 : decode cX10_apart 0 = .ok (.iload_n 0, 1) := by decide +kernel
theorem dX10_apart_1 : decode cX10_apart 1 = .ok (.iload_n 1, 1) := by decide +kernel
theorem dX10_apart_2 : decode cX10_apart 2 = .ok (.isub, 1) := by decide +kernel
theorem dX10_apart_3 : decode cX10_apart 3 = .ok (.invokestatic 161, 3) := by decide +kernel
theorem dX10_apart_6 : decode cX10_apart 6 = .ok (.istore_n 2, 1) := by decide +kernel
theorem dX10_apart_7 : decode cX10_apart 7 = .ok (.iload_n 2, 1) := by decide +kernel
theorem dX10_apart_8 : decode cX10_apart 8 = .ok (.bipush 62, 2) := by decide +kernel
theorem dX10_apart_10 : decode cX10_apart 10 = .ok (.iload_n 2, 1) := by decide +kernel
theorem dX10_apart_11 : decode cX10_apart 11 = .ok (.isub, 1) := by decide +kernel
theorem dX10_apart_12 : decode cX10_apart 12 = .ok (.invokestatic 362, 3) := by decide +kernel
theorem dX10_apart_15 : decode cX10_apart 15 = .ok (.ireturn, 1) := by decide +kernel
theorem dX10_tried_0 : decode cX10_tried 0 = .ok (.iload_n 1, 1) := by decide +kernel
theorem dX10_tried_1 : decode cX10_tried 1 = .ok (.iconst 1, 1) := by decide +kernel
theorem dX10_tried_2 : decode cX10_tried 2 = .ok (.if_icmp .lt 18, 3) := by decide +kernel
theorem dX10_tried_5 : decode cX10_tried 5 = .ok (.iload_n 1, 1) := by decide +kernel
theorem dX10_tried_6 : decode cX10_tried 6 = .ok (.bipush 40, 2) := by decide +kernel
theorem dX10_tried_8 : decode cX10_tried 8 = .ok (.if_icmp .gt 12, 3) := by decide +kernel
theorem dX10_tried_11 : decode cX10_tried 11 = .ok (.iload_n 2, 1) := by decide +kernel
theorem dX10_tried_12 : decode cX10_tried 12 = .ok (.ifCond .lt 8, 3) := by decide +kernel
theorem dX10_tried_15 : decode cX10_tried 15 = .ok (.iload_n 2, 1) := by decide +kernel
theorem dX10_tried_16 : decode cX10_tried 16 = .ok (.iconst 2, 1) := by decide +kernel
theorem dX10_tried_17 : decode cX10_tried 17 = .ok (.if_icmp .le 5, 3) := by decide +kernel
theorem dX10_tried_20 : decode cX10_tried 20 = .ok (.iconst (-1), 1) := by decide +kernel
theorem dX10_tried_21 : decode cX10_tried 21 = .ok (.ireturn, 1) := by decide +kernel
theorem dX10_tried_22 : decode cX10_tried 22 = .ok (.aload_n 0, 1) := by decide +kernel
theorem dX10_tried_23 : decode cX10_tried 23 = .ok (.getfield 54, 3) := by decide +kernel
theorem dX10_tried_26 : decode cX10_tried 26 = .ok (.aload_n 0, 1) := by decide +kernel
theorem dX10_tried_27 : decode cX10_tried 27 = .ok (.getfield 47, 3) := by decide +kernel
theorem dX10_tried_30 : decode cX10_tried 30 = .ok (.invokevirtual 368, 3) := by decide +kernel
theorem dX10_tried_33 : decode cX10_tried 33 = .ok (.aload_n 0, 1) := by decide +kernel
theorem dX10_tried_34 : decode cX10_tried 34 = .ok (.aload_n 0, 1) := by decide +kernel
theorem dX10_tried_35 : decode cX10_tried 35 = .ok (.getfield 54, 3) := by decide +kernel
theorem dX10_tried_38 : decode cX10_tried 38 = .ok (.iload_n 1, 1) := by decide +kernel
theorem dX10_tried_39 : decode cX10_tried 39 = .ok (.invokevirtual 290, 3) := by decide +kernel
theorem dX10_tried_42 : decode cX10_tried 42 = .ok (.pop, 1) := by decide +kernel
theorem dX10_tried_43 : decode cX10_tried 43 = .ok (.iload_n 2, 1) := by decide +kernel
theorem dX10_tried_44 : decode cX10_tried 44 = .ok (.ifCond .ne 11, 3) := by decide +kernel
theorem dX10_tried_47 : decode cX10_tried 47 = .ok (.aload_n 0, 1) := by decide +kernel
theorem dX10_tried_48 : decode cX10_tried 48 = .ok (.getfield 54, 3) := by decide +kernel
theorem dX10_tried_51 : decode cX10_tried 51 = .ok (.invokevirtual 371, 3) := by decide +kernel
theorem dX10_tried_54 : decode cX10_tried 54 = .ok (.ireturn, 1) := by decide +kernel
theorem dX10_tried_55 : decode cX10_tried 55 = .ok (.iconst 0, 1) := by decide +kernel
theorem dX10_tried_56 : decode cX10_tried 56 = .ok (.istore_n 3, 1) := by decide +kernel
theorem dX10_tried_57 : decode cX10_tried 57 = .ok (.iconst 0, 1) := by decide +kernel
theorem dX10_tried_58 : decode cX10_tried 58 = .ok (.istore 4, 2) := by decide +kernel
theorem dX10_tried_60 : decode cX10_tried 60 = .ok (.iload 4, 2) := by decide +kernel
theorem dX10_tried_62 : decode cX10_tried 62 = .ok (.aload_n 0, 1) := by decide +kernel
theorem dX10_tried_63 : decode cX10_tried 63 = .ok (.getfield 54, 3) := by decide +kernel
theorem dX10_tried_66 : decode cX10_tried 66 = .ok (.getfield 274, 3) := by decide +kernel
theorem dX10_tried_69 : decode cX10_tried 69 = .ok (.if_icmp .ge 48, 3) := by decide +kernel
theorem dX10_tried_72 : decode cX10_tried 72 = .ok (.aload_n 0, 1) := by decide +kernel
theorem dX10_tried_73 : decode cX10_tried 73 = .ok (.aload_n 0, 1) := by decide +kernel
theorem dX10_tried_74 : decode cX10_tried 74 = .ok (.getfield 54, 3) := by decide +kernel
theorem dX10_tried_77 : decode cX10_tried 77 = .ok (.getfield 281, 3) := by decide +kernel
theorem dX10_tried_80 : decode cX10_tried 80 = .ok (.iload 4, 2) := by decide +kernel
theorem dX10_tried_82 : decode cX10_tried 82 = .ok (.aaload, 1) := by decide +kernel
theorem dX10_tried_83 : decode cX10_tried 83 = .ok (.invokevirtual 348, 3) := by decide +kernel
theorem dX10_tried_86 : decode cX10_tried 86 = .ok (.iload_n 3, 1) := by decide +kernel
theorem dX10_tried_87 : decode cX10_tried 87 = .ok (.iload_n 2, 1) := by decide +kernel
theorem dX10_tried_88 : decode cX10_tried 88 = .ok (.iconst 1, 1) := by decide +kernel
theorem dX10_tried_89 : decode cX10_tried 89 = .ok (.if_icmp .ne 13, 3) := by decide +kernel
theorem dX10_tried_92 : decode cX10_tried 92 = .ok (.aload_n 0, 1) := by decide +kernel
theorem dX10_tried_93 : decode cX10_tried 93 = .ok (.getfield 67, 3) := by decide +kernel
theorem dX10_tried_96 : decode cX10_tried 96 = .ok (.getfield 351, 3) := by decide +kernel
theorem dX10_tried_99 : decode cX10_tried 99 = .ok (.goto 10, 3) := by decide +kernel
theorem dX10_tried_102 : decode cX10_tried 102 = .ok (.aload_n 0, 1) := by decide +kernel
theorem dX10_tried_103 : decode cX10_tried 103 = .ok (.getfield 67, 3) := by decide +kernel
theorem dX10_tried_106 : decode cX10_tried 106 = .ok (.getfield 356, 3) := by decide +kernel
theorem dX10_tried_109 : decode cX10_tried 109 = .ok (.iadd, 1) := by decide +kernel
theorem dX10_tried_110 : decode cX10_tried 110 = .ok (.istore_n 3, 1) := by decide +kernel
theorem dX10_tried_111 : decode cX10_tried 111 = .ok (.iinc 4 1, 3) := by decide +kernel
theorem dX10_tried_114 : decode cX10_tried 114 = .ok (.goto (-54), 3) := by decide +kernel
theorem dX10_tried_117 : decode cX10_tried 117 = .ok (.iload_n 3, 1) := by decide +kernel
theorem dX10_tried_118 : decode cX10_tried 118 = .ok (.ireturn, 1) := by decide +kernel
theorem dX10_range_0 : decode cX10_range 0 = .ok (.aload_n 0, 1) := by decide +kernel
theorem dX10_range_1 : decode cX10_range 1 = .ok (.iload_n 1, 1) := by decide +kernel
theorem dX10_range_2 : decode cX10_range 2 = .ok (.invokevirtual 111, 3) := by decide +kernel
theorem dX10_range_5 : decode cX10_range 5 = .ok (.ifCond .eq 15, 3) := by decide +kernel
theorem dX10_range_8 : decode cX10_range 8 = .ok (.iload_n 2, 1) := by decide +kernel
theorem dX10_range_9 : decode cX10_range 9 = .ok (.iconst (-1), 1) := by decide +kernel
theorem dX10_range_10 : decode cX10_range 10 = .ok (.if_icmp .lt 10, 3) := by decide +kernel
theorem dX10_range_13 : decode cX10_range 13 = .ok (.iload_n 2, 1) := by decide +kernel
theorem dX10_range_14 : decode cX10_range 14 = .ok (.sipush 400, 3) := by decide +kernel
theorem dX10_range_17 : decode cX10_range 17 = .ok (.if_icmp .le 6, 3) := by decide +kernel
theorem dX10_range_20 : decode cX10_range 20 = .ok (.bipush (-2), 2) := by decide +kernel
theorem dX10_range_22 : decode cX10_range 22 = .ok (.ireturn, 1) := by decide +kernel
theorem dX10_range_23 : decode cX10_range 23 = .ok (.aload_n 0, 1) := by decide +kernel
theorem dX10_range_24 : decode cX10_range 24 = .ok (.getfield 60, 3) := by decide +kernel
theorem dX10_range_27 : decode cX10_range 27 = .ok (.aload_n 0, 1) := by decide +kernel
theorem dX10_range_28 : decode cX10_range 28 = .ok (.getfield 47, 3) := by decide +kernel
theorem dX10_range_31 : decode cX10_range 31 = .ok (.invokevirtual 277, 3) := by decide +kernel
theorem dX10_range_34 : decode cX10_range 34 = .ok (.aload_n 0, 1) := by decide +kernel
theorem dX10_range_35 : decode cX10_range 35 = .ok (.getfield 47, 3) := by decide +kernel
theorem dX10_range_38 : decode cX10_range 38 = .ok (.getfield 374, 3) := by decide +kernel
theorem dX10_range_41 : decode cX10_range 41 = .ok (.iload_n 1, 1) := by decide +kernel
theorem dX10_range_42 : decode cX10_range 42 = .ok (.iaload, 1) := by decide +kernel
theorem dX10_range_43 : decode cX10_range 43 = .ok (.istore_n 3, 1) := by decide +kernel
theorem dX10_range_44 : decode cX10_range 44 = .ok (.aload_n 0, 1) := by decide +kernel
theorem dX10_range_45 : decode cX10_range 45 = .ok (.getfield 47, 3) := by decide +kernel
theorem dX10_range_48 : decode cX10_range 48 = .ok (.getfield 374, 3) := by decide +kernel
theorem dX10_range_51 : decode cX10_range 51 = .ok (.iload_n 1, 1) := by decide +kernel
theorem dX10_range_52 : decode cX10_range 52 = .ok (.iload_n 2, 1) := by decide +kernel
theorem dX10_range_53 : decode cX10_range 53 = .ok (.iastore, 1) := by decide +kernel
theorem dX10_range_54 : decode cX10_range 54 = .ok (.iload_n 3, 1) := by decide +kernel
theorem dX10_range_55 : decode cX10_range 55 = .ok (.ireturn, 1) := by decide +kernel
theorem dX10_measure_0 : decode cX10_measure 0 = .ok (.iload_n 1, 1) := by decide +kernel
theorem dX10_measure_1 : decode cX10_measure 1 = .ok (.ifCond .lt 9, 3) := by decide +kernel
theorem dX10_measure_4 : decode cX10_measure 4 = .ok (.iload_n 1, 1) := by decide +kernel
theorem dX10_measure_5 : decode cX10_measure 5 = .ok (.bipush 20, 2) := by decide +kernel
theorem dX10_measure_7 : decode cX10_measure 7 = .ok (.if_icmp .le 5, 3) := by decide +kernel
theorem dX10_measure_10 : decode cX10_measure 10 = .ok (.iconst (-1), 1) := by decide +kernel
theorem dX10_measure_11 : decode cX10_measure 11 = .ok (.ireturn, 1) := by decide +kernel
theorem dX10_measure_12 : decode cX10_measure 12 = .ok (.aload_n 0, 1) := by decide +kernel
theorem dX10_measure_13 : decode cX10_measure 13 = .ok (.getfield 23, 3) := by decide +kernel
theorem dX10_measure_16 : decode cX10_measure 16 = .ok (.getfield 377, 3) := by decide +kernel
theorem dX10_measure_19 : decode cX10_measure 19 = .ok (.ifCond .ne 6, 3) := by decide +kernel
theorem dX10_measure_22 : decode cX10_measure 22 = .ok (.bipush (-2), 2) := by decide +kernel
theorem dX10_measure_24 : decode cX10_measure 24 = .ok (.ireturn, 1) := by decide +kernel
theorem dX10_measure_25 : decode cX10_measure 25 = .ok (.aload_n 0, 1) := by decide +kernel
theorem dX10_measure_26 : decode cX10_measure 26 = .ok (.getfield 60, 3) := by decide +kernel
theorem dX10_measure_29 : decode cX10_measure 29 = .ok (.aload_n 0, 1) := by decide +kernel
theorem dX10_measure_30 : decode cX10_measure 30 = .ok (.getfield 47, 3) := by decide +kernel
theorem dX10_measure_33 : decode cX10_measure 33 = .ok (.invokevirtual 277, 3) := by decide +kernel
theorem dX10_measure_36 : decode cX10_measure 36 = .ok (.iconst 0, 1) := by decide +kernel
theorem dX10_measure_37 : decode cX10_measure 37 = .ok (.istore_n 2, 1) := by decide +kernel
theorem dX10_measure_38 : decode cX10_measure 38 = .ok (.iconst 0, 1) := by decide +kernel
theorem dX10_measure_39 : decode cX10_measure 39 = .ok (.istore_n 3, 1) := by decide +kernel
theorem dX10_measure_40 : decode cX10_measure 40 = .ok (.iload_n 3, 1) := by decide +kernel
theorem dX10_measure_41 : decode cX10_measure 41 = .ok (.aload_n 0, 1) := by decide +kernel
theorem dX10_measure_42 : decode cX10_measure 42 = .ok (.getfield 23, 3) := by decide +kernel
theorem dX10_measure_45 : decode cX10_measure 45 = .ok (.getfield 135, 3) := by decide +kernel
theorem dX10_measure_48 : decode cX10_measure 48 = .ok (.if_icmp .ge 42, 3) := by decide +kernel
theorem dX10_measure_51 : decode cX10_measure 51 = .ok (.aload_n 0, 1) := by decide +kernel
theorem dX10_measure_52 : decode cX10_measure 52 = .ok (.getfield 23, 3) := by decide +kernel
theorem dX10_measure_55 : decode cX10_measure 55 = .ok (.getfield 127, 3) := by decide +kernel
theorem dX10_measure_58 : decode cX10_measure 58 = .ok (.iload_n 3, 1) := by decide +kernel
theorem dX10_measure_59 : decode cX10_measure 59 = .ok (.aaload, 1) := by decide +kernel
theorem dX10_measure_60 : decode cX10_measure 60 = .ok (.getfield 380, 3) := by decide +kernel
theorem dX10_measure_63 : decode cX10_measure 63 = .ok (.ifCond .eq 21, 3) := by decide +kernel
theorem dX10_measure_66 : decode cX10_measure 66 = .ok (.aload_n 0, 1) := by decide +kernel
theorem dX10_measure_67 : decode cX10_measure 67 = .ok (.getfield 47, 3) := by decide +kernel
theorem dX10_measure_70 : decode cX10_measure 70 = .ok (.getfield 374, 3) := by decide +kernel
theorem dX10_measure_73 : decode cX10_measure 73 = .ok (.iload_n 3, 1) := by decide +kernel
theorem dX10_measure_74 : decode cX10_measure 74 = .ok (.aload_n 0, 1) := by decide +kernel
theorem dX10_measure_75 : decode cX10_measure 75 = .ok (.iload_n 3, 1) := by decide +kernel
theorem dX10_measure_76 : decode cX10_measure 76 = .ok (.iload_n 1, 1) := by decide +kernel
theorem dX10_measure_77 : decode cX10_measure 77 = .ok (.invokevirtual 383, 3) := by decide +kernel
theorem dX10_measure_80 : decode cX10_measure 80 = .ok (.iastore, 1) := by decide +kernel
theorem dX10_measure_81 : decode cX10_measure 81 = .ok (.iinc 2 1, 3) := by decide +kernel
theorem dX10_measure_84 : decode cX10_measure 84 = .ok (.iinc 3 1, 3) := by decide +kernel
theorem dX10_measure_87 : decode cX10_measure 87 = .ok (.goto (-47), 3) := by decide +kernel
theorem dX10_measure_90 : decode cX10_measure 90 = .ok (.iload_n 2, 1) := by decide +kernel
theorem dX10_measure_91 : decode cX10_measure 91 = .ok (.ireturn, 1) := by decide +kernel
theorem dX10_measuredRange_0 : decode cX10_measuredRange 0 = .ok (.aload_n 0, 1) := by decide +kernel
theorem dX10_measuredRange_1 : decode cX10_measuredRange 1 = .ok (.getfield 23, 3) := by decide +kernel
theorem dX10_measuredRange_4 : decode cX10_measuredRange 4 = .ok (.getfield 127, 3) := by decide +kernel
theorem dX10_measuredRange_7 : decode cX10_measuredRange 7 = .ok (.iload_n 1, 1) := by decide +kernel
theorem dX10_measuredRange_8 : decode cX10_measuredRange 8 = .ok (.aaload, 1) := by decide +kernel
theorem dX10_measuredRange_9 : decode cX10_measuredRange 9 = .ok (.astore_n 3, 1) := by decide +kernel
theorem dX10_measuredRange_10 : decode cX10_measuredRange 10 = .ok (.aload_n 0, 1) := by decide +kernel
theorem dX10_measuredRange_11 : decode cX10_measuredRange 11 = .ok (.getfield 74, 3) := by decide +kernel
theorem dX10_measuredRange_14 : decode cX10_measuredRange 14 = .ok (.aload_n 3, 1) := by decide +kernel
theorem dX10_measuredRange_15 : decode cX10_measuredRange 15 = .ok (.getfield 386, 3) := by decide +kernel
theorem dX10_measuredRange_18 : decode cX10_measuredRange 18 = .ok (.aload_n 0, 1) := by decide +kernel
theorem dX10_measuredRange_19 : decode cX10_measuredRange 19 = .ok (.getfield 23, 3) := by decide +kernel
theorem dX10_measuredRange_22 : decode cX10_measuredRange 22 = .ok (.getfield 389, 3) := by decide +kernel
theorem dX10_measuredRange_25 : decode cX10_measuredRange 25 = .ok (.isub, 1) := by decide +kernel
theorem dX10_measuredRange_26 : decode cX10_measuredRange 26 = .ok (.aload_n 3, 1) := by decide +kernel
theorem dX10_measuredRange_27 : decode cX10_measuredRange 27 = .ok (.getfield 392, 3) := by decide +kernel
theorem dX10_measuredRange_30 : decode cX10_measuredRange 30 = .ok (.aload_n 0, 1) := by decide +kernel
theorem dX10_measuredRange_31 : decode cX10_measuredRange 31 = .ok (.getfield 23, 3) := by decide +kernel
theorem dX10_measuredRange_34 : decode cX10_measuredRange 34 = .ok (.getfield 395, 3) := by decide +kernel
theorem dX10_measuredRange_37 : decode cX10_measuredRange 37 = .ok (.isub, 1) := by decide +kernel
theorem dX10_measuredRange_38 : decode cX10_measuredRange 38 = .ok (.aload_n 3, 1) := by decide +kernel
theorem dX10_measuredRange_39 : decode cX10_measuredRange 39 = .ok (.getfield 398, 3) := by decide +kernel
theorem dX10_measuredRange_42 : decode cX10_measuredRange 42 = .ok (.aload_n 0, 1) := by decide +kernel
theorem dX10_measuredRange_43 : decode cX10_measuredRange 43 = .ok (.getfield 23, 3) := by decide +kernel
theorem dX10_measuredRange_46 : decode cX10_measuredRange 46 = .ok (.getfield 401, 3) := by decide +kernel
theorem dX10_measuredRange_49 : decode cX10_measuredRange 49 = .ok (.isub, 1) := by decide +kernel
theorem dX10_measuredRange_50 : decode cX10_measuredRange 50 = .ok (.invokevirtual 404, 3) := by decide +kernel
theorem dX10_measuredRange_53 : decode cX10_measuredRange 53 = .ok (.istore 4, 2) := by decide +kernel
theorem dX10_measuredRange_55 : decode cX10_measuredRange 55 = .ok (.aload_n 0, 1) := by decide +kernel
theorem dX10_measuredRange_56 : decode cX10_measuredRange 56 = .ok (.getfield 23, 3) := by decide +kernel
theorem dX10_measuredRange_59 : decode cX10_measuredRange 59 = .ok (.getfield 261, 3) := by decide +kernel
theorem dX10_measuredRange_62 : decode cX10_measuredRange 62 = .ok (.iload_n 1, 1) := by decide +kernel
theorem dX10_measuredRange_63 : decode cX10_measuredRange 63 = .ok (.iadd, 1) := by decide +kernel
theorem dX10_measuredRange_64 : decode cX10_measuredRange 64 = .ok (.sipush 1000, 3) := by decide +kernel
theorem dX10_measuredRange_67 : decode cX10_measuredRange 67 = .ok (.iadd, 1) := by decide +kernel
theorem dX10_measuredRange_68 : decode cX10_measuredRange 68 = .ok (.invokestatic 268, 3) := by decide +kernel
theorem dX10_measuredRange_71 : decode cX10_measuredRange 71 = .ok (.iload_n 2, 1) := by decide +kernel
theorem dX10_measuredRange_72 : decode cX10_measuredRange 72 = .ok (.invokestatic 407, 3) := by decide +kernel
theorem dX10_measuredRange_75 : decode cX10_measuredRange 75 = .ok (.istore 5, 2) := by decide +kernel
theorem dX10_measuredRange_77 : decode cX10_measuredRange 77 = .ok (.iconst 0, 1) := by decide +kernel
theorem dX10_measuredRange_78 : decode cX10_measuredRange 78 = .ok (.sipush 400, 3) := by decide +kernel
theorem dX10_measuredRange_81 : decode cX10_measuredRange 81 = .ok (.iload 4, 2) := by decide +kernel
theorem dX10_measuredRange_83 : decode cX10_measuredRange 83 = .ok (.iconst 4, 1) := by decide +kernel
theorem dX10_measuredRange_84 : decode cX10_measuredRange 84 = .ok (.aload_n 0, 1) := by decide +kernel
theorem dX10_measuredRange_85 : decode cX10_measuredRange 85 = .ok (.getfield 23, 3) := by decide +kernel
theorem dX10_measuredRange_88 : decode cX10_measuredRange 88 = .ok (.getfield 410, 3) := by decide +kernel
theorem dX10_measuredRange_91 : decode cX10_measuredRange 91 = .ok (.imul, 1) := by decide +kernel
theorem dX10_measuredRange_92 : decode cX10_measuredRange 92 = .ok (.iadd, 1) := by decide +kernel
theorem dX10_measuredRange_93 : decode cX10_measuredRange 93 = .ok (.iload 5, 2) := by decide +kernel
theorem dX10_measuredRange_95 : decode cX10_measuredRange 95 = .ok (.iadd, 1) := by decide +kernel
theorem dX10_measuredRange_96 : decode cX10_measuredRange 96 = .ok (.invokestatic 362, 3) := by decide +kernel
theorem dX10_measuredRange_99 : decode cX10_measuredRange 99 = .ok (.invokestatic 166, 3) := by decide +kernel
theorem dX10_measuredRange_102 : decode cX10_measuredRange 102 = .ok (.ireturn, 1) := by decide +kernel
theorem dX10_fix_0 : decode cX10_fix 0 = .ok (.iload_n 1, 1) := by decide +kernel
theorem dX10_fix_1 : decode cX10_fix 1 = .ok (.ifCond .lt 8, 3) := by decide +kernel
theorem dX10_fix_4 : decode cX10_fix 4 = .ok (.iload_n 1, 1) := by decide +kernel
theorem dX10_fix_5 : decode cX10_fix 5 = .ok (.iconst 4, 1) := by decide +kernel
theorem dX10_fix_6 : decode cX10_fix 6 = .ok (.if_icmp .le 5, 3) := by decide +kernel
theorem dX10_fix_9 : decode cX10_fix 9 = .ok (.iconst (-1), 1) := by decide +kernel
theorem dX10_fix_10 : decode cX10_fix 10 = .ok (.ireturn, 1) := by decide +kernel
theorem dX10_fix_11 : decode cX10_fix 11 = .ok (.aload_n 0, 1) := by decide +kernel
theorem dX10_fix_12 : decode cX10_fix 12 = .ok (.getfield 74, 3) := by decide +kernel
theorem dX10_fix_15 : decode cX10_fix 15 = .ok (.aload_n 0, 1) := by decide +kernel
theorem dX10_fix_16 : decode cX10_fix 16 = .ok (.getfield 23, 3) := by decide +kernel
theorem dX10_fix_19 : decode cX10_fix 19 = .ok (.aload_n 0, 1) := by decide +kernel
theorem dX10_fix_20 : decode cX10_fix 20 = .ok (.getfield 47, 3) := by decide +kernel
theorem dX10_fix_23 : decode cX10_fix 23 = .ok (.iconst (-1), 1) := by decide +kernel
theorem dX10_fix_24 : decode cX10_fix 24 = .ok (.invokevirtual 413, 3) := by decide +kernel
theorem dX10_fix_27 : decode cX10_fix 27 = .ok (.aload_n 0, 1) := by decide +kernel
theorem dX10_fix_28 : decode cX10_fix 28 = .ok (.getfield 74, 3) := by decide +kernel
theorem dX10_fix_31 : decode cX10_fix 31 = .ok (.getfield 417, 3) := by decide +kernel
theorem dX10_fix_34 : decode cX10_fix 34 = .ok (.iconst 4, 1) := by decide +kernel
theorem dX10_fix_35 : decode cX10_fix 35 = .ok (.if_icmp .ge 6, 3) := by decide +kernel
theorem dX10_fix_38 : decode cX10_fix 38 = .ok (.bipush (-2), 2) := by decide +kernel
theorem dX10_fix_40 : decode cX10_fix 40 = .ok (.ireturn, 1) := by decide +kernel
theorem dX10_fix_41 : decode cX10_fix 41 = .ok (.aload_n 0, 1) := by decide +kernel
theorem dX10_fix_42 : decode cX10_fix 42 = .ok (.getfield 74, 3) := by decide +kernel
theorem dX10_fix_45 : decode cX10_fix 45 = .ok (.iconst 0, 1) := by decide +kernel
theorem dX10_fix_46 : decode cX10_fix 46 = .ok (.invokevirtual 420, 3) := by decide +kernel
theorem dX10_fix_49 : decode cX10_fix 49 = .ok (.aload_n 0, 1) := by decide +kernel
theorem dX10_fix_50 : decode cX10_fix 50 = .ok (.getfield 74, 3) := by decide +kernel
theorem dX10_fix_53 : decode cX10_fix 53 = .ok (.iload_n 1, 1) := by decide +kernel
theorem dX10_fix_54 : decode cX10_fix 54 = .ok (.invokevirtual 423, 3) := by decide +kernel
theorem dX10_fix_57 : decode cX10_fix 57 = .ok (.ireturn, 1) := by decide +kernel
theorem dX10_fixWithout_0 : decode cX10_fixWithout 0 = .ok (.aload_n 0, 1) := by decide +kernel
theorem dX10_fixWithout_1 : decode cX10_fixWithout 1 = .ok (.iload_n 1, 1) := by decide +kernel
theorem dX10_fixWithout_2 : decode cX10_fixWithout 2 = .ok (.invokevirtual 111, 3) := by decide +kernel
theorem dX10_fixWithout_5 : decode cX10_fixWithout 5 = .ok (.ifCond .eq 12, 3) := by decide +kernel
theorem dX10_fixWithout_8 : decode cX10_fixWithout 8 = .ok (.iload_n 2, 1) := by decide +kernel
theorem dX10_fixWithout_9 : decode cX10_fixWithout 9 = .ok (.ifCond .lt 8, 3) := by decide +kernel
theorem dX10_fixWithout_12 : decode cX10_fixWithout 12 = .ok (.iload_n 2, 1) := by decide +kernel
theorem dX10_fixWithout_13 : decode cX10_fixWithout 13 = .ok (.iconst 4, 1) := by decide +kernel
theorem dX10_fixWithout_14 : decode cX10_fixWithout 14 = .ok (.if_icmp .le 5, 3) := by decide +kernel
theorem dX10_fixWithout_17 : decode cX10_fixWithout 17 = .ok (.iconst (-1), 1) := by decide +kernel
theorem dX10_fixWithout_18 : decode cX10_fixWithout 18 = .ok (.ireturn, 1) := by decide +kernel
theorem dX10_fixWithout_19 : decode cX10_fixWithout 19 = .ok (.aload_n 0, 1) := by decide +kernel
theorem dX10_fixWithout_20 : decode cX10_fixWithout 20 = .ok (.getfield 74, 3) := by decide +kernel
theorem dX10_fixWithout_23 : decode cX10_fixWithout 23 = .ok (.aload_n 0, 1) := by decide +kernel
theorem dX10_fixWithout_24 : decode cX10_fixWithout 24 = .ok (.getfield 23, 3) := by decide +kernel
theorem dX10_fixWithout_27 : decode cX10_fixWithout 27 = .ok (.aload_n 0, 1) := by decide +kernel
theorem dX10_fixWithout_28 : decode cX10_fixWithout 28 = .ok (.getfield 47, 3) := by decide +kernel
theorem dX10_fixWithout_31 : decode cX10_fixWithout 31 = .ok (.iload_n 1, 1) := by decide +kernel
theorem dX10_fixWithout_32 : decode cX10_fixWithout 32 = .ok (.invokevirtual 413, 3) := by decide +kernel
theorem dX10_fixWithout_35 : decode cX10_fixWithout 35 = .ok (.aload_n 0, 1) := by decide +kernel
theorem dX10_fixWithout_36 : decode cX10_fixWithout 36 = .ok (.iload_n 1, 1) := by decide +kernel
theorem dX10_fixWithout_37 : decode cX10_fixWithout 37 = .ok (.invokevirtual 424, 3) := by decide +kernel
theorem dX10_fixWithout_40 : decode cX10_fixWithout 40 = .ok (.ifCond .eq 14, 3) := by decide +kernel
theorem dX10_fixWithout_43 : decode cX10_fixWithout 43 = .ok (.aload_n 0, 1) := by decide +kernel
theorem dX10_fixWithout_44 : decode cX10_fixWithout 44 = .ok (.getfield 74, 3) := by decide +kernel
theorem dX10_fixWithout_47 : decode cX10_fixWithout 47 = .ok (.getfield 417, 3) := by decide +kernel
theorem dX10_fixWithout_50 : decode cX10_fixWithout 50 = .ok (.iconst 4, 1) := by decide +kernel
theorem dX10_fixWithout_51 : decode cX10_fixWithout 51 = .ok (.if_icmp .ge 6, 3) := by decide +kernel
theorem dX10_fixWithout_54 : decode cX10_fixWithout 54 = .ok (.bipush (-2), 2) := by decide +kernel
theorem dX10_fixWithout_56 : decode cX10_fixWithout 56 = .ok (.ireturn, 1) := by decide +kernel
theorem dX10_fixWithout_57 : decode cX10_fixWithout 57 = .ok (.aload_n 0, 1) := by decide +kernel
theorem dX10_fixWithout_58 : decode cX10_fixWithout 58 = .ok (.getfield 74, 3) := by decide +kernel
theorem dX10_fixWithout_61 : decode cX10_fixWithout 61 = .ok (.iconst 0, 1) := by decide +kernel
theorem dX10_fixWithout_62 : decode cX10_fixWithout 62 = .ok (.invokevirtual 420, 3) := by decide +kernel
theorem dX10_fixWithout_65 : decode cX10_fixWithout 65 = .ok (.aload_n 0, 1) := by decide +kernel
theorem dX10_fixWithout_66 : decode cX10_fixWithout 66 = .ok (.getfield 74, 3) := by decide +kernel
theorem dX10_fixWithout_69 : decode cX10_fixWithout 69 = .ok (.iload_n 2, 1) := by decide +kernel
theorem dX10_fixWithout_70 : decode cX10_fixWithout 70 = .ok (.invokevirtual 423, 3) := by decide +kernel
theorem dX10_fixWithout_73 : decode cX10_fixWithout 73 = .ok (.ireturn, 1) := by decide +kernel
theorem dX10_hasBoth_0 : decode cX10_hasBoth 0 = .ok (.aload_n 0, 1) := by decide +kernel
theorem dX10_hasBoth_1 : decode cX10_hasBoth 1 = .ok (.getfield 23, 3) := by decide +kernel
theorem dX10_hasBoth_4 : decode cX10_hasBoth 4 = .ok (.getfield 127, 3) := by decide +kernel
theorem dX10_hasBoth_7 : decode cX10_hasBoth 7 = .ok (.iload_n 1, 1) := by decide +kernel
theorem dX10_hasBoth_8 : decode cX10_hasBoth 8 = .ok (.aaload, 1) := by decide +kernel
theorem dX10_hasBoth_9 : decode cX10_hasBoth 9 = .ok (.getfield 380, 3) := by decide +kernel
theorem dX10_hasBoth_12 : decode cX10_hasBoth 12 = .ok (.ifCond .eq 20, 3) := by decide +kernel
theorem dX10_hasBoth_15 : decode cX10_hasBoth 15 = .ok (.aload_n 0, 1) := by decide +kernel
theorem dX10_hasBoth_16 : decode cX10_hasBoth 16 = .ok (.getfield 47, 3) := by decide +kernel
theorem dX10_hasBoth_19 : decode cX10_hasBoth 19 = .ok (.getfield 374, 3) := by decide +kernel
theorem dX10_hasBoth_22 : decode cX10_hasBoth 22 = .ok (.iload_n 1, 1) := by decide +kernel
theorem dX10_hasBoth_23 : decode cX10_hasBoth 23 = .ok (.iaload, 1) := by decide +kernel
theorem dX10_hasBoth_24 : decode cX10_hasBoth 24 = .ok (.iconst (-1), 1) := by decide +kernel
theorem dX10_hasBoth_25 : decode cX10_hasBoth 25 = .ok (.if_icmp .eq 7, 3) := by decide +kernel
theorem dX10_hasBoth_28 : decode cX10_hasBoth 28 = .ok (.iconst 1, 1) := by decide +kernel
theorem dX10_hasBoth_29 : decode cX10_hasBoth 29 = .ok (.goto 4, 3) := by decide +kernel
theorem dX10_hasBoth_32 : decode cX10_hasBoth 32 = .ok (.iconst 0, 1) := by decide +kernel
theorem dX10_hasBoth_33 : decode cX10_hasBoth 33 = .ok (.ireturn, 1) := by decide +kernel
theorem dX10_suspect_0 : decode cX10_suspect 0 = .ok (.aload_n 0, 1) := by decide +kernel
theorem dX10_suspect_1 : decode cX10_suspect 1 = .ok (.getfield 74, 3) := by decide +kernel
theorem dX10_suspect_4 : decode cX10_suspect 4 = .ok (.aload_n 0, 1) := by decide +kernel
theorem dX10_suspect_5 : decode cX10_suspect 5 = .ok (.getfield 23, 3) := by decide +kernel
theorem dX10_suspect_8 : decode cX10_suspect 8 = .ok (.aload_n 0, 1) := by decide +kernel
theorem dX10_suspect_9 : decode cX10_suspect 9 = .ok (.getfield 47, 3) := by decide +kernel
theorem dX10_suspect_12 : decode cX10_suspect 12 = .ok (.iconst (-1), 1) := by decide +kernel
theorem dX10_suspect_13 : decode cX10_suspect 13 = .ok (.invokevirtual 413, 3) := by decide +kernel
theorem dX10_suspect_16 : decode cX10_suspect 16 = .ok (.aload_n 0, 1) := by decide +kernel
theorem dX10_suspect_17 : decode cX10_suspect 17 = .ok (.getfield 74, 3) := by decide +kernel
theorem dX10_suspect_20 : decode cX10_suspect 20 = .ok (.getfield 417, 3) := by decide +kernel
theorem dX10_suspect_23 : decode cX10_suspect 23 = .ok (.iconst 5, 1) := by decide +kernel
theorem dX10_suspect_24 : decode cX10_suspect 24 = .ok (.if_icmp .ge 6, 3) := by decide +kernel
theorem dX10_suspect_27 : decode cX10_suspect 27 = .ok (.bipush (-2), 2) := by decide +kernel
theorem dX10_suspect_29 : decode cX10_suspect 29 = .ok (.ireturn, 1) := by decide +kernel
theorem dX10_suspect_30 : decode cX10_suspect 30 = .ok (.iconst (-1), 1) := by decide +kernel
theorem dX10_suspect_31 : decode cX10_suspect 31 = .ok (.istore_n 1, 1) := by decide +kernel
theorem dX10_suspect_32 : decode cX10_suspect 32 = .ok (.iconst 0, 1) := by decide +kernel
theorem dX10_suspect_33 : decode cX10_suspect 33 = .ok (.istore_n 2, 1) := by decide +kernel
theorem dX10_suspect_34 : decode cX10_suspect 34 = .ok (.iconst 0, 1) := by decide +kernel
theorem dX10_suspect_35 : decode cX10_suspect 35 = .ok (.istore_n 3, 1) := by decide +kernel
theorem dX10_suspect_36 : decode cX10_suspect 36 = .ok (.iload_n 3, 1) := by decide +kernel
theorem dX10_suspect_37 : decode cX10_suspect 37 = .ok (.aload_n 0, 1) := by decide +kernel
theorem dX10_suspect_38 : decode cX10_suspect 38 = .ok (.getfield 23, 3) := by decide +kernel
theorem dX10_suspect_41 : decode cX10_suspect 41 = .ok (.getfield 135, 3) := by decide +kernel
theorem dX10_suspect_44 : decode cX10_suspect 44 = .ok (.if_icmp .ge 67, 3) := by decide +kernel
theorem dX10_suspect_47 : decode cX10_suspect 47 = .ok (.aload_n 0, 1) := by decide +kernel
theorem dX10_suspect_48 : decode cX10_suspect 48 = .ok (.iload_n 3, 1) := by decide +kernel
theorem dX10_suspect_49 : decode cX10_suspect 49 = .ok (.invokevirtual 424, 3) := by decide +kernel
theorem dX10_suspect_52 : decode cX10_suspect 52 = .ok (.ifCond .eq 53, 3) := by decide +kernel
theorem dX10_suspect_55 : decode cX10_suspect 55 = .ok (.aload_n 0, 1) := by decide +kernel
theorem dX10_suspect_56 : decode cX10_suspect 56 = .ok (.getfield 74, 3) := by decide +kernel
theorem dX10_suspect_59 : decode cX10_suspect 59 = .ok (.aload_n 0, 1) := by decide +kernel
theorem dX10_suspect_60 : decode cX10_suspect 60 = .ok (.getfield 23, 3) := by decide +kernel
theorem dX10_suspect_63 : decode cX10_suspect 63 = .ok (.aload_n 0, 1) := by decide +kernel
theorem dX10_suspect_64 : decode cX10_suspect 64 = .ok (.getfield 47, 3) := by decide +kernel
theorem dX10_suspect_67 : decode cX10_suspect 67 = .ok (.iload_n 3, 1) := by decide +kernel
theorem dX10_suspect_68 : decode cX10_suspect 68 = .ok (.invokevirtual 413, 3) := by decide +kernel
theorem dX10_suspect_71 : decode cX10_suspect 71 = .ok (.aload_n 0, 1) := by decide +kernel
theorem dX10_suspect_72 : decode cX10_suspect 72 = .ok (.getfield 74, 3) := by decide +kernel
theorem dX10_suspect_75 : decode cX10_suspect 75 = .ok (.iconst 0, 1) := by decide +kernel
theorem dX10_suspect_76 : decode cX10_suspect 76 = .ok (.invokevirtual 420, 3) := by decide +kernel
theorem dX10_suspect_79 : decode cX10_suspect 79 = .ok (.iload_n 1, 1) := by decide +kernel
theorem dX10_suspect_80 : decode cX10_suspect 80 = .ok (.iconst (-1), 1) := by decide +kernel
theorem dX10_suspect_81 : decode cX10_suspect 81 = .ok (.if_icmp .eq 14, 3) := by decide +kernel
theorem dX10_suspect_84 : decode cX10_suspect 84 = .ok (.aload_n 0, 1) := by decide +kernel
theorem dX10_suspect_85 : decode cX10_suspect 85 = .ok (.getfield 74, 3) := by decide +kernel
theorem dX10_suspect_88 : decode cX10_suspect 88 = .ok (.getfield 427, 3) := by decide +kernel
theorem dX10_suspect_91 : decode cX10_suspect 91 = .ok (.iload_n 2, 1) := by decide +kernel
theorem dX10_suspect_92 : decode cX10_suspect 92 = .ok (.if_icmp .ge 13, 3) := by decide +kernel
theorem dX10_suspect_95 : decode cX10_suspect 95 = .ok (.iload_n 3, 1) := by decide +kernel
theorem dX10_suspect_96 : decode cX10_suspect 96 = .ok (.istore_n 1, 1) := by decide +kernel
theorem dX10_suspect_97 : decode cX10_suspect 97 = .ok (.aload_n 0, 1) := by decide +kernel
theorem dX10_suspect_98 : decode cX10_suspect 98 = .ok (.getfield 74, 3) := by decide +kernel
theorem dX10_suspect_101 : decode cX10_suspect 101 = .ok (.getfield 427, 3) := by decide +kernel
theorem dX10_suspect_104 : decode cX10_suspect 104 = .ok (.istore_n 2, 1) := by decide +kernel
theorem dX10_suspect_105 : decode cX10_suspect 105 = .ok (.iinc 3 1, 3) := by decide +kernel
theorem dX10_suspect_108 : decode cX10_suspect 108 = .ok (.goto (-72), 3) := by decide +kernel
theorem dX10_suspect_111 : decode cX10_suspect 111 = .ok (.iload_n 1, 1) := by decide +kernel
theorem dX10_suspect_112 : decode cX10_suspect 112 = .ok (.ireturn, 1) := by decide +kernel
theorem dX10_spread_0 : decode cX10_spread 0 = .ok (.iload_n 1, 1) := by decide +kernel
theorem dX10_spread_1 : decode cX10_spread 1 = .ok (.ifCond .lt 10, 3) := by decide +kernel
theorem dX10_spread_4 : decode cX10_spread 4 = .ok (.iload_n 1, 1) := by decide +kernel
theorem dX10_spread_5 : decode cX10_spread 5 = .ok (.sipush 9999, 3) := by decide +kernel
theorem dX10_spread_8 : decode cX10_spread 8 = .ok (.if_icmp .le 5, 3) := by decide +kernel
theorem dX10_spread_11 : decode cX10_spread 11 = .ok (.iconst (-1), 1) := by decide +kernel
theorem dX10_spread_12 : decode cX10_spread 12 = .ok (.ireturn, 1) := by decide +kernel
theorem dX10_spread_13 : decode cX10_spread 13 = .ok (.aload_n 0, 1) := by decide +kernel
theorem dX10_spread_14 : decode cX10_spread 14 = .ok (.getfield 74, 3) := by decide +kernel
theorem dX10_spread_17 : decode cX10_spread 17 = .ok (.aload_n 0, 1) := by decide +kernel
theorem dX10_spread_18 : decode cX10_spread 18 = .ok (.getfield 23, 3) := by decide +kernel
theorem dX10_spread_21 : decode cX10_spread 21 = .ok (.aload_n 0, 1) := by decide +kernel
theorem dX10_spread_22 : decode cX10_spread 22 = .ok (.getfield 47, 3) := by decide +kernel
theorem dX10_spread_25 : decode cX10_spread 25 = .ok (.iconst (-1), 1) := by decide +kernel
theorem dX10_spread_26 : decode cX10_spread 26 = .ok (.invokevirtual 413, 3) := by decide +kernel
theorem dX10_spread_29 : decode cX10_spread 29 = .ok (.aload_n 0, 1) := by decide +kernel
theorem dX10_spread_30 : decode cX10_spread 30 = .ok (.getfield 74, 3) := by decide +kernel
theorem dX10_spread_33 : decode cX10_spread 33 = .ok (.getfield 417, 3) := by decide +kernel
theorem dX10_spread_36 : decode cX10_spread 36 = .ok (.iconst 4, 1) := by decide +kernel
theorem dX10_spread_37 : decode cX10_spread 37 = .ok (.if_icmp .ge 6, 3) := by decide +kernel
theorem dX10_spread_40 : decode cX10_spread 40 = .ok (.bipush (-2), 2) := by decide +kernel
theorem dX10_spread_42 : decode cX10_spread 42 = .ok (.ireturn, 1) := by decide +kernel
theorem dX10_spread_43 : decode cX10_spread 43 = .ok (.aload_n 0, 1) := by decide +kernel
theorem dX10_spread_44 : decode cX10_spread 44 = .ok (.getfield 74, 3) := by decide +kernel
theorem dX10_spread_47 : decode cX10_spread 47 = .ok (.iload_n 1, 1) := by decide +kernel
theorem dX10_spread_48 : decode cX10_spread 48 = .ok (.invokevirtual 420, 3) := by decide +kernel
theorem dX10_spread_51 : decode cX10_spread 51 = .ok (.aload_n 0, 1) := by decide +kernel
theorem dX10_spread_52 : decode cX10_spread 52 = .ok (.getfield 74, 3) := by decide +kernel
theorem dX10_spread_55 : decode cX10_spread 55 = .ok (.getfield 430, 3) := by decide +kernel
theorem dX10_spread_58 : decode cX10_spread 58 = .ok (.ireturn, 1) := by decide +kernel
theorem dX10_distance_0 : decode cX10_distance 0 = .ok (.aload_n 0, 1) := by decide +kernel
theorem dX10_distance_1 : decode cX10_distance 1 = .ok (.iload_n 1, 1) := by decide +kernel
theorem dX10_distance_2 : decode cX10_distance 2 = .ok (.invokevirtual 111, 3) := by decide +kernel
theorem dX10_distance_5 : decode cX10_distance 5 = .ok (.ifCond .eq 11, 3) := by decide +kernel
theorem dX10_distance_8 : decode cX10_distance 8 = .ok (.aload_n 0, 1) := by decide +kernel
theorem dX10_distance_9 : decode cX10_distance 9 = .ok (.iload_n 2, 1) := by decide +kernel
theorem dX10_distance_10 : decode cX10_distance 10 = .ok (.invokevirtual 111, 3) := by decide +kernel
theorem dX10_distance_13 : decode cX10_distance 13 = .ok (.ifCond .ne 5, 3) := by decide +kernel
theorem dX10_distance_16 : decode cX10_distance 16 = .ok (.iconst (-1), 1) := by decide +kernel
theorem dX10_distance_17 : decode cX10_distance 17 = .ok (.ireturn, 1) := by decide +kernel
theorem dX10_distance_18 : decode cX10_distance 18 = .ok (.aload_n 0, 1) := by decide +kernel
theorem dX10_distance_19 : decode cX10_distance 19 = .ok (.getfield 23, 3) := by decide +kernel
theorem dX10_distance_22 : decode cX10_distance 22 = .ok (.getfield 127, 3) := by decide +kernel
theorem dX10_distance_25 : decode cX10_distance 25 = .ok (.iload_n 1, 1) := by decide +kernel
theorem dX10_distance_26 : decode cX10_distance 26 = .ok (.aaload, 1) := by decide +kernel
theorem dX10_distance_27 : decode cX10_distance 27 = .ok (.astore_n 3, 1) := by decide +kernel
theorem dX10_distance_28 : decode cX10_distance 28 = .ok (.aload_n 0, 1) := by decide +kernel
theorem dX10_distance_29 : decode cX10_distance 29 = .ok (.getfield 23, 3) := by decide +kernel
theorem dX10_distance_32 : decode cX10_distance 32 = .ok (.getfield 127, 3) := by decide +kernel
theorem dX10_distance_35 : decode cX10_distance 35 = .ok (.iload_n 2, 1) := by decide +kernel
theorem dX10_distance_36 : decode cX10_distance 36 = .ok (.aaload, 1) := by decide +kernel
theorem dX10_distance_37 : decode cX10_distance 37 = .ok (.astore 4, 2) := by decide +kernel
theorem dX10_distance_39 : decode cX10_distance 39 = .ok (.aload_n 3, 1) := by decide +kernel
theorem dX10_distance_40 : decode cX10_distance 40 = .ok (.getfield 380, 3) := by decide +kernel
theorem dX10_distance_43 : decode cX10_distance 43 = .ok (.ifCond .eq 11, 3) := by decide +kernel
theorem dX10_distance_46 : decode cX10_distance 46 = .ok (.aload 4, 2) := by decide +kernel
theorem dX10_distance_48 : decode cX10_distance 48 = .ok (.getfield 380, 3) := by decide +kernel
theorem dX10_distance_51 : decode cX10_distance 51 = .ok (.ifCond .ne 6, 3) := by decide +kernel
theorem dX10_distance_54 : decode cX10_distance 54 = .ok (.bipush (-2), 2) := by decide +kernel
theorem dX10_distance_56 : decode cX10_distance 56 = .ok (.ireturn, 1) := by decide +kernel
theorem dX10_distance_57 : decode cX10_distance 57 = .ok (.aload_n 0, 1) := by decide +kernel
theorem dX10_distance_58 : decode cX10_distance 58 = .ok (.getfield 74, 3) := by decide +kernel
theorem dX10_distance_61 : decode cX10_distance 61 = .ok (.aload_n 3, 1) := by decide +kernel
theorem dX10_distance_62 : decode cX10_distance 62 = .ok (.getfield 386, 3) := by decide +kernel
theorem dX10_distance_65 : decode cX10_distance 65 = .ok (.aload 4, 2) := by decide +kernel
theorem dX10_distance_67 : decode cX10_distance 67 = .ok (.getfield 386, 3) := by decide +kernel
theorem dX10_distance_70 : decode cX10_distance 70 = .ok (.isub, 1) := by decide +kernel
theorem dX10_distance_71 : decode cX10_distance 71 = .ok (.aload_n 3, 1) := by decide +kernel
theorem dX10_distance_72 : decode cX10_distance 72 = .ok (.getfield 392, 3) := by decide +kernel
theorem dX10_distance_75 : decode cX10_distance 75 = .ok (.aload 4, 2) := by decide +kernel
theorem dX10_distance_77 : decode cX10_distance 77 = .ok (.getfield 392, 3) := by decide +kernel
theorem dX10_distance_80 : decode cX10_distance 80 = .ok (.isub, 1) := by decide +kernel
theorem dX10_distance_81 : decode cX10_distance 81 = .ok (.aload_n 3, 1) := by decide +kernel
theorem dX10_distance_82 : decode cX10_distance 82 = .ok (.getfield 398, 3) := by decide +kernel
theorem dX10_distance_85 : decode cX10_distance 85 = .ok (.aload 4, 2) := by decide +kernel
theorem dX10_distance_87 : decode cX10_distance 87 = .ok (.getfield 398, 3) := by decide +kernel
theorem dX10_distance_90 : decode cX10_distance 90 = .ok (.isub, 1) := by decide +kernel
theorem dX10_distance_91 : decode cX10_distance 91 = .ok (.invokevirtual 404, 3) := by decide +kernel
theorem dX10_distance_94 : decode cX10_distance 94 = .ok (.ireturn, 1) := by decide +kernel
theorem dX10_undo_0 : decode cX10_undo 0 = .ok (.aload_n 0, 1) := by decide +kernel
theorem dX10_undo_1 : decode cX10_undo 1 = .ok (.getfield 60, 3) := by decide +kernel
theorem dX10_undo_4 : decode cX10_undo 4 = .ok (.getfield 433, 3) := by decide +kernel
theorem dX10_undo_7 : decode cX10_undo 7 = .ok (.ifCond .ne 5, 3) := by decide +kernel
theorem dX10_undo_10 : decode cX10_undo 10 = .ok (.iconst (-1), 1) := by decide +kernel
theorem dX10_undo_11 : decode cX10_undo 11 = .ok (.ireturn, 1) := by decide +kernel
theorem dX10_undo_12 : decode cX10_undo 12 = .ok (.aload_n 0, 1) := by decide +kernel
theorem dX10_undo_13 : decode cX10_undo 13 = .ok (.getfield 60, 3) := by decide +kernel
theorem dX10_undo_16 : decode cX10_undo 16 = .ok (.aload_n 0, 1) := by decide +kernel
theorem dX10_undo_17 : decode cX10_undo 17 = .ok (.getfield 47, 3) := by decide +kernel
theorem dX10_undo_20 : decode cX10_undo 20 = .ok (.invokevirtual 436, 3) := by decide +kernel
theorem dX10_undo_23 : decode cX10_undo 23 = .ok (.aload_n 0, 1) := by decide +kernel
theorem dX10_undo_24 : decode cX10_undo 24 = .ok (.getfield 60, 3) := by decide +kernel
theorem dX10_undo_27 : decode cX10_undo 27 = .ok (.getfield 433, 3) := by decide +kernel
theorem dX10_undo_30 : decode cX10_undo 30 = .ok (.ireturn, 1) := by decide +kernel
theorem dX10_keep_0 : decode cX10_keep 0 = .ok (.aload_n 0, 1) := by decide +kernel
theorem dX10_keep_1 : decode cX10_keep 1 = .ok (.getfield 51, 3) := by decide +kernel
theorem dX10_keep_4 : decode cX10_keep 4 = .ok (.aload_n 0, 1) := by decide +kernel
theorem dX10_keep_5 : decode cX10_keep 5 = .ok (.getfield 47, 3) := by decide +kernel
theorem dX10_keep_8 : decode cX10_keep 8 = .ok (.invokevirtual 368, 3) := by decide +kernel
theorem dX10_keep_11 : decode cX10_keep 11 = .ok (.aload_n 0, 1) := by decide +kernel
theorem dX10_keep_12 : decode cX10_keep 12 = .ok (.iconst 1, 1) := by decide +kernel
theorem dX10_keep_13 : decode cX10_keep 13 = .ok (.putfield 93, 3) := by decide +kernel
theorem dX10_keep_16 : decode cX10_keep 16 = .ok (.aload_n 0, 1) := by decide +kernel
theorem dX10_keep_17 : decode cX10_keep 17 = .ok (.getfield 47, 3) := by decide +kernel
theorem dX10_keep_20 : decode cX10_keep 20 = .ok (.getfield 274, 3) := by decide +kernel
theorem dX10_keep_23 : decode cX10_keep 23 = .ok (.ireturn, 1) := by decide +kernel
theorem dX10_back_0 : decode cX10_back 0 = .ok (.aload_n 0, 1) := by decide +kernel
theorem dX10_back_1 : decode cX10_back 1 = .ok (.getfield 93, 3) := by decide +kernel
theorem dX10_back_4 : decode cX10_back 4 = .ok (.ifCond .ne 5, 3) := by decide +kernel
theorem dX10_back_7 : decode cX10_back 7 = .ok (.iconst (-1), 1) := by decide +kernel
theorem dX10_back_8 : decode cX10_back 8 = .ok (.ireturn, 1) := by decide +kernel
theorem dX10_back_9 : decode cX10_back 9 = .ok (.aload_n 0, 1) := by decide +kernel
theorem dX10_back_10 : decode cX10_back 10 = .ok (.getfield 47, 3) := by decide +kernel
theorem dX10_back_13 : decode cX10_back 13 = .ok (.aload_n 0, 1) := by decide +kernel
theorem dX10_back_14 : decode cX10_back 14 = .ok (.getfield 51, 3) := by decide +kernel
theorem dX10_back_17 : decode cX10_back 17 = .ok (.invokevirtual 368, 3) := by decide +kernel
theorem dX10_back_20 : decode cX10_back 20 = .ok (.aload_n 0, 1) := by decide +kernel
theorem dX10_back_21 : decode cX10_back 21 = .ok (.getfield 60, 3) := by decide +kernel
theorem dX10_back_24 : decode cX10_back 24 = .ok (.invokevirtual 97, 3) := by decide +kernel
theorem dX10_back_27 : decode cX10_back 27 = .ok (.aload_n 0, 1) := by decide +kernel
theorem dX10_back_28 : decode cX10_back 28 = .ok (.getfield 47, 3) := by decide +kernel
theorem dX10_back_31 : decode cX10_back 31 = .ok (.getfield 274, 3) := by decide +kernel
theorem dX10_back_34 : decode cX10_back 34 = .ok (.ireturn, 1) := by decide +kernel
theorem dX10_count_0 : decode cX10_count 0 = .ok (.iload_n 1, 1) := by decide +kernel
theorem dX10_count_1 : decode cX10_count 1 = .ok (.tableswitch 168 0 12 #[67, 75, 83, 91, 99, 107, 115, 123, 131, 139, 147, 155, 160], 67) := by decide +kernel
theorem dX10_count_68 : decode cX10_count 68 = .ok (.aload_n 0, 1) := by decide +kernel
theorem dX10_count_69 : decode cX10_count 69 = .ok (.getfield 23, 3) := by decide +kernel
theorem dX10_count_72 : decode cX10_count 72 = .ok (.getfield 135, 3) := by decide +kernel
theorem dX10_count_75 : decode cX10_count 75 = .ok (.ireturn, 1) := by decide +kernel
theorem dX10_count_76 : decode cX10_count 76 = .ok (.aload_n 0, 1) := by decide +kernel
theorem dX10_count_77 : decode cX10_count 77 = .ok (.getfield 23, 3) := by decide +kernel
theorem dX10_count_80 : decode cX10_count 80 = .ok (.invokevirtual 439, 3) := by decide +kernel
theorem dX10_count_83 : decode cX10_count 83 = .ok (.ireturn, 1) := by decide +kernel
theorem dX10_count_84 : decode cX10_count 84 = .ok (.aload_n 0, 1) := by decide +kernel
theorem dX10_count_85 : decode cX10_count 85 = .ok (.getfield 47, 3) := by decide +kernel
theorem dX10_count_88 : decode cX10_count 88 = .ok (.getfield 274, 3) := by decide +kernel
theorem dX10_count_91 : decode cX10_count 91 = .ok (.ireturn, 1) := by decide +kernel
theorem dX10_count_92 : decode cX10_count 92 = .ok (.aload_n 0, 1) := by decide +kernel
theorem dX10_count_93 : decode cX10_count 93 = .ok (.getfield 47, 3) := by decide +kernel
theorem dX10_count_96 : decode cX10_count 96 = .ok (.invokevirtual 371, 3) := by decide +kernel
theorem dX10_count_99 : decode cX10_count 99 = .ok (.ireturn, 1) := by decide +kernel
theorem dX10_count_100 : decode cX10_count 100 = .ok (.aload_n 0, 1) := by decide +kernel
theorem dX10_count_101 : decode cX10_count 101 = .ok (.getfield 23, 3) := by decide +kernel
theorem dX10_count_104 : decode cX10_count 104 = .ok (.getfield 442, 3) := by decide +kernel
theorem dX10_count_107 : decode cX10_count 107 = .ok (.ireturn, 1) := by decide +kernel
theorem dX10_count_108 : decode cX10_count 108 = .ok (.aload_n 0, 1) := by decide +kernel
theorem dX10_count_109 : decode cX10_count 109 = .ok (.getfield 23, 3) := by decide +kernel
theorem dX10_count_112 : decode cX10_count 112 = .ok (.invokevirtual 445, 3) := by decide +kernel
theorem dX10_count_115 : decode cX10_count 115 = .ok (.ireturn, 1) := by decide +kernel
theorem dX10_count_116 : decode cX10_count 116 = .ok (.aload_n 0, 1) := by decide +kernel
theorem dX10_count_117 : decode cX10_count 117 = .ok (.getfield 47, 3) := by decide +kernel
theorem dX10_count_120 : decode cX10_count 120 = .ok (.invokevirtual 448, 3) := by decide +kernel
theorem dX10_count_123 : decode cX10_count 123 = .ok (.ireturn, 1) := by decide +kernel
theorem dX10_count_124 : decode cX10_count 124 = .ok (.aload_n 0, 1) := by decide +kernel
theorem dX10_count_125 : decode cX10_count 125 = .ok (.getfield 23, 3) := by decide +kernel
theorem dX10_count_128 : decode cX10_count 128 = .ok (.getfield 258, 3) := by decide +kernel
theorem dX10_count_131 : decode cX10_count 131 = .ok (.ireturn, 1) := by decide +kernel
theorem dX10_count_132 : decode cX10_count 132 = .ok (.aload_n 0, 1) := by decide +kernel
theorem dX10_count_133 : decode cX10_count 133 = .ok (.getfield 23, 3) := by decide +kernel
theorem dX10_count_136 : decode cX10_count 136 = .ok (.getfield 222, 3) := by decide +kernel
theorem dX10_count_139 : decode cX10_count 139 = .ok (.ireturn, 1) := by decide +kernel
theorem dX10_count_140 : decode cX10_count 140 = .ok (.aload_n 0, 1) := by decide +kernel
theorem dX10_count_141 : decode cX10_count 141 = .ok (.getfield 23, 3) := by decide +kernel
theorem dX10_count_144 : decode cX10_count 144 = .ok (.getfield 451, 3) := by decide +kernel
theorem dX10_count_147 : decode cX10_count 147 = .ok (.ireturn, 1) := by decide +kernel
theorem dX10_count_148 : decode cX10_count 148 = .ok (.aload_n 0, 1) := by decide +kernel
theorem dX10_count_149 : decode cX10_count 149 = .ok (.getfield 23, 3) := by decide +kernel
theorem dX10_count_152 : decode cX10_count 152 = .ok (.getfield 454, 3) := by decide +kernel
theorem dX10_count_155 : decode cX10_count 155 = .ok (.ireturn, 1) := by decide +kernel
theorem dX10_count_156 : decode cX10_count 156 = .ok (.aload_n 0, 1) := by decide +kernel
theorem dX10_count_157 : decode cX10_count 157 = .ok (.getfield 78, 3) := by decide +kernel
theorem dX10_count_160 : decode cX10_count 160 = .ok (.ireturn, 1) := by decide +kernel
theorem dX10_count_161 : decode cX10_count 161 = .ok (.aload_n 0, 1) := by decide +kernel
theorem dX10_count_162 : decode cX10_count 162 = .ok (.getfield 60, 3) := by decide +kernel
theorem dX10_count_165 : decode cX10_count 165 = .ok (.getfield 433, 3) := by decide +kernel
theorem dX10_count_168 : decode cX10_count 168 = .ok (.ireturn, 1) := by decide +kernel
theorem dX10_count_169 : decode cX10_count 169 = .ok (.iconst (-1), 1) := by decide +kernel
theorem dX10_count_170 : decode cX10_count 170 = .ok (.ireturn, 1) := by decide +kernel
theorem dX10_nextNumber_0 : decode cX10_nextNumber 0 = .ok (.iload_n 0, 1) := by decide +kernel
theorem dX10_nextNumber_1 : decode cX10_nextNumber 1 = .ok (.ldc_w 457, 3) := by decide +kernel
theorem dX10_nextNumber_4 : decode cX10_nextNumber 4 = .ok (.imul, 1) := by decide +kernel
theorem dX10_nextNumber_5 : decode cX10_nextNumber 5 = .ok (.sipush 12345, 3) := by decide +kernel
theorem dX10_nextNumber_8 : decode cX10_nextNumber 8 = .ok (.iadd, 1) := by decide +kernel
theorem dX10_nextNumber_9 : decode cX10_nextNumber 9 = .ok (.ldc 153, 2) := by decide +kernel
theorem dX10_nextNumber_11 : decode cX10_nextNumber 11 = .ok (.iand, 1) := by decide +kernel
theorem dX10_nextNumber_12 : decode cX10_nextNumber 12 = .ok (.ireturn, 1) := by decide +kernel
theorem dX10_noiseOf_0 : decode cX10_noiseOf 0 = .ok (.iconst 2, 1) := by decide +kernel
theorem dX10_noiseOf_1 : decode cX10_noiseOf 1 = .ok (.iload_n 1, 1) := by decide +kernel
theorem dX10_noiseOf_2 : decode cX10_noiseOf 2 = .ok (.imul, 1) := by decide +kernel
theorem dX10_noiseOf_3 : decode cX10_noiseOf 3 = .ok (.iconst 1, 1) := by decide +kernel
theorem dX10_noiseOf_4 : decode cX10_noiseOf 4 = .ok (.iadd, 1) := by decide +kernel
theorem dX10_noiseOf_5 : decode cX10_noiseOf 5 = .ok (.istore_n 2, 1) := by decide +kernel
theorem dX10_noiseOf_6 : decode cX10_noiseOf 6 = .ok (.iload_n 2, 1) := by decide +kernel
theorem dX10_noiseOf_7 : decode cX10_noiseOf 7 = .ok (.ifCond .le 15, 3) := by decide +kernel
theorem dX10_noiseOf_10 : decode cX10_noiseOf 10 = .ok (.iload_n 0, 1) := by decide +kernel
theorem dX10_noiseOf_11 : decode cX10_noiseOf 11 = .ok (.ldc_w 458, 3) := by decide +kernel
theorem dX10_noiseOf_14 : decode cX10_noiseOf 14 = .ok (.idiv, 1) := by decide +kernel
theorem dX10_noiseOf_15 : decode cX10_noiseOf 15 = .ok (.iload_n 2, 1) := by decide +kernel
theorem dX10_noiseOf_16 : decode cX10_noiseOf 16 = .ok (.irem, 1) := by decide +kernel
theorem dX10_noiseOf_17 : decode cX10_noiseOf 17 = .ok (.iload_n 1, 1) := by decide +kernel
theorem dX10_noiseOf_18 : decode cX10_noiseOf 18 = .ok (.isub, 1) := by decide +kernel
theorem dX10_noiseOf_19 : decode cX10_noiseOf 19 = .ok (.goto 4, 3) := by decide +kernel
theorem dX10_noiseOf_22 : decode cX10_noiseOf 22 = .ok (.iconst 0, 1) := by decide +kernel
theorem dX10_noiseOf_23 : decode cX10_noiseOf 23 = .ok (.ireturn, 1) := by decide +kernel
theorem dX10_parityOf_0 : decode cX10_parityOf 0 = .ok (.iconst 0, 1) := by decide +kernel
theorem dX10_parityOf_1 : decode cX10_parityOf 1 = .ok (.istore_n 1, 1) := by decide +kernel
theorem dX10_parityOf_2 : decode cX10_parityOf 2 = .ok (.iconst 0, 1) := by decide +kernel
theorem dX10_parityOf_3 : decode cX10_parityOf 3 = .ok (.istore_n 2, 1) := by decide +kernel
theorem dX10_parityOf_4 : decode cX10_parityOf 4 = .ok (.iload_n 2, 1) := by decide +kernel
theorem dX10_parityOf_5 : decode cX10_parityOf 5 = .ok (.iconst 4, 1) := by decide +kernel
theorem dX10_parityOf_6 : decode cX10_parityOf 6 = .ok (.if_icmp .ge 55, 3) := by decide +kernel
theorem dX10_parityOf_9 : decode cX10_parityOf 9 = .ok (.iconst 0, 1) := by decide +kernel
theorem dX10_parityOf_10 : decode cX10_parityOf 10 = .ok (.istore_n 3, 1) := by decide +kernel
theorem dX10_parityOf_11 : decode cX10_parityOf 11 = .ok (.iconst 1, 1) := by decide +kernel
theorem dX10_parityOf_12 : decode cX10_parityOf 12 = .ok (.istore 4, 2) := by decide +kernel
theorem dX10_parityOf_14 : decode cX10_parityOf 14 = .ok (.iload 4, 2) := by decide +kernel
theorem dX10_parityOf_16 : decode cX10_parityOf 16 = .ok (.bipush 8, 2) := by decide +kernel
theorem dX10_parityOf_18 : decode cX10_parityOf 18 = .ok (.if_icmp .gt 31, 3) := by decide +kernel
theorem dX10_parityOf_21 : decode cX10_parityOf 21 = .ok (.iload 4, 2) := by decide +kernel
theorem dX10_parityOf_23 : decode cX10_parityOf 23 = .ok (.iload_n 2, 1) := by decide +kernel
theorem dX10_parityOf_24 : decode cX10_parityOf 24 = .ok (.iushr, 1) := by decide +kernel
theorem dX10_parityOf_25 : decode cX10_parityOf 25 = .ok (.iconst 1, 1) := by decide +kernel
theorem dX10_parityOf_26 : decode cX10_parityOf 26 = .ok (.iand, 1) := by decide +kernel
theorem dX10_parityOf_27 : decode cX10_parityOf 27 = .ok (.iconst 1, 1) := by decide +kernel
theorem dX10_parityOf_28 : decode cX10_parityOf 28 = .ok (.if_icmp .ne 15, 3) := by decide +kernel
theorem dX10_parityOf_31 : decode cX10_parityOf 31 = .ok (.iload_n 3, 1) := by decide +kernel
theorem dX10_parityOf_32 : decode cX10_parityOf 32 = .ok (.iload_n 0, 1) := by decide +kernel
theorem dX10_parityOf_33 : decode cX10_parityOf 33 = .ok (.bipush 8, 2) := by decide +kernel
theorem dX10_parityOf_35 : decode cX10_parityOf 35 = .ok (.iload 4, 2) := by decide +kernel
theorem dX10_parityOf_37 : decode cX10_parityOf 37 = .ok (.isub, 1) := by decide +kernel
theorem dX10_parityOf_38 : decode cX10_parityOf 38 = .ok (.iushr, 1) := by decide +kernel
theorem dX10_parityOf_39 : decode cX10_parityOf 39 = .ok (.iconst 1, 1) := by decide +kernel
theorem dX10_parityOf_40 : decode cX10_parityOf 40 = .ok (.iand, 1) := by decide +kernel
theorem dX10_parityOf_41 : decode cX10_parityOf 41 = .ok (.ixor, 1) := by decide +kernel
theorem dX10_parityOf_42 : decode cX10_parityOf 42 = .ok (.istore_n 3, 1) := by decide +kernel
theorem dX10_parityOf_43 : decode cX10_parityOf 43 = .ok (.iinc 4 1, 3) := by decide +kernel
theorem dX10_parityOf_46 : decode cX10_parityOf 46 = .ok (.goto (-32), 3) := by decide +kernel
theorem dX10_parityOf_49 : decode cX10_parityOf 49 = .ok (.iload_n 1, 1) := by decide +kernel
theorem dX10_parityOf_50 : decode cX10_parityOf 50 = .ok (.iconst 1, 1) := by decide +kernel
theorem dX10_parityOf_51 : decode cX10_parityOf 51 = .ok (.ishl, 1) := by decide +kernel
theorem dX10_parityOf_52 : decode cX10_parityOf 52 = .ok (.iload_n 3, 1) := by decide +kernel
theorem dX10_parityOf_53 : decode cX10_parityOf 53 = .ok (.ior, 1) := by decide +kernel
theorem dX10_parityOf_54 : decode cX10_parityOf 54 = .ok (.istore_n 1, 1) := by decide +kernel
theorem dX10_parityOf_55 : decode cX10_parityOf 55 = .ok (.iinc 2 1, 3) := by decide +kernel
theorem dX10_parityOf_58 : decode cX10_parityOf 58 = .ok (.goto (-54), 3) := by decide +kernel
theorem dX10_parityOf_61 : decode cX10_parityOf 61 = .ok (.iload_n 1, 1) := by decide +kernel
theorem dX10_parityOf_62 : decode cX10_parityOf 62 = .ok (.ireturn, 1) := by decide +kernel
theorem dX10_subframe_0 : decode cX10_subframe 0 = .ok (.iload_n 0, 1) := by decide +kernel
theorem dX10_subframe_1 : decode cX10_subframe 1 = .ok (.bipush 6, 2) := by decide +kernel
theorem dX10_subframe_3 : decode cX10_subframe 3 = .ok (.ishl, 1) := by decide +kernel
theorem dX10_subframe_4 : decode cX10_subframe 4 = .ok (.iload_n 1, 1) := by decide +kernel
theorem dX10_subframe_5 : decode cX10_subframe 5 = .ok (.ior, 1) := by decide +kernel
theorem dX10_subframe_6 : decode cX10_subframe 6 = .ok (.istore_n 2, 1) := by decide +kernel
theorem dX10_subframe_7 : decode cX10_subframe 7 = .ok (.ldc_w 459, 3) := by decide +kernel
theorem dX10_subframe_10 : decode cX10_subframe 10 = .ok (.iload_n 2, 1) := by decide +kernel
theorem dX10_subframe_11 : decode cX10_subframe 11 = .ok (.iconst 4, 1) := by decide +kernel
theorem dX10_subframe_12 : decode cX10_subframe 12 = .ok (.ishl, 1) := by decide +kernel
theorem dX10_subframe_13 : decode cX10_subframe 13 = .ok (.ior, 1) := by decide +kernel
theorem dX10_subframe_14 : decode cX10_subframe 14 = .ok (.iload_n 2, 1) := by decide +kernel
theorem dX10_subframe_15 : decode cX10_subframe 15 = .ok (.invokestatic 460, 3) := by decide +kernel
theorem dX10_subframe_18 : decode cX10_subframe 18 = .ok (.ior, 1) := by decide +kernel
theorem dX10_subframe_19 : decode cX10_subframe 19 = .ok (.ireturn, 1) := by decide +kernel
theorem dX11_init_0 : decode cX11_init 0 = .ok (.aload_n 0, 1) := by decide +kernel
theorem dX11_init_1 : decode cX11_init 1 = .ok (.invokespecial 1, 3) := by decide +kernel
theorem dX11_init_4 : decode cX11_init 4 = .ok (.aload_n 0, 1) := by decide +kernel
theorem dX11_init_5 : decode cX11_init 5 = .ok (.sipush 700, 3) := by decide +kernel
theorem dX11_init_8 : decode cX11_init 8 = .ok (.newarray .int, 2) := by decide +kernel
theorem dX11_init_10 : decode cX11_init 10 = .ok (.putfield 7, 3) := by decide +kernel
theorem dX11_init_13 : decode cX11_init 13 = .ok (.aload_n 0, 1) := by decide +kernel
theorem dX11_init_14 : decode cX11_init 14 = .ok (.bipush 68, 2) := by decide +kernel
theorem dX11_init_16 : decode cX11_init 16 = .ok (.newarray .int, 2) := by decide +kernel
theorem dX11_init_18 : decode cX11_init 18 = .ok (.dup, 1) := by decide +kernel
theorem dX11_init_19 : decode cX11_init 19 = .ok (.iconst 0, 1) := by decide +kernel
theorem dX11_init_20 : decode cX11_init 20 = .ok (.bipush 98, 2) := by decide +kernel
theorem dX11_init_22 : decode cX11_init 22 = .ok (.iastore, 1) := by decide +kernel
theorem dX11_init_23 : decode cX11_init 23 = .ok (.dup, 1) := by decide +kernel
theorem dX11_init_24 : decode cX11_init 24 = .ok (.iconst 1, 1) := by decide +kernel
theorem dX11_init_25 : decode cX11_init 25 = .ok (.bipush 105, 2) := by decide +kernel
theorem dX11_init_27 : decode cX11_init 27 = .ok (.iastore, 1) := by decide +kernel
theorem dX11_init_28 : decode cX11_init 28 = .ok (.dup, 1) := by decide +kernel
theorem dX11_init_29 : decode cX11_init 29 = .ok (.iconst 2, 1) := by decide +kernel
theorem dX11_init_30 : decode cX11_init 30 = .ok (.bipush 114, 2) := by decide +kernel
theorem dX11_init_32 : decode cX11_init 32 = .ok (.iastore, 1) := by decide +kernel
theorem dX11_init_33 : decode cX11_init 33 = .ok (.dup, 1) := by decide +kernel
theorem dX11_init_34 : decode cX11_init 34 = .ok (.iconst 3, 1) := by decide +kernel
theorem dX11_init_35 : decode cX11_init 35 = .ok (.bipush 100, 2) := by decide +kernel
theorem dX11_init_37 : decode cX11_init 37 = .ok (.iastore, 1) := by decide +kernel
theorem dX11_init_38 : decode cX11_init 38 = .ok (.dup, 1) := by decide +kernel
theorem dX11_init_39 : decode cX11_init 39 = .ok (.iconst 4, 1) := by decide +kernel
theorem dX11_init_40 : decode cX11_init 40 = .ok (.bipush 32, 2) := by decide +kernel
theorem dX11_init_42 : decode cX11_init 42 = .ok (.iastore, 1) := by decide +kernel
theorem dX11_init_43 : decode cX11_init 43 = .ok (.dup, 1) := by decide +kernel
theorem dX11_init_44 : decode cX11_init 44 = .ok (.iconst 5, 1) := by decide +kernel
theorem dX11_init_45 : decode cX11_init 45 = .ok (.bipush 104, 2) := by decide +kernel
theorem dX11_init_47 : decode cX11_init 47 = .ok (.iastore, 1) := by decide +kernel
theorem dX11_init_48 : decode cX11_init 48 = .ok (.dup, 1) := by decide +kernel
theorem dX11_init_49 : decode cX11_init 49 = .ok (.bipush 6, 2) := by decide +kernel
theorem dX11_init_51 : decode cX11_init 51 = .ok (.bipush 101, 2) := by decide +kernel
theorem dX11_init_53 : decode cX11_init 53 = .ok (.iastore, 1) := by decide +kernel
theorem dX11_init_54 : decode cX11_init 54 = .ok (.dup, 1) := by decide +kernel
theorem dX11_init_55 : decode cX11_init 55 = .ok (.bipush 7, 2) := by decide +kernel
theorem dX11_init_57 : decode cX11_init 57 = .ok (.bipush 97, 2) := by decide +kernel
theorem dX11_init_59 : decode cX11_init 59 = .ok (.iastore, 1) := by decide +kernel
theorem dX11_init_60 : decode cX11_init 60 = .ok (.dup, 1) := by decide +kernel
theorem dX11_init_61 : decode cX11_init 61 = .ok (.bipush 8, 2) := by decide +kernel
theorem dX11_init_63 : decode cX11_init 63 = .ok (.bipush 114, 2) := by decide +kernel
theorem dX11_init_65 : decode cX11_init 65 = .ok (.iastore, 1) := by decide +kernel
theorem dX11_init_66 : decode cX11_init 66 = .ok (.dup, 1) := by decide +kernel
theorem dX11_init_67 : decode cX11_init 67 = .ok (.bipush 9, 2) := by decide +kernel
theorem dX11_init_69 : decode cX11_init 69 = .ok (.bipush 100, 2) := by decide +kernel
theorem dX11_init_71 : decode cX11_init 71 = .ok (.iastore, 1) := by decide +kernel
theorem dX11_init_72 : decode cX11_init 72 = .ok (.dup, 1) := by decide +kernel
theorem dX11_init_73 : decode cX11_init 73 = .ok (.bipush 10, 2) := by decide +kernel
theorem dX11_init_75 : decode cX11_init 75 = .ok (.bipush 32, 2) := by decide +kernel
theorem dX11_init_77 : decode cX11_init 77 = .ok (.iastore, 1) := by decide +kernel
theorem dX11_init_78 : decode cX11_init 78 = .ok (.dup, 1) := by decide +kernel
theorem dX11_init_79 : decode cX11_init 79 = .ok (.bipush 11, 2) := by decide +kernel
theorem dX11_init_81 : decode cX11_init 81 = .ok (.bipush 100, 2) := by decide +kernel
theorem dX11_init_83 : decode cX11_init 83 = .ok (.iastore, 1) := by decide +kernel
theorem dX11_init_84 : decode cX11_init 84 = .ok (.dup, 1) := by decide +kernel
theorem dX11_init_85 : decode cX11_init 85 = .ok (.bipush 12, 2) := by decide +kernel
theorem dX11_init_87 : decode cX11_init 87 = .ok (.bipush 114, 2) := by decide +kernel
theorem dX11_init_89 : decode cX11_init 89 = .ok (.iastore, 1) := by decide +kernel
theorem dX11_init_90 : decode cX11_init 90 = .ok (.dup, 1) := by decide +kernel
theorem dX11_init_91 : decode cX11_init 91 = .ok (.bipush 13, 2) := by decide +kernel
theorem dX11_init_93 : decode cX11_init 93 = .ok (.bipush 105, 2) := by decide +kernel
theorem dX11_init_95 : decode cX11_init 95 = .ok (.iastore, 1) := by decide +kernel
theorem dX11_init_96 : decode cX11_init 96 = .ok (.dup, 1) := by decide +kernel
theorem dX11_init_97 : decode cX11_init 97 = .ok (.bipush 14, 2) := by decide +kernel
theorem dX11_init_99 : decode cX11_init 99 = .ok (.bipush 102, 2) := by decide +kernel
theorem dX11_init_101 : decode cX11_init 101 = .ok (.iastore, 1) := by decide +kernel
theorem dX11_init_102 : decode cX11_init 102 = .ok (.dup, 1) := by decide +kernel
theorem dX11_init_103 : decode cX11_init 103 = .ok (.bipush 15, 2) := by decide +kernel
theorem dX11_init_105 : decode cX11_init 105 = .ok (.bipush 116, 2) := by decide +kernel
theorem dX11_init_107 : decode cX11_init 107 = .ok (.iastore, 1) := by decide +kernel
theorem dX11_init_108 : decode cX11_init 108 = .ok (.dup, 1) := by decide +kernel
theorem dX11_init_109 : decode cX11_init 109 = .ok (.bipush 16, 2) := by decide +kernel
theorem dX11_init_111 : decode cX11_init 111 = .ok (.bipush 32, 2) := by decide +kernel
theorem dX11_init_113 : decode cX11_init 113 = .ok (.iastore, 1) := by decide +kernel
theorem dX11_init_114 : decode cX11_init 114 = .ok (.dup, 1) := by decide +kernel
theorem dX11_init_115 : decode cX11_init 115 = .ok (.bipush 17, 2) := by decide +kernel
theorem dX11_init_117 : decode cX11_init 117 = .ok (.bipush 102, 2) := by decide +kernel
theorem dX11_init_119 : decode cX11_init 119 = .ok (.iastore, 1) := by decide +kernel
theorem dX11_init_120 : decode cX11_init 120 = .ok (.dup, 1) := by decide +kernel
theorem dX11_init_121 : decode cX11_init 121 = .ok (.bipush 18, 2) := by decide +kernel
theorem dX11_init_123 : decode cX11_init 123 = .ok (.bipush 97, 2) := by decide +kernel
theorem dX11_init_125 : decode cX11_init 125 = .ok (.iastore, 1) := by decide +kernel
theorem dX11_init_126 : decode cX11_init 126 = .ok (.dup, 1) := by decide +kernel
theorem dX11_init_127 : decode cX11_init 127 = .ok (.bipush 19, 2) := by decide +kernel
theorem dX11_init_129 : decode cX11_init 129 = .ok (.bipush 100, 2) := by decide +kernel
theorem dX11_init_131 : decode cX11_init 131 = .ok (.iastore, 1) := by decide +kernel
theorem dX11_init_132 : decode cX11_init 132 = .ok (.dup, 1) := by decide +kernel
theorem dX11_init_133 : decode cX11_init 133 = .ok (.bipush 20, 2) := by decide +kernel
theorem dX11_init_135 : decode cX11_init 135 = .ok (.bipush 101, 2) := by decide +kernel
theorem dX11_init_137 : decode cX11_init 137 = .ok (.iastore, 1) := by decide +kernel
theorem dX11_init_138 : decode cX11_init 138 = .ok (.dup, 1) := by decide +kernel
