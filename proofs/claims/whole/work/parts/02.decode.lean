theorem dX0_init_0 : decode cX0_init 0 = .ok (.aload_n 0, 1) := by decide +kernel
theorem dX0_init_1 : decode cX0_init 1 = .ok (.invokespecial 3, 3) := by decide +kernel
theorem dX0_init_4 : decode cX0_init 4 = .ok (.aload_n 0, 1) := by decide +kernel
theorem dX0_init_5 : decode cX0_init 5 = .ok (.bipush 12, 2) := by decide +kernel
theorem dX0_init_7 : decode cX0_init 7 = .ok (.newarray .int, 2) := by decide +kernel
theorem dX0_init_9 : decode cX0_init 9 = .ok (.putfield 9, 3) := by decide +kernel
theorem dX0_init_12 : decode cX0_init 12 = .ok (.aload_n 0, 1) := by decide +kernel
theorem dX0_init_13 : decode cX0_init 13 = .ok (.bipush 12, 2) := by decide +kernel
theorem dX0_init_15 : decode cX0_init 15 = .ok (.newarray .int, 2) := by decide +kernel
theorem dX0_init_17 : decode cX0_init 17 = .ok (.putfield 15, 3) := by decide +kernel
theorem dX0_init_20 : decode cX0_init 20 = .ok (.aload_n 0, 1) := by decide +kernel
theorem dX0_init_21 : decode cX0_init 21 = .ok (.bipush 12, 2) := by decide +kernel
theorem dX0_init_23 : decode cX0_init 23 = .ok (.newarray .int, 2) := by decide +kernel
theorem dX0_init_25 : decode cX0_init 25 = .ok (.putfield 18, 3) := by decide +kernel
theorem dX0_init_28 : decode cX0_init 28 = .ok (.return_, 1) := by decide +kernel
theorem dX0_enter_0 : decode cX0_enter 0 = .ok (.aload_n 0, 1) := by decide +kernel
theorem dX0_enter_1 : decode cX0_enter 1 = .ok (.getfield 9, 3) := by decide +kernel
theorem dX0_enter_4 : decode cX0_enter 4 = .ok (.iload_n 1, 1) := by decide +kernel
theorem dX0_enter_5 : decode cX0_enter 5 = .ok (.dup2, 1) := by decide +kernel
theorem dX0_enter_6 : decode cX0_enter 6 = .ok (.iaload, 1) := by decide +kernel
theorem dX0_enter_7 : decode cX0_enter 7 = .ok (.iconst 1, 1) := by decide +kernel
theorem dX0_enter_8 : decode cX0_enter 8 = .ok (.iadd, 1) := by decide +kernel
theorem dX0_enter_9 : decode cX0_enter 9 = .ok (.iastore, 1) := by decide +kernel
theorem dX0_enter_10 : decode cX0_enter 10 = .ok (.aload_n 0, 1) := by decide +kernel
theorem dX0_enter_11 : decode cX0_enter 11 = .ok (.getfield 18, 3) := by decide +kernel
theorem dX0_enter_14 : decode cX0_enter 14 = .ok (.iload_n 1, 1) := by decide +kernel
theorem dX0_enter_15 : decode cX0_enter 15 = .ok (.dup2, 1) := by decide +kernel
theorem dX0_enter_16 : decode cX0_enter 16 = .ok (.iaload, 1) := by decide +kernel
theorem dX0_enter_17 : decode cX0_enter 17 = .ok (.iconst 1, 1) := by decide +kernel
theorem dX0_enter_18 : decode cX0_enter 18 = .ok (.iadd, 1) := by decide +kernel
theorem dX0_enter_19 : decode cX0_enter 19 = .ok (.iastore, 1) := by decide +kernel
theorem dX0_enter_20 : decode cX0_enter 20 = .ok (.aload_n 0, 1) := by decide +kernel
theorem dX0_enter_21 : decode cX0_enter 21 = .ok (.getfield 15, 3) := by decide +kernel
theorem dX0_enter_24 : decode cX0_enter 24 = .ok (.iload_n 1, 1) := by decide +kernel
theorem dX0_enter_25 : decode cX0_enter 25 = .ok (.aload_n 0, 1) := by decide +kernel
theorem dX0_enter_26 : decode cX0_enter 26 = .ok (.getfield 15, 3) := by decide +kernel
theorem dX0_enter_29 : decode cX0_enter 29 = .ok (.iload_n 1, 1) := by decide +kernel
theorem dX0_enter_30 : decode cX0_enter 30 = .ok (.iaload, 1) := by decide +kernel
theorem dX0_enter_31 : decode cX0_enter 31 = .ok (.aload_n 0, 1) := by decide +kernel
theorem dX0_enter_32 : decode cX0_enter 32 = .ok (.getfield 18, 3) := by decide +kernel
theorem dX0_enter_35 : decode cX0_enter 35 = .ok (.iload_n 1, 1) := by decide +kernel
theorem dX0_enter_36 : decode cX0_enter 36 = .ok (.iaload, 1) := by decide +kernel
theorem dX0_enter_37 : decode cX0_enter 37 = .ok (.invokestatic 21, 3) := by decide +kernel
theorem dX0_enter_40 : decode cX0_enter 40 = .ok (.iastore, 1) := by decide +kernel
theorem dX0_enter_41 : decode cX0_enter 41 = .ok (.return_, 1) := by decide +kernel
theorem dX0_leave_0 : decode cX0_leave 0 = .ok (.aload_n 0, 1) := by decide +kernel
theorem dX0_leave_1 : decode cX0_leave 1 = .ok (.getfield 18, 3) := by decide +kernel
theorem dX0_leave_4 : decode cX0_leave 4 = .ok (.iload_n 1, 1) := by decide +kernel
theorem dX0_leave_5 : decode cX0_leave 5 = .ok (.dup2, 1) := by decide +kernel
theorem dX0_leave_6 : decode cX0_leave 6 = .ok (.iaload, 1) := by decide +kernel
theorem dX0_leave_7 : decode cX0_leave 7 = .ok (.iconst 1, 1) := by decide +kernel
theorem dX0_leave_8 : decode cX0_leave 8 = .ok (.isub, 1) := by decide +kernel
theorem dX0_leave_9 : decode cX0_leave 9 = .ok (.iastore, 1) := by decide +kernel
theorem dX0_leave_10 : decode cX0_leave 10 = .ok (.return_, 1) := by decide +kernel
theorem dX0_closeFrom_0 : decode cX0_closeFrom 0 = .ok (.iload_n 1, 1) := by decide +kernel
theorem dX0_closeFrom_1 : decode cX0_closeFrom 1 = .ok (.istore_n 2, 1) := by decide +kernel
theorem dX0_closeFrom_2 : decode cX0_closeFrom 2 = .ok (.iload_n 2, 1) := by decide +kernel
theorem dX0_closeFrom_3 : decode cX0_closeFrom 3 = .ok (.bipush 12, 2) := by decide +kernel
theorem dX0_closeFrom_5 : decode cX0_closeFrom 5 = .ok (.if_icmp .ge 30, 3) := by decide +kernel
theorem dX0_closeFrom_8 : decode cX0_closeFrom 8 = .ok (.aload_n 0, 1) := by decide +kernel
theorem dX0_closeFrom_9 : decode cX0_closeFrom 9 = .ok (.getfield 9, 3) := by decide +kernel
theorem dX0_closeFrom_12 : decode cX0_closeFrom 12 = .ok (.iload_n 2, 1) := by decide +kernel
theorem dX0_closeFrom_13 : decode cX0_closeFrom 13 = .ok (.iconst 0, 1) := by decide +kernel
theorem dX0_closeFrom_14 : decode cX0_closeFrom 14 = .ok (.iastore, 1) := by decide +kernel
theorem dX0_closeFrom_15 : decode cX0_closeFrom 15 = .ok (.aload_n 0, 1) := by decide +kernel
theorem dX0_closeFrom_16 : decode cX0_closeFrom 16 = .ok (.getfield 15, 3) := by decide +kernel
theorem dX0_closeFrom_19 : decode cX0_closeFrom 19 = .ok (.iload_n 2, 1) := by decide +kernel
theorem dX0_closeFrom_20 : decode cX0_closeFrom 20 = .ok (.iconst 0, 1) := by decide +kernel
theorem dX0_closeFrom_21 : decode cX0_closeFrom 21 = .ok (.iastore, 1) := by decide +kernel
theorem dX0_closeFrom_22 : decode cX0_closeFrom 22 = .ok (.aload_n 0, 1) := by decide +kernel
theorem dX0_closeFrom_23 : decode cX0_closeFrom 23 = .ok (.getfield 18, 3) := by decide +kernel
theorem dX0_closeFrom_26 : decode cX0_closeFrom 26 = .ok (.iload_n 2, 1) := by decide +kernel
theorem dX0_closeFrom_27 : decode cX0_closeFrom 27 = .ok (.iconst 0, 1) := by decide +kernel
theorem dX0_closeFrom_28 : decode cX0_closeFrom 28 = .ok (.iastore, 1) := by decide +kernel
theorem dX0_closeFrom_29 : decode cX0_closeFrom 29 = .ok (.iinc 2 1, 3) := by decide +kernel
theorem dX0_closeFrom_32 : decode cX0_closeFrom 32 = .ok (.goto (-30), 3) := by decide +kernel
theorem dX0_closeFrom_35 : decode cX0_closeFrom 35 = .ok (.return_, 1) := by decide +kernel
theorem dX1_init_0 : decode cX1_init 0 = .ok (.aload_n 0, 1) := by decide +kernel
theorem dX1_init_1 : decode cX1_init 1 = .ok (.invokespecial 3, 3) := by decide +kernel
theorem dX1_init_4 : decode cX1_init 4 = .ok (.aload_n 0, 1) := by decide +kernel
theorem dX1_init_5 : decode cX1_init 5 = .ok (.bipush 108, 2) := by decide +kernel
theorem dX1_init_7 : decode cX1_init 7 = .ok (.newarray .int, 2) := by decide +kernel
theorem dX1_init_9 : decode cX1_init 9 = .ok (.putfield 9, 3) := by decide +kernel
theorem dX1_init_12 : decode cX1_init 12 = .ok (.aload_n 0, 1) := by decide +kernel
theorem dX1_init_13 : decode cX1_init 13 = .ok (.iconst 3, 1) := by decide +kernel
theorem dX1_init_14 : decode cX1_init 14 = .ok (.newarray .int, 2) := by decide +kernel
theorem dX1_init_16 : decode cX1_init 16 = .ok (.dup, 1) := by decide +kernel
theorem dX1_init_17 : decode cX1_init 17 = .ok (.iconst 0, 1) := by decide +kernel
theorem dX1_init_18 : decode cX1_init 18 = .ok (.iconst (-1), 1) := by decide +kernel
theorem dX1_init_19 : decode cX1_init 19 = .ok (.iastore, 1) := by decide +kernel
theorem dX1_init_20 : decode cX1_init 20 = .ok (.dup, 1) := by decide +kernel
theorem dX1_init_21 : decode cX1_init 21 = .ok (.iconst 1, 1) := by decide +kernel
theorem dX1_init_22 : decode cX1_init 22 = .ok (.iconst (-1), 1) := by decide +kernel
theorem dX1_init_23 : decode cX1_init 23 = .ok (.iastore, 1) := by decide +kernel
theorem dX1_init_24 : decode cX1_init 24 = .ok (.dup, 1) := by decide +kernel
theorem dX1_init_25 : decode cX1_init 25 = .ok (.iconst 2, 1) := by decide +kernel
theorem dX1_init_26 : decode cX1_init 26 = .ok (.iconst (-1), 1) := by decide +kernel
theorem dX1_init_27 : decode cX1_init 27 = .ok (.iastore, 1) := by decide +kernel
theorem dX1_init_28 : decode cX1_init 28 = .ok (.putfield 15, 3) := by decide +kernel
theorem dX1_init_31 : decode cX1_init 31 = .ok (.return_, 1) := by decide +kernel
theorem dX1_isList_0 : decode cX1_isList 0 = .ok (.iload_n 0, 1) := by decide +kernel
theorem dX1_isList_1 : decode cX1_isList 1 = .ok (.ifCond .lt 12, 3) := by decide +kernel
theorem dX1_isList_4 : decode cX1_isList 4 = .ok (.iload_n 0, 1) := by decide +kernel
theorem dX1_isList_5 : decode cX1_isList 5 = .ok (.iconst 3, 1) := by decide +kernel
theorem dX1_isList_6 : decode cX1_isList 6 = .ok (.if_icmp .ge 7, 3) := by decide +kernel
theorem dX1_isList_9 : decode cX1_isList 9 = .ok (.iconst 1, 1) := by decide +kernel
theorem dX1_isList_10 : decode cX1_isList 10 = .ok (.goto 4, 3) := by decide +kernel
theorem dX1_isList_13 : decode cX1_isList 13 = .ok (.iconst 0, 1) := by decide +kernel
theorem dX1_isList_14 : decode cX1_isList 14 = .ok (.ireturn, 1) := by decide +kernel
theorem dX1_cell_0 : decode cX1_cell 0 = .ok (.iload_n 0, 1) := by decide +kernel
theorem dX1_cell_1 : decode cX1_cell 1 = .ok (.bipush 36, 2) := by decide +kernel
theorem dX1_cell_3 : decode cX1_cell 3 = .ok (.imul, 1) := by decide +kernel
theorem dX1_cell_4 : decode cX1_cell 4 = .ok (.iload_n 1, 1) := by decide +kernel
theorem dX1_cell_5 : decode cX1_cell 5 = .ok (.iadd, 1) := by decide +kernel
theorem dX1_cell_6 : decode cX1_cell 6 = .ok (.ireturn, 1) := by decide +kernel
theorem dX1_holdsRow_0 : decode cX1_holdsRow 0 = .ok (.aload_n 0, 1) := by decide +kernel
theorem dX1_holdsRow_1 : decode cX1_holdsRow 1 = .ok (.getfield 15, 3) := by decide +kernel
theorem dX1_holdsRow_4 : decode cX1_holdsRow 4 = .ok (.iload_n 1, 1) := by decide +kernel
theorem dX1_holdsRow_5 : decode cX1_holdsRow 5 = .ok (.iaload, 1) := by decide +kernel
theorem dX1_holdsRow_6 : decode cX1_holdsRow 6 = .ok (.ifCond .lt 7, 3) := by decide +kernel
theorem dX1_holdsRow_9 : decode cX1_holdsRow 9 = .ok (.iconst 1, 1) := by decide +kernel
theorem dX1_holdsRow_10 : decode cX1_holdsRow 10 = .ok (.goto 4, 3) := by decide +kernel
theorem dX1_holdsRow_13 : decode cX1_holdsRow 13 = .ok (.iconst 0, 1) := by decide +kernel
theorem dX1_holdsRow_14 : decode cX1_holdsRow 14 = .ok (.ireturn, 1) := by decide +kernel
theorem dX1_hasPlace_0 : decode cX1_hasPlace 0 = .ok (.iload_n 2, 1) := by decide +kernel
theorem dX1_hasPlace_1 : decode cX1_hasPlace 1 = .ok (.ifCond .lt 17, 3) := by decide +kernel
theorem dX1_hasPlace_4 : decode cX1_hasPlace 4 = .ok (.iload_n 2, 1) := by decide +kernel
theorem dX1_hasPlace_5 : decode cX1_hasPlace 5 = .ok (.aload_n 0, 1) := by decide +kernel
theorem dX1_hasPlace_6 : decode cX1_hasPlace 6 = .ok (.getfield 15, 3) := by decide +kernel
theorem dX1_hasPlace_9 : decode cX1_hasPlace 9 = .ok (.iload_n 1, 1) := by decide +kernel
theorem dX1_hasPlace_10 : decode cX1_hasPlace 10 = .ok (.iaload, 1) := by decide +kernel
theorem dX1_hasPlace_11 : decode cX1_hasPlace 11 = .ok (.if_icmp .ge 7, 3) := by decide +kernel
theorem dX1_hasPlace_14 : decode cX1_hasPlace 14 = .ok (.iconst 1, 1) := by decide +kernel
theorem dX1_hasPlace_15 : decode cX1_hasPlace 15 = .ok (.goto 4, 3) := by decide +kernel
theorem dX1_hasPlace_18 : decode cX1_hasPlace 18 = .ok (.iconst 0, 1) := by decide +kernel
theorem dX1_hasPlace_19 : decode cX1_hasPlace 19 = .ok (.ireturn, 1) := by decide +kernel
theorem dX1_make_0 : decode cX1_make 0 = .ok (.aload_n 0, 1) := by decide +kernel
theorem dX1_make_1 : decode cX1_make 1 = .ok (.getfield 15, 3) := by decide +kernel
theorem dX1_make_4 : decode cX1_make 4 = .ok (.iload_n 1, 1) := by decide +kernel
theorem dX1_make_5 : decode cX1_make 5 = .ok (.iload_n 2, 1) := by decide +kernel
theorem dX1_make_6 : decode cX1_make 6 = .ok (.iastore, 1) := by decide +kernel
theorem dX1_make_7 : decode cX1_make 7 = .ok (.iconst 0, 1) := by decide +kernel
theorem dX1_make_8 : decode cX1_make 8 = .ok (.istore_n 3, 1) := by decide +kernel
theorem dX1_make_9 : decode cX1_make 9 = .ok (.iload_n 3, 1) := by decide +kernel
theorem dX1_make_10 : decode cX1_make 10 = .ok (.iload_n 2, 1) := by decide +kernel
theorem dX1_make_11 : decode cX1_make 11 = .ok (.if_icmp .ge 20, 3) := by decide +kernel
theorem dX1_make_14 : decode cX1_make 14 = .ok (.aload_n 0, 1) := by decide +kernel
theorem dX1_make_15 : decode cX1_make 15 = .ok (.getfield 9, 3) := by decide +kernel
theorem dX1_make_18 : decode cX1_make 18 = .ok (.iload_n 1, 1) := by decide +kernel
theorem dX1_make_19 : decode cX1_make 19 = .ok (.iload_n 3, 1) := by decide +kernel
theorem dX1_make_20 : decode cX1_make 20 = .ok (.invokestatic 18, 3) := by decide +kernel
theorem dX1_make_23 : decode cX1_make 23 = .ok (.iconst 0, 1) := by decide +kernel
theorem dX1_make_24 : decode cX1_make 24 = .ok (.iastore, 1) := by decide +kernel
theorem dX1_make_25 : decode cX1_make 25 = .ok (.iinc 3 1, 3) := by decide +kernel
theorem dX1_make_28 : decode cX1_make 28 = .ok (.goto (-19), 3) := by decide +kernel
theorem dX1_make_31 : decode cX1_make 31 = .ok (.return_, 1) := by decide +kernel
theorem dX2_init_0 : decode cX2_init 0 = .ok (.aload_n 0, 1) := by decide +kernel
theorem dX2_init_1 : decode cX2_init 1 = .ok (.invokespecial 1, 3) := by decide +kernel
theorem dX2_init_4 : decode cX2_init 4 = .ok (.aload_n 0, 1) := by decide +kernel
theorem dX2_init_5 : decode cX2_init 5 = .ok (.iconst 0, 1) := by decide +kernel
theorem dX2_init_6 : decode cX2_init 6 = .ok (.putfield 7, 3) := by decide +kernel
theorem dX2_init_9 : decode cX2_init 9 = .ok (.return_, 1) := by decide +kernel
theorem dX2_below_0 : decode cX2_below 0 = .ok (.iload_n 1, 1) := by decide +kernel
theorem dX2_below_1 : decode cX2_below 1 = .ok (.ifCond .gt 5, 3) := by decide +kernel
theorem dX2_below_4 : decode cX2_below 4 = .ok (.iconst 0, 1) := by decide +kernel
theorem dX2_below_5 : decode cX2_below 5 = .ok (.ireturn, 1) := by decide +kernel
theorem dX2_below_6 : decode cX2_below 6 = .ok (.aload_n 0, 1) := by decide +kernel
theorem dX2_below_7 : decode cX2_below 7 = .ok (.aload_n 0, 1) := by decide +kernel
theorem dX2_below_8 : decode cX2_below 8 = .ok (.getfield 7, 3) := by decide +kernel
theorem dX2_below_11 : decode cX2_below 11 = .ok (.ldc 13, 2) := by decide +kernel
theorem dX2_below_13 : decode cX2_below 13 = .ok (.imul, 1) := by decide +kernel
theorem dX2_below_14 : decode cX2_below 14 = .ok (.sipush 12345, 3) := by decide +kernel
theorem dX2_below_17 : decode cX2_below 17 = .ok (.iadd, 1) := by decide +kernel
theorem dX2_below_18 : decode cX2_below 18 = .ok (.putfield 7, 3) := by decide +kernel
theorem dX2_below_21 : decode cX2_below 21 = .ok (.aload_n 0, 1) := by decide +kernel
theorem dX2_below_22 : decode cX2_below 22 = .ok (.getfield 7, 3) := by decide +kernel
theorem dX2_below_25 : decode cX2_below 25 = .ok (.ldc 14, 2) := by decide +kernel
theorem dX2_below_27 : decode cX2_below 27 = .ok (.iand, 1) := by decide +kernel
theorem dX2_below_28 : decode cX2_below 28 = .ok (.ldc 15, 2) := by decide +kernel
theorem dX2_below_30 : decode cX2_below 30 = .ok (.idiv, 1) := by decide +kernel
theorem dX2_below_31 : decode cX2_below 31 = .ok (.iload_n 1, 1) := by decide +kernel
theorem dX2_below_32 : decode cX2_below 32 = .ok (.irem, 1) := by decide +kernel
theorem dX2_below_33 : decode cX2_below 33 = .ok (.ireturn, 1) := by decide +kernel
theorem dX3_init_0 : decode cX3_init 0 = .ok (.aload_n 0, 1) := by decide +kernel
theorem dX3_init_1 : decode cX3_init 1 = .ok (.invokespecial 3, 3) := by decide +kernel
theorem dX3_init_4 : decode cX3_init 4 = .ok (.aload_n 0, 1) := by decide +kernel
theorem dX3_init_5 : decode cX3_init 5 = .ok (.iconst 0, 1) := by decide +kernel
theorem dX3_init_6 : decode cX3_init 6 = .ok (.putfield 9, 3) := by decide +kernel
theorem dX3_init_9 : decode cX3_init 9 = .ok (.aload_n 0, 1) := by decide +kernel
theorem dX3_init_10 : decode cX3_init 10 = .ok (.sipush 3960, 3) := by decide +kernel
theorem dX3_init_13 : decode cX3_init 13 = .ok (.newarray .byte, 2) := by decide +kernel
theorem dX3_init_15 : decode cX3_init 15 = .ok (.putfield 15, 3) := by decide +kernel
theorem dX3_init_18 : decode cX3_init 18 = .ok (.return_, 1) := by decide +kernel
theorem dX3_putHold_0 : decode cX3_putHold 0 = .ok (.iload 4, 2) := by decide +kernel
theorem dX3_putHold_2 : decode cX3_putHold 2 = .ok (.ifCond .ne 4, 3) := by decide +kernel
theorem dX3_putHold_5 : decode cX3_putHold 5 = .ok (.return_, 1) := by decide +kernel
theorem dX3_putHold_6 : decode cX3_putHold 6 = .ok (.aload_n 0, 1) := by decide +kernel
theorem dX3_putHold_7 : decode cX3_putHold 7 = .ok (.iload_n 1, 1) := by decide +kernel
theorem dX3_putHold_8 : decode cX3_putHold 8 = .ok (.invokevirtual 19, 3) := by decide +kernel
theorem dX3_putHold_11 : decode cX3_putHold 11 = .ok (.aload_n 0, 1) := by decide +kernel
theorem dX3_putHold_12 : decode cX3_putHold 12 = .ok (.bipush 58, 2) := by decide +kernel
theorem dX3_putHold_14 : decode cX3_putHold 14 = .ok (.invokevirtual 23, 3) := by decide +kernel
theorem dX3_putHold_17 : decode cX3_putHold 17 = .ok (.aload_n 0, 1) := by decide +kernel
theorem dX3_putHold_18 : decode cX3_putHold 18 = .ok (.iload_n 2, 1) := by decide +kernel
theorem dX3_putHold_19 : decode cX3_putHold 19 = .ok (.invokevirtual 19, 3) := by decide +kernel
theorem dX3_putHold_22 : decode cX3_putHold 22 = .ok (.aload_n 0, 1) := by decide +kernel
theorem dX3_putHold_23 : decode cX3_putHold 23 = .ok (.iload_n 3, 1) := by decide +kernel
theorem dX3_putHold_24 : decode cX3_putHold 24 = .ok (.invokestatic 26, 3) := by decide +kernel
theorem dX3_putHold_27 : decode cX3_putHold 27 = .ok (.invokevirtual 23, 3) := by decide +kernel
theorem dX3_putHold_30 : decode cX3_putHold 30 = .ok (.iload 4, 2) := by decide +kernel
theorem dX3_putHold_32 : decode cX3_putHold 32 = .ok (.iconst 1, 1) := by decide +kernel
theorem dX3_putHold_33 : decode cX3_putHold 33 = .ok (.if_icmp .le 15, 3) := by decide +kernel
theorem dX3_putHold_36 : decode cX3_putHold 36 = .ok (.aload_n 0, 1) := by decide +kernel
theorem dX3_putHold_37 : decode cX3_putHold 37 = .ok (.bipush 120, 2) := by decide +kernel
theorem dX3_putHold_39 : decode cX3_putHold 39 = .ok (.invokevirtual 23, 3) := by decide +kernel
theorem dX3_putHold_42 : decode cX3_putHold 42 = .ok (.aload_n 0, 1) := by decide +kernel
theorem dX3_putHold_43 : decode cX3_putHold 43 = .ok (.iload 4, 2) := by decide +kernel
theorem dX3_putHold_45 : decode cX3_putHold 45 = .ok (.invokevirtual 19, 3) := by decide +kernel
theorem dX3_putHold_48 : decode cX3_putHold 48 = .ok (.aload_n 0, 1) := by decide +kernel
theorem dX3_putHold_49 : decode cX3_putHold 49 = .ok (.bipush 32, 2) := by decide +kernel
theorem dX3_putHold_51 : decode cX3_putHold 51 = .ok (.invokevirtual 23, 3) := by decide +kernel
theorem dX3_putHold_54 : decode cX3_putHold 54 = .ok (.return_, 1) := by decide +kernel
theorem dX3_letterOf_0 : decode cX3_letterOf 0 = .ok (.iload_n 0, 1) := by decide +kernel
theorem dX3_letterOf_1 : decode cX3_letterOf 1 = .ok (.tableswitch 43 1 4 #[31, 34, 37, 40], 31) := by decide +kernel
theorem dX3_letterOf_32 : decode cX3_letterOf 32 = .ok (.bipush 108, 2) := by decide +kernel
theorem dX3_letterOf_34 : decode cX3_letterOf 34 = .ok (.ireturn, 1) := by decide +kernel
theorem dX3_letterOf_35 : decode cX3_letterOf 35 = .ok (.bipush 115, 2) := by decide +kernel
theorem dX3_letterOf_37 : decode cX3_letterOf 37 = .ok (.ireturn, 1) := by decide +kernel
theorem dX3_letterOf_38 : decode cX3_letterOf 38 = .ok (.bipush 109, 2) := by decide +kernel
theorem dX3_letterOf_40 : decode cX3_letterOf 40 = .ok (.ireturn, 1) := by decide +kernel
theorem dX3_letterOf_41 : decode cX3_letterOf 41 = .ok (.bipush 117, 2) := by decide +kernel
theorem dX3_letterOf_43 : decode cX3_letterOf 43 = .ok (.ireturn, 1) := by decide +kernel
theorem dX3_letterOf_44 : decode cX3_letterOf 44 = .ok (.bipush 111, 2) := by decide +kernel
theorem dX3_letterOf_46 : decode cX3_letterOf 46 = .ok (.ireturn, 1) := by decide +kernel
theorem dX3_putNumber_0 : decode cX3_putNumber 0 = .ok (.ldc 30, 2) := by decide +kernel
theorem dX3_putNumber_2 : decode cX3_putNumber 2 = .ok (.istore_n 2, 1) := by decide +kernel
theorem dX3_putNumber_3 : decode cX3_putNumber 3 = .ok (.iload_n 2, 1) := by decide +kernel
theorem dX3_putNumber_4 : decode cX3_putNumber 4 = .ok (.ifCond .le 34, 3) := by decide +kernel
theorem dX3_putNumber_7 : decode cX3_putNumber 7 = .ok (.iload_n 1, 1) := by decide +kernel
theorem dX3_putNumber_8 : decode cX3_putNumber 8 = .ok (.iload_n 2, 1) := by decide +kernel
theorem dX3_putNumber_9 : decode cX3_putNumber 9 = .ok (.if_icmp .ge 8, 3) := by decide +kernel
theorem dX3_putNumber_12 : decode cX3_putNumber 12 = .ok (.iload_n 2, 1) := by decide +kernel
theorem dX3_putNumber_13 : decode cX3_putNumber 13 = .ok (.iconst 1, 1) := by decide +kernel
theorem dX3_putNumber_14 : decode cX3_putNumber 14 = .ok (.if_icmp .ne 16, 3) := by decide +kernel
theorem dX3_putNumber_17 : decode cX3_putNumber 17 = .ok (.aload_n 0, 1) := by decide +kernel
theorem dX3_putNumber_18 : decode cX3_putNumber 18 = .ok (.bipush 48, 2) := by decide +kernel
theorem dX3_putNumber_20 : decode cX3_putNumber 20 = .ok (.iload_n 1, 1) := by decide +kernel
theorem dX3_putNumber_21 : decode cX3_putNumber 21 = .ok (.iload_n 2, 1) := by decide +kernel
theorem dX3_putNumber_22 : decode cX3_putNumber 22 = .ok (.idiv, 1) := by decide +kernel
theorem dX3_putNumber_23 : decode cX3_putNumber 23 = .ok (.bipush 10, 2) := by decide +kernel
theorem dX3_putNumber_25 : decode cX3_putNumber 25 = .ok (.irem, 1) := by decide +kernel
theorem dX3_putNumber_26 : decode cX3_putNumber 26 = .ok (.iadd, 1) := by decide +kernel
theorem dX3_putNumber_27 : decode cX3_putNumber 27 = .ok (.invokevirtual 23, 3) := by decide +kernel
theorem dX3_putNumber_30 : decode cX3_putNumber 30 = .ok (.iload_n 2, 1) := by decide +kernel
theorem dX3_putNumber_31 : decode cX3_putNumber 31 = .ok (.bipush 10, 2) := by decide +kernel
theorem dX3_putNumber_33 : decode cX3_putNumber 33 = .ok (.idiv, 1) := by decide +kernel
theorem dX3_putNumber_34 : decode cX3_putNumber 34 = .ok (.istore_n 2, 1) := by decide +kernel
theorem dX3_putNumber_35 : decode cX3_putNumber 35 = .ok (.goto (-32), 3) := by decide +kernel
theorem dX3_putNumber_38 : decode cX3_putNumber 38 = .ok (.return_, 1) := by decide +kernel
theorem dX3_put_0 : decode cX3_put 0 = .ok (.aload_n 0, 1) := by decide +kernel
theorem dX3_put_1 : decode cX3_put 1 = .ok (.getfield 9, 3) := by decide +kernel
theorem dX3_put_4 : decode cX3_put 4 = .ok (.sipush 3960, 3) := by decide +kernel
theorem dX3_put_7 : decode cX3_put 7 = .ok (.if_icmp .lt 4, 3) := by decide +kernel
theorem dX3_put_10 : decode cX3_put 10 = .ok (.return_, 1) := by decide +kernel
theorem dX3_put_11 : decode cX3_put 11 = .ok (.aload_n 0, 1) := by decide +kernel
theorem dX3_put_12 : decode cX3_put 12 = .ok (.getfield 15, 3) := by decide +kernel
theorem dX3_put_15 : decode cX3_put 15 = .ok (.aload_n 0, 1) := by decide +kernel
theorem dX3_put_16 : decode cX3_put 16 = .ok (.getfield 9, 3) := by decide +kernel
theorem dX3_put_19 : decode cX3_put 19 = .ok (.iload_n 1, 1) := by decide +kernel
theorem dX3_put_20 : decode cX3_put 20 = .ok (.i2b, 1) := by decide +kernel
theorem dX3_put_21 : decode cX3_put 21 = .ok (.bastore, 1) := by decide +kernel
theorem dX3_put_22 : decode cX3_put 22 = .ok (.aload_n 0, 1) := by decide +kernel
theorem dX3_put_23 : decode cX3_put 23 = .ok (.dup, 1) := by decide +kernel
theorem dX3_put_24 : decode cX3_put 24 = .ok (.getfield 9, 3) := by decide +kernel
theorem dX3_put_27 : decode cX3_put 27 = .ok (.iconst 1, 1) := by decide +kernel
theorem dX3_put_28 : decode cX3_put 28 = .ok (.iadd, 1) := by decide +kernel
theorem dX3_put_29 : decode cX3_put 29 = .ok (.putfield 9, 3) := by decide +kernel
theorem dX3_put_32 : decode cX3_put 32 = .ok (.return_, 1) := by decide +kernel
theorem dX4_init_0 : decode cX4_init 0 = .ok (.aload_n 0, 1) := by decide +kernel
theorem dX4_init_1 : decode cX4_init 1 = .ok (.invokespecial 3, 3) := by decide +kernel
theorem dX4_init_4 : decode cX4_init 4 = .ok (.aload_n 0, 1) := by decide +kernel
theorem dX4_init_5 : decode cX4_init 5 = .ok (.bipush 6, 2) := by decide +kernel
theorem dX4_init_7 : decode cX4_init 7 = .ok (.newarray .int, 2) := by decide +kernel
theorem dX4_init_9 : decode cX4_init 9 = .ok (.putfield 9, 3) := by decide +kernel
theorem dX4_init_12 : decode cX4_init 12 = .ok (.aload_n 0, 1) := by decide +kernel
theorem dX4_init_13 : decode cX4_init 13 = .ok (.iconst 0, 1) := by decide +kernel
theorem dX4_init_14 : decode cX4_init 14 = .ok (.putfield 15, 3) := by decide +kernel
theorem dX4_init_17 : decode cX4_init 17 = .ok (.aload_n 0, 1) := by decide +kernel
theorem dX4_init_18 : decode cX4_init 18 = .ok (.iconst 0, 1) := by decide +kernel
theorem dX4_init_19 : decode cX4_init 19 = .ok (.putfield 19, 3) := by decide +kernel
theorem dX4_init_22 : decode cX4_init 22 = .ok (.aload_n 0, 1) := by decide +kernel
theorem dX4_init_23 : decode cX4_init 23 = .ok (.iconst 0, 1) := by decide +kernel
theorem dX4_init_24 : decode cX4_init 24 = .ok (.putfield 22, 3) := by decide +kernel
theorem dX4_init_27 : decode cX4_init 27 = .ok (.return_, 1) := by decide +kernel
theorem dX4_start_0 : decode cX4_start 0 = .ok (.aload_n 0, 1) := by decide +kernel
theorem dX4_start_1 : decode cX4_start 1 = .ok (.iconst 0, 1) := by decide +kernel
theorem dX4_start_2 : decode cX4_start 2 = .ok (.putfield 15, 3) := by decide +kernel
theorem dX4_start_5 : decode cX4_start 5 = .ok (.aload_n 0, 1) := by decide +kernel
theorem dX4_start_6 : decode cX4_start 6 = .ok (.iconst 0, 1) := by decide +kernel
theorem dX4_start_7 : decode cX4_start 7 = .ok (.putfield 19, 3) := by decide +kernel
theorem dX4_start_10 : decode cX4_start 10 = .ok (.aload_n 0, 1) := by decide +kernel
theorem dX4_start_11 : decode cX4_start 11 = .ok (.iconst 0, 1) := by decide +kernel
theorem dX4_start_12 : decode cX4_start 12 = .ok (.putfield 22, 3) := by decide +kernel
theorem dX4_start_15 : decode cX4_start 15 = .ok (.iconst 0, 1) := by decide +kernel
theorem dX4_start_16 : decode cX4_start 16 = .ok (.istore_n 2, 1) := by decide +kernel
theorem dX4_start_17 : decode cX4_start 17 = .ok (.iload_n 2, 1) := by decide +kernel
theorem dX4_start_18 : decode cX4_start 18 = .ok (.bipush 6, 2) := by decide +kernel
theorem dX4_start_20 : decode cX4_start 20 = .ok (.if_icmp .ge 16, 3) := by decide +kernel
theorem dX4_start_23 : decode cX4_start 23 = .ok (.aload_n 0, 1) := by decide +kernel
theorem dX4_start_24 : decode cX4_start 24 = .ok (.getfield 9, 3) := by decide +kernel
theorem dX4_start_27 : decode cX4_start 27 = .ok (.iload_n 2, 1) := by decide +kernel
theorem dX4_start_28 : decode cX4_start 28 = .ok (.iconst 0, 1) := by decide +kernel
theorem dX4_start_29 : decode cX4_start 29 = .ok (.iastore, 1) := by decide +kernel
theorem dX4_start_30 : decode cX4_start 30 = .ok (.iinc 2 1, 3) := by decide +kernel
theorem dX4_start_33 : decode cX4_start 33 = .ok (.goto (-16), 3) := by decide +kernel
theorem dX4_start_36 : decode cX4_start 36 = .ok (.iconst 0, 1) := by decide +kernel
theorem dX4_start_37 : decode cX4_start 37 = .ok (.istore_n 2, 1) := by decide +kernel
theorem dX4_start_38 : decode cX4_start 38 = .ok (.iload_n 2, 1) := by decide +kernel
theorem dX4_start_39 : decode cX4_start 39 = .ok (.aload_n 1, 1) := by decide +kernel
theorem dX4_start_40 : decode cX4_start 40 = .ok (.getfield 25, 3) := by decide +kernel
theorem dX4_start_43 : decode cX4_start 43 = .ok (.if_icmp .ge 26, 3) := by decide +kernel
theorem dX4_start_46 : decode cX4_start 46 = .ok (.aload_n 0, 1) := by decide +kernel
theorem dX4_start_47 : decode cX4_start 47 = .ok (.dup, 1) := by decide +kernel
theorem dX4_start_48 : decode cX4_start 48 = .ok (.getfield 15, 3) := by decide +kernel
theorem dX4_start_51 : decode cX4_start 51 = .ok (.iconst 1, 1) := by decide +kernel
theorem dX4_start_52 : decode cX4_start 52 = .ok (.aload_n 1, 1) := by decide +kernel
theorem dX4_start_53 : decode cX4_start 53 = .ok (.getfield 30, 3) := by decide +kernel
theorem dX4_start_56 : decode cX4_start 56 = .ok (.iload_n 2, 1) := by decide +kernel
theorem dX4_start_57 : decode cX4_start 57 = .ok (.iaload, 1) := by decide +kernel
theorem dX4_start_58 : decode cX4_start 58 = .ok (.ishl, 1) := by decide +kernel
theorem dX4_start_59 : decode cX4_start 59 = .ok (.ior, 1) := by decide +kernel
theorem dX4_start_60 : decode cX4_start 60 = .ok (.putfield 15, 3) := by decide +kernel
theorem dX4_start_63 : decode cX4_start 63 = .ok (.iinc 2 1, 3) := by decide +kernel
theorem dX4_start_66 : decode cX4_start 66 = .ok (.goto (-28), 3) := by decide +kernel
theorem dX4_start_69 : decode cX4_start 69 = .ok (.return_, 1) := by decide +kernel
theorem dX4_playRound_0 : decode cX4_playRound 0 = .ok (.iconst 0, 1) := by decide +kernel
theorem dX4_playRound_1 : decode cX4_playRound 1 = .ok (.istore_n 2, 1) := by decide +kernel
theorem dX4_playRound_2 : decode cX4_playRound 2 = .ok (.iload_n 2, 1) := by decide +kernel
theorem dX4_playRound_3 : decode cX4_playRound 3 = .ok (.bipush 6, 2) := by decide +kernel
theorem dX4_playRound_5 : decode cX4_playRound 5 = .ok (.if_icmp .ge 83, 3) := by decide +kernel
theorem dX4_playRound_8 : decode cX4_playRound 8 = .ok (.aload_n 0, 1) := by decide +kernel
theorem dX4_playRound_9 : decode cX4_playRound 9 = .ok (.getfield 15, 3) := by decide +kernel
theorem dX4_playRound_12 : decode cX4_playRound 12 = .ok (.iload_n 2, 1) := by decide +kernel
theorem dX4_playRound_13 : decode cX4_playRound 13 = .ok (.invokestatic 33, 3) := by decide +kernel
theorem dX4_playRound_16 : decode cX4_playRound 16 = .ok (.ifCond .eq 66, 3) := by decide +kernel
theorem dX4_playRound_19 : decode cX4_playRound 19 = .ok (.aload_n 1, 1) := by decide +kernel
theorem dX4_playRound_20 : decode cX4_playRound 20 = .ok (.iload_n 2, 1) := by decide +kernel
theorem dX4_playRound_21 : decode cX4_playRound 21 = .ok (.invokevirtual 37, 3) := by decide +kernel
theorem dX4_playRound_24 : decode cX4_playRound 24 = .ok (.ifCond .eq 6, 3) := by decide +kernel
theorem dX4_playRound_27 : decode cX4_playRound 27 = .ok (.goto 55, 3) := by decide +kernel
theorem dX4_playRound_30 : decode cX4_playRound 30 = .ok (.aload_n 0, 1) := by decide +kernel
theorem dX4_playRound_31 : decode cX4_playRound 31 = .ok (.aload_n 1, 1) := by decide +kernel
theorem dX4_playRound_32 : decode cX4_playRound 32 = .ok (.iload_n 2, 1) := by decide +kernel
theorem dX4_playRound_33 : decode cX4_playRound 33 = .ok (.invokevirtual 41, 3) := by decide +kernel
theorem dX4_playRound_36 : decode cX4_playRound 36 = .ok (.istore_n 3, 1) := by decide +kernel
theorem dX4_playRound_37 : decode cX4_playRound 37 = .ok (.iload_n 3, 1) := by decide +kernel
theorem dX4_playRound_38 : decode cX4_playRound 38 = .ok (.ifCond .lt 24, 3) := by decide +kernel
theorem dX4_playRound_41 : decode cX4_playRound 41 = .ok (.aload_n 1, 1) := by decide +kernel
theorem dX4_playRound_42 : decode cX4_playRound 42 = .ok (.iload_n 2, 1) := by decide +kernel
theorem dX4_playRound_43 : decode cX4_playRound 43 = .ok (.aload_n 1, 1) := by decide +kernel
theorem dX4_playRound_44 : decode cX4_playRound 44 = .ok (.getfield 45, 3) := by decide +kernel
theorem dX4_playRound_47 : decode cX4_playRound 47 = .ok (.iload_n 3, 1) := by decide +kernel
theorem dX4_playRound_48 : decode cX4_playRound 48 = .ok (.iaload, 1) := by decide +kernel
theorem dX4_playRound_49 : decode cX4_playRound 49 = .ok (.aload_n 1, 1) := by decide +kernel
theorem dX4_playRound_50 : decode cX4_playRound 50 = .ok (.getfield 48, 3) := by decide +kernel
theorem dX4_playRound_53 : decode cX4_playRound 53 = .ok (.iload_n 3, 1) := by decide +kernel
theorem dX4_playRound_54 : decode cX4_playRound 54 = .ok (.iaload, 1) := by decide +kernel
theorem dX4_playRound_55 : decode cX4_playRound 55 = .ok (.invokevirtual 51, 3) := by decide +kernel
theorem dX4_playRound_58 : decode cX4_playRound 58 = .ok (.pop, 1) := by decide +kernel
theorem dX4_playRound_59 : decode cX4_playRound 59 = .ok (.goto 23, 3) := by decide +kernel
theorem dX4_playRound_62 : decode cX4_playRound 62 = .ok (.aload_n 1, 1) := by decide +kernel
theorem dX4_playRound_63 : decode cX4_playRound 63 = .ok (.iload_n 2, 1) := by decide +kernel
theorem dX4_playRound_64 : decode cX4_playRound 64 = .ok (.invokevirtual 55, 3) := by decide +kernel
theorem dX4_playRound_67 : decode cX4_playRound 67 = .ok (.pop, 1) := by decide +kernel
theorem dX4_playRound_68 : decode cX4_playRound 68 = .ok (.aload_n 0, 1) := by decide +kernel
theorem dX4_playRound_69 : decode cX4_playRound 69 = .ok (.dup, 1) := by decide +kernel
theorem dX4_playRound_70 : decode cX4_playRound 70 = .ok (.getfield 15, 3) := by decide +kernel
theorem dX4_playRound_73 : decode cX4_playRound 73 = .ok (.iconst 1, 1) := by decide +kernel
theorem dX4_playRound_74 : decode cX4_playRound 74 = .ok (.iload_n 2, 1) := by decide +kernel
theorem dX4_playRound_75 : decode cX4_playRound 75 = .ok (.ishl, 1) := by decide +kernel
theorem dX4_playRound_76 : decode cX4_playRound 76 = .ok (.iconst (-1), 1) := by decide +kernel
theorem dX4_playRound_77 : decode cX4_playRound 77 = .ok (.ixor, 1) := by decide +kernel
theorem dX4_playRound_78 : decode cX4_playRound 78 = .ok (.iand, 1) := by decide +kernel
theorem dX4_playRound_79 : decode cX4_playRound 79 = .ok (.putfield 15, 3) := by decide +kernel
theorem dX4_playRound_82 : decode cX4_playRound 82 = .ok (.iinc 2 1, 3) := by decide +kernel
theorem dX4_playRound_85 : decode cX4_playRound 85 = .ok (.goto (-83), 3) := by decide +kernel
theorem dX4_playRound_88 : decode cX4_playRound 88 = .ok (.aload_n 1, 1) := by decide +kernel
theorem dX4_playRound_89 : decode cX4_playRound 89 = .ok (.aload_n 1, 1) := by decide +kernel
theorem dX4_playRound_90 : decode cX4_playRound 90 = .ok (.invokevirtual 59, 3) := by decide +kernel
theorem dX4_playRound_93 : decode cX4_playRound 93 = .ok (.invokevirtual 63, 3) := by decide +kernel
theorem dX4_playRound_96 : decode cX4_playRound 96 = .ok (.istore_n 2, 1) := by decide +kernel
theorem dX4_playRound_97 : decode cX4_playRound 97 = .ok (.iload_n 2, 1) := by decide +kernel
theorem dX4_playRound_98 : decode cX4_playRound 98 = .ok (.ifCond .lt 19, 3) := by decide +kernel
theorem dX4_playRound_101 : decode cX4_playRound 101 = .ok (.aload_n 1, 1) := by decide +kernel
theorem dX4_playRound_102 : decode cX4_playRound 102 = .ok (.iload_n 2, 1) := by decide +kernel
theorem dX4_playRound_103 : decode cX4_playRound 103 = .ok (.invokevirtual 55, 3) := by decide +kernel
theorem dX4_playRound_106 : decode cX4_playRound 106 = .ok (.pop, 1) := by decide +kernel
theorem dX4_playRound_107 : decode cX4_playRound 107 = .ok (.aload_n 0, 1) := by decide +kernel
theorem dX4_playRound_108 : decode cX4_playRound 108 = .ok (.dup, 1) := by decide +kernel
theorem dX4_playRound_109 : decode cX4_playRound 109 = .ok (.getfield 22, 3) := by decide +kernel
theorem dX4_playRound_112 : decode cX4_playRound 112 = .ok (.iconst 1, 1) := by decide +kernel
theorem dX4_playRound_113 : decode cX4_playRound 113 = .ok (.iadd, 1) := by decide +kernel
theorem dX4_playRound_114 : decode cX4_playRound 114 = .ok (.putfield 22, 3) := by decide +kernel
theorem dX4_playRound_117 : decode cX4_playRound 117 = .ok (.aload_n 0, 1) := by decide +kernel
theorem dX4_playRound_118 : decode cX4_playRound 118 = .ok (.dup, 1) := by decide +kernel
theorem dX4_playRound_119 : decode cX4_playRound 119 = .ok (.getfield 19, 3) := by decide +kernel
theorem dX4_playRound_122 : decode cX4_playRound 122 = .ok (.iconst 1, 1) := by decide +kernel
theorem dX4_playRound_123 : decode cX4_playRound 123 = .ok (.iadd, 1) := by decide +kernel
theorem dX4_playRound_124 : decode cX4_playRound 124 = .ok (.putfield 19, 3) := by decide +kernel
theorem dX4_playRound_127 : decode cX4_playRound 127 = .ok (.return_, 1) := by decide +kernel
theorem dX4_takeRow_0 : decode cX4_takeRow 0 = .ok (.aload_n 0, 1) := by decide +kernel
theorem dX4_takeRow_1 : decode cX4_takeRow 1 = .ok (.getfield 9, 3) := by decide +kernel
theorem dX4_takeRow_4 : decode cX4_takeRow 4 = .ok (.iload_n 2, 1) := by decide +kernel
theorem dX4_takeRow_5 : decode cX4_takeRow 5 = .ok (.iaload, 1) := by decide +kernel
theorem dX4_takeRow_6 : decode cX4_takeRow 6 = .ok (.istore_n 3, 1) := by decide +kernel
theorem dX4_takeRow_7 : decode cX4_takeRow 7 = .ok (.iload_n 3, 1) := by decide +kernel
theorem dX4_takeRow_8 : decode cX4_takeRow 8 = .ok (.aload_n 1, 1) := by decide +kernel
theorem dX4_takeRow_9 : decode cX4_takeRow 9 = .ok (.getfield 25, 3) := by decide +kernel
theorem dX4_takeRow_12 : decode cX4_takeRow 12 = .ok (.if_icmp .ge 30, 3) := by decide +kernel
theorem dX4_takeRow_15 : decode cX4_takeRow 15 = .ok (.aload_n 1, 1) := by decide +kernel
theorem dX4_takeRow_16 : decode cX4_takeRow 16 = .ok (.getfield 30, 3) := by decide +kernel
theorem dX4_takeRow_19 : decode cX4_takeRow 19 = .ok (.iload_n 3, 1) := by decide +kernel
theorem dX4_takeRow_20 : decode cX4_takeRow 20 = .ok (.iaload, 1) := by decide +kernel
theorem dX4_takeRow_21 : decode cX4_takeRow 21 = .ok (.iload_n 2, 1) := by decide +kernel
theorem dX4_takeRow_22 : decode cX4_takeRow 22 = .ok (.if_icmp .ne 14, 3) := by decide +kernel
theorem dX4_takeRow_25 : decode cX4_takeRow 25 = .ok (.aload_n 0, 1) := by decide +kernel
theorem dX4_takeRow_26 : decode cX4_takeRow 26 = .ok (.getfield 9, 3) := by decide +kernel
theorem dX4_takeRow_29 : decode cX4_takeRow 29 = .ok (.iload_n 2, 1) := by decide +kernel
theorem dX4_takeRow_30 : decode cX4_takeRow 30 = .ok (.iload_n 3, 1) := by decide +kernel
theorem dX4_takeRow_31 : decode cX4_takeRow 31 = .ok (.iconst 1, 1) := by decide +kernel
theorem dX4_takeRow_32 : decode cX4_takeRow 32 = .ok (.iadd, 1) := by decide +kernel
theorem dX4_takeRow_33 : decode cX4_takeRow 33 = .ok (.iastore, 1) := by decide +kernel
theorem dX4_takeRow_34 : decode cX4_takeRow 34 = .ok (.iload_n 3, 1) := by decide +kernel
theorem dX4_takeRow_35 : decode cX4_takeRow 35 = .ok (.ireturn, 1) := by decide +kernel
theorem dX4_takeRow_36 : decode cX4_takeRow 36 = .ok (.iinc 3 1, 3) := by decide +kernel
theorem dX4_takeRow_39 : decode cX4_takeRow 39 = .ok (.goto (-32), 3) := by decide +kernel
theorem dX4_takeRow_42 : decode cX4_takeRow 42 = .ok (.iconst (-1), 1) := by decide +kernel
theorem dX4_takeRow_43 : decode cX4_takeRow 43 = .ok (.ireturn, 1) := by decide +kernel
theorem dX5_init_0 : decode cX5_init 0 = .ok (.aload_n 0, 1) := by decide +kernel
theorem dX5_init_1 : decode cX5_init 1 = .ok (.invokespecial 3, 3) := by decide +kernel
theorem dX5_init_4 : decode cX5_init 4 = .ok (.aload_n 0, 1) := by decide +kernel
theorem dX5_init_5 : decode cX5_init 5 = .ok (.iconst 0, 1) := by decide +kernel
theorem dX5_init_6 : decode cX5_init 6 = .ok (.putfield 9, 3) := by decide +kernel
theorem dX5_init_9 : decode cX5_init 9 = .ok (.aload_n 0, 1) := by decide +kernel
theorem dX5_init_10 : decode cX5_init 10 = .ok (.bipush 12, 2) := by decide +kernel
theorem dX5_init_12 : decode cX5_init 12 = .ok (.newarray .int, 2) := by decide +kernel
theorem dX5_init_14 : decode cX5_init 14 = .ok (.putfield 15, 3) := by decide +kernel
theorem dX5_init_17 : decode cX5_init 17 = .ok (.aload_n 0, 1) := by decide +kernel
theorem dX5_init_18 : decode cX5_init 18 = .ok (.bipush 12, 2) := by decide +kernel
theorem dX5_init_20 : decode cX5_init 20 = .ok (.newarray .int, 2) := by decide +kernel
theorem dX5_init_22 : decode cX5_init 22 = .ok (.putfield 19, 3) := by decide +kernel
theorem dX5_init_25 : decode cX5_init 25 = .ok (.aload_n 0, 1) := by decide +kernel
theorem dX5_init_26 : decode cX5_init 26 = .ok (.sipush 360, 3) := by decide +kernel
theorem dX5_init_29 : decode cX5_init 29 = .ok (.newarray .int, 2) := by decide +kernel
theorem dX5_init_31 : decode cX5_init 31 = .ok (.putfield 22, 3) := by decide +kernel
theorem dX5_init_34 : decode cX5_init 34 = .ok (.aload_n 0, 1) := by decide +kernel
theorem dX5_init_35 : decode cX5_init 35 = .ok (.bipush 60, 2) := by decide +kernel
theorem dX5_init_37 : decode cX5_init 37 = .ok (.newarray .int, 2) := by decide +kernel
theorem dX5_init_39 : decode cX5_init 39 = .ok (.putfield 25, 3) := by decide +kernel
theorem dX5_init_42 : decode cX5_init 42 = .ok (.aload_n 0, 1) := by decide +kernel
theorem dX5_init_43 : decode cX5_init 43 = .ok (.iconst 0, 1) := by decide +kernel
theorem dX5_init_44 : decode cX5_init 44 = .ok (.putfield 28, 3) := by decide +kernel
theorem dX5_init_47 : decode cX5_init 47 = .ok (.aload_n 0, 1) := by decide +kernel
theorem dX5_init_48 : decode cX5_init 48 = .ok (.bipush 6, 2) := by decide +kernel
theorem dX5_init_50 : decode cX5_init 50 = .ok (.newarray .int, 2) := by decide +kernel
theorem dX5_init_52 : decode cX5_init 52 = .ok (.putfield 31, 3) := by decide +kernel
theorem dX5_init_55 : decode cX5_init 55 = .ok (.aload_n 0, 1) := by decide +kernel
theorem dX5_init_56 : decode cX5_init 56 = .ok (.bipush 6, 2) := by decide +kernel
theorem dX5_init_58 : decode cX5_init 58 = .ok (.newarray .int, 2) := by decide +kernel
theorem dX5_init_60 : decode cX5_init 60 = .ok (.putfield 34, 3) := by decide +kernel
theorem dX5_init_63 : decode cX5_init 63 = .ok (.aload_n 0, 1) := by decide +kernel
theorem dX5_init_64 : decode cX5_init 64 = .ok (.bipush 6, 2) := by decide +kernel
theorem dX5_init_66 : decode cX5_init 66 = .ok (.newarray .int, 2) := by decide +kernel
theorem dX5_init_68 : decode cX5_init 68 = .ok (.putfield 37, 3) := by decide +kernel
theorem dX5_init_71 : decode cX5_init 71 = .ok (.aload_n 0, 1) := by decide +kernel
theorem dX5_init_72 : decode cX5_init 72 = .ok (.iconst 0, 1) := by decide +kernel
theorem dX5_init_73 : decode cX5_init 73 = .ok (.putfield 40, 3) := by decide +kernel
theorem dX5_init_76 : decode cX5_init 76 = .ok (.aload_n 0, 1) := by decide +kernel
theorem dX5_init_77 : decode cX5_init 77 = .ok (.bipush 12, 2) := by decide +kernel
theorem dX5_init_79 : decode cX5_init 79 = .ok (.newarray .int, 2) := by decide +kernel
theorem dX5_init_81 : decode cX5_init 81 = .ok (.putfield 43, 3) := by decide +kernel
theorem dX5_init_84 : decode cX5_init 84 = .ok (.aload_n 0, 1) := by decide +kernel
theorem dX5_init_85 : decode cX5_init 85 = .ok (.bipush 12, 2) := by decide +kernel
theorem dX5_init_87 : decode cX5_init 87 = .ok (.newarray .int, 2) := by decide +kernel
theorem dX5_init_89 : decode cX5_init 89 = .ok (.putfield 46, 3) := by decide +kernel
theorem dX5_init_92 : decode cX5_init 92 = .ok (.aload_n 0, 1) := by decide +kernel
theorem dX5_init_93 : decode cX5_init 93 = .ok (.bipush 12, 2) := by decide +kernel
theorem dX5_init_95 : decode cX5_init 95 = .ok (.newarray .int, 2) := by decide +kernel
theorem dX5_init_97 : decode cX5_init 97 = .ok (.putfield 49, 3) := by decide +kernel
theorem dX5_init_100 : decode cX5_init 100 = .ok (.aload_n 0, 1) := by decide +kernel
theorem dX5_init_101 : decode cX5_init 101 = .ok (.iconst 0, 1) := by decide +kernel
theorem dX5_init_102 : decode cX5_init 102 = .ok (.putfield 52, 3) := by decide +kernel
theorem dX5_init_105 : decode cX5_init 105 = .ok (.aload_n 0, 1) := by decide +kernel
theorem dX5_init_106 : decode cX5_init 106 = .ok (.bipush 6, 2) := by decide +kernel
theorem dX5_init_108 : decode cX5_init 108 = .ok (.newarray .int, 2) := by decide +kernel
theorem dX5_init_110 : decode cX5_init 110 = .ok (.putfield 55, 3) := by decide +kernel
theorem dX5_init_113 : decode cX5_init 113 = .ok (.return_, 1) := by decide +kernel
theorem dX5_copyFrom_0 : decode cX5_copyFrom 0 = .ok (.aload_n 0, 1) := by decide +kernel
theorem dX5_copyFrom_1 : decode cX5_copyFrom 1 = .ok (.aload_n 1, 1) := by decide +kernel
theorem dX5_copyFrom_2 : decode cX5_copyFrom 2 = .ok (.getfield 9, 3) := by decide +kernel
theorem dX5_copyFrom_5 : decode cX5_copyFrom 5 = .ok (.putfield 9, 3) := by decide +kernel
theorem dX5_copyFrom_8 : decode cX5_copyFrom 8 = .ok (.aload_n 1, 1) := by decide +kernel
theorem dX5_copyFrom_9 : decode cX5_copyFrom 9 = .ok (.getfield 15, 3) := by decide +kernel
theorem dX5_copyFrom_12 : decode cX5_copyFrom 12 = .ok (.iconst 0, 1) := by decide +kernel
theorem dX5_copyFrom_13 : decode cX5_copyFrom 13 = .ok (.aload_n 0, 1) := by decide +kernel
theorem dX5_copyFrom_14 : decode cX5_copyFrom 14 = .ok (.getfield 15, 3) := by decide +kernel
theorem dX5_copyFrom_17 : decode cX5_copyFrom 17 = .ok (.iconst 0, 1) := by decide +kernel
theorem dX5_copyFrom_18 : decode cX5_copyFrom 18 = .ok (.bipush 12, 2) := by decide +kernel
theorem dX5_copyFrom_20 : decode cX5_copyFrom 20 = .ok (.invokestatic 58, 3) := by decide +kernel
theorem dX5_copyFrom_23 : decode cX5_copyFrom 23 = .ok (.aload_n 1, 1) := by decide +kernel
theorem dX5_copyFrom_24 : decode cX5_copyFrom 24 = .ok (.getfield 19, 3) := by decide +kernel
theorem dX5_copyFrom_27 : decode cX5_copyFrom 27 = .ok (.iconst 0, 1) := by decide +kernel
theorem dX5_copyFrom_28 : decode cX5_copyFrom 28 = .ok (.aload_n 0, 1) := by decide +kernel
theorem dX5_copyFrom_29 : decode cX5_copyFrom 29 = .ok (.getfield 19, 3) := by decide +kernel
theorem dX5_copyFrom_32 : decode cX5_copyFrom 32 = .ok (.iconst 0, 1) := by decide +kernel
theorem dX5_copyFrom_33 : decode cX5_copyFrom 33 = .ok (.bipush 12, 2) := by decide +kernel
theorem dX5_copyFrom_35 : decode cX5_copyFrom 35 = .ok (.invokestatic 58, 3) := by decide +kernel
theorem dX5_copyFrom_38 : decode cX5_copyFrom 38 = .ok (.aload_n 1, 1) := by decide +kernel
theorem dX5_copyFrom_39 : decode cX5_copyFrom 39 = .ok (.getfield 22, 3) := by decide +kernel
theorem dX5_copyFrom_42 : decode cX5_copyFrom 42 = .ok (.iconst 0, 1) := by decide +kernel
theorem dX5_copyFrom_43 : decode cX5_copyFrom 43 = .ok (.aload_n 0, 1) := by decide +kernel
theorem dX5_copyFrom_44 : decode cX5_copyFrom 44 = .ok (.getfield 22, 3) := by decide +kernel
theorem dX5_copyFrom_47 : decode cX5_copyFrom 47 = .ok (.iconst 0, 1) := by decide +kernel
theorem dX5_copyFrom_48 : decode cX5_copyFrom 48 = .ok (.sipush 360, 3) := by decide +kernel
theorem dX5_copyFrom_51 : decode cX5_copyFrom 51 = .ok (.invokestatic 58, 3) := by decide +kernel
theorem dX5_copyFrom_54 : decode cX5_copyFrom 54 = .ok (.aload_n 1, 1) := by decide +kernel
theorem dX5_copyFrom_55 : decode cX5_copyFrom 55 = .ok (.getfield 25, 3) := by decide +kernel
theorem dX5_copyFrom_58 : decode cX5_copyFrom 58 = .ok (.iconst 0, 1) := by decide +kernel
theorem dX5_copyFrom_59 : decode cX5_copyFrom 59 = .ok (.aload_n 0, 1) := by decide +kernel
theorem dX5_copyFrom_60 : decode cX5_copyFrom 60 = .ok (.getfield 25, 3) := by decide +kernel
theorem dX5_copyFrom_63 : decode cX5_copyFrom 63 = .ok (.iconst 0, 1) := by decide +kernel
theorem dX5_copyFrom_64 : decode cX5_copyFrom 64 = .ok (.bipush 60, 2) := by decide +kernel
theorem dX5_copyFrom_66 : decode cX5_copyFrom 66 = .ok (.invokestatic 58, 3) := by decide +kernel
theorem dX5_copyFrom_69 : decode cX5_copyFrom 69 = .ok (.aload_n 0, 1) := by decide +kernel
theorem dX5_copyFrom_70 : decode cX5_copyFrom 70 = .ok (.aload_n 1, 1) := by decide +kernel
theorem dX5_copyFrom_71 : decode cX5_copyFrom 71 = .ok (.getfield 28, 3) := by decide +kernel
theorem dX5_copyFrom_74 : decode cX5_copyFrom 74 = .ok (.putfield 28, 3) := by decide +kernel
theorem dX5_copyFrom_77 : decode cX5_copyFrom 77 = .ok (.aload_n 1, 1) := by decide +kernel
theorem dX5_copyFrom_78 : decode cX5_copyFrom 78 = .ok (.getfield 31, 3) := by decide +kernel
theorem dX5_copyFrom_81 : decode cX5_copyFrom 81 = .ok (.iconst 0, 1) := by decide +kernel
theorem dX5_copyFrom_82 : decode cX5_copyFrom 82 = .ok (.aload_n 0, 1) := by decide +kernel
theorem dX5_copyFrom_83 : decode cX5_copyFrom 83 = .ok (.getfield 31, 3) := by decide +kernel
theorem dX5_copyFrom_86 : decode cX5_copyFrom 86 = .ok (.iconst 0, 1) := by decide +kernel
theorem dX5_copyFrom_87 : decode cX5_copyFrom 87 = .ok (.bipush 6, 2) := by decide +kernel
theorem dX5_copyFrom_89 : decode cX5_copyFrom 89 = .ok (.invokestatic 58, 3) := by decide +kernel
theorem dX5_copyFrom_92 : decode cX5_copyFrom 92 = .ok (.aload_n 1, 1) := by decide +kernel
theorem dX5_copyFrom_93 : decode cX5_copyFrom 93 = .ok (.getfield 34, 3) := by decide +kernel
theorem dX5_copyFrom_96 : decode cX5_copyFrom 96 = .ok (.iconst 0, 1) := by decide +kernel
theorem dX5_copyFrom_97 : decode cX5_copyFrom 97 = .ok (.aload_n 0, 1) := by decide +kernel
theorem dX5_copyFrom_98 : decode cX5_copyFrom 98 = .ok (.getfield 34, 3) := by decide +kernel
theorem dX5_copyFrom_101 : decode cX5_copyFrom 101 = .ok (.iconst 0, 1) := by decide +kernel
theorem dX5_copyFrom_102 : decode cX5_copyFrom 102 = .ok (.bipush 6, 2) := by decide +kernel
theorem dX5_copyFrom_104 : decode cX5_copyFrom 104 = .ok (.invokestatic 58, 3) := by decide +kernel
theorem dX5_copyFrom_107 : decode cX5_copyFrom 107 = .ok (.aload_n 1, 1) := by decide +kernel
theorem dX5_copyFrom_108 : decode cX5_copyFrom 108 = .ok (.getfield 37, 3) := by decide +kernel
theorem dX5_copyFrom_111 : decode cX5_copyFrom 111 = .ok (.iconst 0, 1) := by decide +kernel
theorem dX5_copyFrom_112 : decode cX5_copyFrom 112 = .ok (.aload_n 0, 1) := by decide +kernel
theorem dX5_copyFrom_113 : decode cX5_copyFrom 113 = .ok (.getfield 37, 3) := by decide +kernel
theorem dX5_copyFrom_116 : decode cX5_copyFrom 116 = .ok (.iconst 0, 1) := by decide +kernel
theorem dX5_copyFrom_117 : decode cX5_copyFrom 117 = .ok (.bipush 6, 2) := by decide +kernel
theorem dX5_copyFrom_119 : decode cX5_copyFrom 119 = .ok (.invokestatic 58, 3) := by decide +kernel
theorem dX5_copyFrom_122 : decode cX5_copyFrom 122 = .ok (.aload_n 0, 1) := by decide +kernel
theorem dX5_copyFrom_123 : decode cX5_copyFrom 123 = .ok (.aload_n 1, 1) := by decide +kernel
theorem dX5_copyFrom_124 : decode cX5_copyFrom 124 = .ok (.getfield 40, 3) := by decide +kernel
theorem dX5_copyFrom_127 : decode cX5_copyFrom 127 = .ok (.putfield 40, 3) := by decide +kernel
theorem dX5_copyFrom_130 : decode cX5_copyFrom 130 = .ok (.aload_n 1, 1) := by decide +kernel
theorem dX5_copyFrom_131 : decode cX5_copyFrom 131 = .ok (.getfield 43, 3) := by decide +kernel
theorem dX5_copyFrom_134 : decode cX5_copyFrom 134 = .ok (.iconst 0, 1) := by decide +kernel
theorem dX5_copyFrom_135 : decode cX5_copyFrom 135 = .ok (.aload_n 0, 1) := by decide +kernel
theorem dX5_copyFrom_136 : decode cX5_copyFrom 136 = .ok (.getfield 43, 3) := by decide +kernel
theorem dX5_copyFrom_139 : decode cX5_copyFrom 139 = .ok (.iconst 0, 1) := by decide +kernel
theorem dX5_copyFrom_140 : decode cX5_copyFrom 140 = .ok (.bipush 12, 2) := by decide +kernel
theorem dX5_copyFrom_142 : decode cX5_copyFrom 142 = .ok (.invokestatic 58, 3) := by decide +kernel
theorem dX5_copyFrom_145 : decode cX5_copyFrom 145 = .ok (.aload_n 1, 1) := by decide +kernel
theorem dX5_copyFrom_146 : decode cX5_copyFrom 146 = .ok (.getfield 46, 3) := by decide +kernel
theorem dX5_copyFrom_149 : decode cX5_copyFrom 149 = .ok (.iconst 0, 1) := by decide +kernel
theorem dX5_copyFrom_150 : decode cX5_copyFrom 150 = .ok (.aload_n 0, 1) := by decide +kernel
theorem dX5_copyFrom_151 : decode cX5_copyFrom 151 = .ok (.getfield 46, 3) := by decide +kernel
theorem dX5_copyFrom_154 : decode cX5_copyFrom 154 = .ok (.iconst 0, 1) := by decide +kernel
theorem dX5_copyFrom_155 : decode cX5_copyFrom 155 = .ok (.bipush 12, 2) := by decide +kernel
theorem dX5_copyFrom_157 : decode cX5_copyFrom 157 = .ok (.invokestatic 58, 3) := by decide +kernel
theorem dX5_copyFrom_160 : decode cX5_copyFrom 160 = .ok (.aload_n 1, 1) := by decide +kernel
theorem dX5_copyFrom_161 : decode cX5_copyFrom 161 = .ok (.getfield 49, 3) := by decide +kernel
theorem dX5_copyFrom_164 : decode cX5_copyFrom 164 = .ok (.iconst 0, 1) := by decide +kernel
theorem dX5_copyFrom_165 : decode cX5_copyFrom 165 = .ok (.aload_n 0, 1) := by decide +kernel
theorem dX5_copyFrom_166 : decode cX5_copyFrom 166 = .ok (.getfield 49, 3) := by decide +kernel
theorem dX5_copyFrom_169 : decode cX5_copyFrom 169 = .ok (.iconst 0, 1) := by decide +kernel
theorem dX5_copyFrom_170 : decode cX5_copyFrom 170 = .ok (.bipush 12, 2) := by decide +kernel
theorem dX5_copyFrom_172 : decode cX5_copyFrom 172 = .ok (.invokestatic 58, 3) := by decide +kernel
theorem dX5_copyFrom_175 : decode cX5_copyFrom 175 = .ok (.return_, 1) := by decide +kernel
theorem dX5_cell_0 : decode cX5_cell 0 = .ok (.iload_n 1, 1) := by decide +kernel
theorem dX5_cell_1 : decode cX5_cell 1 = .ok (.bipush 6, 2) := by decide +kernel
theorem dX5_cell_3 : decode cX5_cell 3 = .ok (.imul, 1) := by decide +kernel
theorem dX5_cell_4 : decode cX5_cell 4 = .ok (.iload_n 0, 1) := by decide +kernel
theorem dX5_cell_5 : decode cX5_cell 5 = .ok (.iadd, 1) := by decide +kernel
theorem dX5_cell_6 : decode cX5_cell 6 = .ok (.iconst 5, 1) := by decide +kernel
theorem dX5_cell_7 : decode cX5_cell 7 = .ok (.imul, 1) := by decide +kernel
theorem dX5_cell_8 : decode cX5_cell 8 = .ok (.iload_n 2, 1) := by decide +kernel
theorem dX5_cell_9 : decode cX5_cell 9 = .ok (.iadd, 1) := by decide +kernel
theorem dX5_cell_10 : decode cX5_cell 10 = .ok (.iconst 1, 1) := by decide +kernel
theorem dX5_cell_11 : decode cX5_cell 11 = .ok (.isub, 1) := by decide +kernel
theorem dX5_cell_12 : decode cX5_cell 12 = .ok (.ireturn, 1) := by decide +kernel
theorem dX5_row_0 : decode cX5_row 0 = .ok (.iload_n 0, 1) := by decide +kernel
theorem dX5_row_1 : decode cX5_row 1 = .ok (.iconst 5, 1) := by decide +kernel
theorem dX5_row_2 : decode cX5_row 2 = .ok (.imul, 1) := by decide +kernel
theorem dX5_row_3 : decode cX5_row 3 = .ok (.iload_n 1, 1) := by decide +kernel
theorem dX5_row_4 : decode cX5_row 4 = .ok (.iadd, 1) := by decide +kernel
theorem dX5_row_5 : decode cX5_row 5 = .ok (.iconst 1, 1) := by decide +kernel
theorem dX5_row_6 : decode cX5_row 6 = .ok (.isub, 1) := by decide +kernel
theorem dX5_row_7 : decode cX5_row 7 = .ok (.ireturn, 1) := by decide +kernel
theorem dX5_isThing_0 : decode cX5_isThing 0 = .ok (.iload_n 1, 1) := by decide +kernel
theorem dX5_isThing_1 : decode cX5_isThing 1 = .ok (.ifCond .lt 15, 3) := by decide +kernel
theorem dX5_isThing_4 : decode cX5_isThing 4 = .ok (.iload_n 1, 1) := by decide +kernel
theorem dX5_isThing_5 : decode cX5_isThing 5 = .ok (.aload_n 0, 1) := by decide +kernel
theorem dX5_isThing_6 : decode cX5_isThing 6 = .ok (.getfield 9, 3) := by decide +kernel
theorem dX5_isThing_9 : decode cX5_isThing 9 = .ok (.if_icmp .ge 7, 3) := by decide +kernel
theorem dX5_isThing_12 : decode cX5_isThing 12 = .ok (.iconst 1, 1) := by decide +kernel
theorem dX5_isThing_13 : decode cX5_isThing 13 = .ok (.goto 4, 3) := by decide +kernel
theorem dX5_isThing_16 : decode cX5_isThing 16 = .ok (.iconst 0, 1) := by decide +kernel
theorem dX5_isThing_17 : decode cX5_isThing 17 = .ok (.ireturn, 1) := by decide +kernel
theorem dX5_isBare_0 : decode cX5_isBare 0 = .ok (.aload_n 0, 1) := by decide +kernel
theorem dX5_isBare_1 : decode cX5_isBare 1 = .ok (.getfield 19, 3) := by decide +kernel
theorem dX5_isBare_4 : decode cX5_isBare 4 = .ok (.iload_n 1, 1) := by decide +kernel
theorem dX5_isBare_5 : decode cX5_isBare 5 = .ok (.iaload, 1) := by decide +kernel
theorem dX5_isBare_6 : decode cX5_isBare 6 = .ok (.iconst 1, 1) := by decide +kernel
theorem dX5_isBare_7 : decode cX5_isBare 7 = .ok (.if_icmp .ne 7, 3) := by decide +kernel
theorem dX5_isBare_10 : decode cX5_isBare 10 = .ok (.iconst 1, 1) := by decide +kernel
theorem dX5_isBare_11 : decode cX5_isBare 11 = .ok (.goto 4, 3) := by decide +kernel
theorem dX5_isBare_14 : decode cX5_isBare 14 = .ok (.iconst 0, 1) := by decide +kernel
theorem dX5_isBare_15 : decode cX5_isBare 15 = .ok (.ireturn, 1) := by decide +kernel
theorem dX5_isAsk_0 : decode cX5_isAsk 0 = .ok (.iload_n 1, 1) := by decide +kernel
theorem dX5_isAsk_1 : decode cX5_isAsk 1 = .ok (.invokestatic 64, 3) := by decide +kernel
theorem dX5_isAsk_4 : decode cX5_isAsk 4 = .ok (.ifCond .eq 30, 3) := by decide +kernel
theorem dX5_isAsk_7 : decode cX5_isAsk 7 = .ok (.aload_n 0, 1) := by decide +kernel
theorem dX5_isAsk_8 : decode cX5_isAsk 8 = .ok (.iload_n 2, 1) := by decide +kernel
theorem dX5_isAsk_9 : decode cX5_isAsk 9 = .ok (.invokevirtual 68, 3) := by decide +kernel
theorem dX5_isAsk_12 : decode cX5_isAsk 12 = .ok (.ifCond .eq 22, 3) := by decide +kernel
theorem dX5_isAsk_15 : decode cX5_isAsk 15 = .ok (.iload_n 3, 1) := by decide +kernel
theorem dX5_isAsk_16 : decode cX5_isAsk 16 = .ok (.iconst 2, 1) := by decide +kernel
theorem dX5_isAsk_17 : decode cX5_isAsk 17 = .ok (.if_icmp .eq 13, 3) := by decide +kernel
theorem dX5_isAsk_20 : decode cX5_isAsk 20 = .ok (.iload_n 3, 1) := by decide +kernel
theorem dX5_isAsk_21 : decode cX5_isAsk 21 = .ok (.iconst 4, 1) := by decide +kernel
theorem dX5_isAsk_22 : decode cX5_isAsk 22 = .ok (.if_icmp .eq 8, 3) := by decide +kernel
theorem dX5_isAsk_25 : decode cX5_isAsk 25 = .ok (.iload_n 3, 1) := by decide +kernel
theorem dX5_isAsk_26 : decode cX5_isAsk 26 = .ok (.iconst 5, 1) := by decide +kernel
theorem dX5_isAsk_27 : decode cX5_isAsk 27 = .ok (.if_icmp .ne 7, 3) := by decide +kernel
theorem dX5_isAsk_30 : decode cX5_isAsk 30 = .ok (.iconst 1, 1) := by decide +kernel
theorem dX5_isAsk_31 : decode cX5_isAsk 31 = .ok (.goto 4, 3) := by decide +kernel
theorem dX5_isAsk_34 : decode cX5_isAsk 34 = .ok (.iconst 0, 1) := by decide +kernel
theorem dX5_isAsk_35 : decode cX5_isAsk 35 = .ok (.ireturn, 1) := by decide +kernel
theorem dX5_isWaiting_0 : decode cX5_isWaiting 0 = .ok (.aload_n 0, 1) := by decide +kernel
theorem dX5_isWaiting_1 : decode cX5_isWaiting 1 = .ok (.getfield 37, 3) := by decide +kernel
theorem dX5_isWaiting_4 : decode cX5_isWaiting 4 = .ok (.iload_n 1, 1) := by decide +kernel
theorem dX5_isWaiting_5 : decode cX5_isWaiting 5 = .ok (.iaload, 1) := by decide +kernel
theorem dX5_isWaiting_6 : decode cX5_isWaiting 6 = .ok (.ifCond .eq 7, 3) := by decide +kernel
theorem dX5_isWaiting_9 : decode cX5_isWaiting 9 = .ok (.iconst 1, 1) := by decide +kernel
theorem dX5_isWaiting_10 : decode cX5_isWaiting 10 = .ok (.goto 4, 3) := by decide +kernel
theorem dX5_isWaiting_13 : decode cX5_isWaiting 13 = .ok (.iconst 0, 1) := by decide +kernel
theorem dX5_isWaiting_14 : decode cX5_isWaiting 14 = .ok (.ireturn, 1) := by decide +kernel
theorem dX5_addThing_0 : decode cX5_addThing 0 = .ok (.iload_n 1, 1) := by decide +kernel
theorem dX5_addThing_1 : decode cX5_addThing 1 = .ok (.iconst (-1), 1) := by decide +kernel
theorem dX5_addThing_2 : decode cX5_addThing 2 = .ok (.if_icmp .eq 13, 3) := by decide +kernel
theorem dX5_addThing_5 : decode cX5_addThing 5 = .ok (.aload_n 0, 1) := by decide +kernel
theorem dX5_addThing_6 : decode cX5_addThing 6 = .ok (.iload_n 1, 1) := by decide +kernel
theorem dX5_addThing_7 : decode cX5_addThing 7 = .ok (.invokevirtual 68, 3) := by decide +kernel
theorem dX5_addThing_10 : decode cX5_addThing 10 = .ok (.ifCond .ne 5, 3) := by decide +kernel
theorem dX5_addThing_13 : decode cX5_addThing 13 = .ok (.iconst (-1), 1) := by decide +kernel
theorem dX5_addThing_14 : decode cX5_addThing 14 = .ok (.ireturn, 1) := by decide +kernel
theorem dX5_addThing_15 : decode cX5_addThing 15 = .ok (.iload_n 2, 1) := by decide +kernel
theorem dX5_addThing_16 : decode cX5_addThing 16 = .ok (.ifCond .eq 10, 3) := by decide +kernel
theorem dX5_addThing_19 : decode cX5_addThing 19 = .ok (.iload_n 2, 1) := by decide +kernel
theorem dX5_addThing_20 : decode cX5_addThing 20 = .ok (.iconst 1, 1) := by decide +kernel
theorem dX5_addThing_21 : decode cX5_addThing 21 = .ok (.if_icmp .eq 5, 3) := by decide +kernel
theorem dX5_addThing_24 : decode cX5_addThing 24 = .ok (.iconst (-1), 1) := by decide +kernel
theorem dX5_addThing_25 : decode cX5_addThing 25 = .ok (.ireturn, 1) := by decide +kernel
theorem dX5_addThing_26 : decode cX5_addThing 26 = .ok (.aload_n 0, 1) := by decide +kernel
theorem dX5_addThing_27 : decode cX5_addThing 27 = .ok (.getfield 9, 3) := by decide +kernel
theorem dX5_addThing_30 : decode cX5_addThing 30 = .ok (.bipush 12, 2) := by decide +kernel
theorem dX5_addThing_32 : decode cX5_addThing 32 = .ok (.if_icmp .lt 6, 3) := by decide +kernel
theorem dX5_addThing_35 : decode cX5_addThing 35 = .ok (.bipush (-3), 2) := by decide +kernel
theorem dX5_addThing_37 : decode cX5_addThing 37 = .ok (.ireturn, 1) := by decide +kernel
theorem dX5_addThing_38 : decode cX5_addThing 38 = .ok (.aload_n 0, 1) := by decide +kernel
theorem dX5_addThing_39 : decode cX5_addThing 39 = .ok (.getfield 15, 3) := by decide +kernel
theorem dX5_addThing_42 : decode cX5_addThing 42 = .ok (.aload_n 0, 1) := by decide +kernel
theorem dX5_addThing_43 : decode cX5_addThing 43 = .ok (.getfield 9, 3) := by decide +kernel
theorem dX5_addThing_46 : decode cX5_addThing 46 = .ok (.iload_n 1, 1) := by decide +kernel
theorem dX5_addThing_47 : decode cX5_addThing 47 = .ok (.iastore, 1) := by decide +kernel
theorem dX5_addThing_48 : decode cX5_addThing 48 = .ok (.aload_n 0, 1) := by decide +kernel
theorem dX5_addThing_49 : decode cX5_addThing 49 = .ok (.getfield 19, 3) := by decide +kernel
theorem dX5_addThing_52 : decode cX5_addThing 52 = .ok (.aload_n 0, 1) := by decide +kernel
theorem dX5_addThing_53 : decode cX5_addThing 53 = .ok (.getfield 9, 3) := by decide +kernel
theorem dX5_addThing_56 : decode cX5_addThing 56 = .ok (.iload_n 2, 1) := by decide +kernel
theorem dX5_addThing_57 : decode cX5_addThing 57 = .ok (.iastore, 1) := by decide +kernel
theorem dX5_addThing_58 : decode cX5_addThing 58 = .ok (.aload_n 0, 1) := by decide +kernel
theorem dX5_addThing_59 : decode cX5_addThing 59 = .ok (.dup, 1) := by decide +kernel
theorem dX5_addThing_60 : decode cX5_addThing 60 = .ok (.getfield 9, 3) := by decide +kernel
theorem dX5_addThing_63 : decode cX5_addThing 63 = .ok (.iconst 1, 1) := by decide +kernel
theorem dX5_addThing_64 : decode cX5_addThing 64 = .ok (.iadd, 1) := by decide +kernel
theorem dX5_addThing_65 : decode cX5_addThing 65 = .ok (.putfield 9, 3) := by decide +kernel
theorem dX5_addThing_68 : decode cX5_addThing 68 = .ok (.aload_n 0, 1) := by decide +kernel
theorem dX5_addThing_69 : decode cX5_addThing 69 = .ok (.getfield 9, 3) := by decide +kernel
theorem dX5_addThing_72 : decode cX5_addThing 72 = .ok (.iconst 1, 1) := by decide +kernel
theorem dX5_addThing_73 : decode cX5_addThing 73 = .ok (.isub, 1) := by decide +kernel
theorem dX5_addThing_74 : decode cX5_addThing 74 = .ok (.ireturn, 1) := by decide +kernel
theorem dX5_wholesAbove_0 : decode cX5_wholesAbove 0 = .ok (.iconst 0, 1) := by decide +kernel
theorem dX5_wholesAbove_1 : decode cX5_wholesAbove 1 = .ok (.istore_n 2, 1) := by decide +kernel
theorem dX5_wholesAbove_2 : decode cX5_wholesAbove 2 = .ok (.aload_n 0, 1) := by decide +kernel
theorem dX5_wholesAbove_3 : decode cX5_wholesAbove 3 = .ok (.getfield 15, 3) := by decide +kernel
theorem dX5_wholesAbove_6 : decode cX5_wholesAbove 6 = .ok (.iload_n 1, 1) := by decide +kernel
theorem dX5_wholesAbove_7 : decode cX5_wholesAbove 7 = .ok (.iaload, 1) := by decide +kernel
theorem dX5_wholesAbove_8 : decode cX5_wholesAbove 8 = .ok (.istore_n 3, 1) := by decide +kernel
theorem dX5_wholesAbove_9 : decode cX5_wholesAbove 9 = .ok (.iload_n 3, 1) := by decide +kernel
theorem dX5_wholesAbove_10 : decode cX5_wholesAbove 10 = .ok (.ifCond .lt 22, 3) := by decide +kernel
theorem dX5_wholesAbove_13 : decode cX5_wholesAbove 13 = .ok (.iload_n 2, 1) := by decide +kernel
theorem dX5_wholesAbove_14 : decode cX5_wholesAbove 14 = .ok (.bipush 12, 2) := by decide +kernel
theorem dX5_wholesAbove_16 : decode cX5_wholesAbove 16 = .ok (.if_icmp .ge 16, 3) := by decide +kernel
theorem dX5_wholesAbove_19 : decode cX5_wholesAbove 19 = .ok (.iinc 2 1, 3) := by decide +kernel
theorem dX5_wholesAbove_22 : decode cX5_wholesAbove 22 = .ok (.aload_n 0, 1) := by decide +kernel
theorem dX5_wholesAbove_23 : decode cX5_wholesAbove 23 = .ok (.getfield 15, 3) := by decide +kernel
theorem dX5_wholesAbove_26 : decode cX5_wholesAbove 26 = .ok (.iload_n 3, 1) := by decide +kernel
theorem dX5_wholesAbove_27 : decode cX5_wholesAbove 27 = .ok (.iaload, 1) := by decide +kernel
theorem dX5_wholesAbove_28 : decode cX5_wholesAbove 28 = .ok (.istore_n 3, 1) := by decide +kernel
theorem dX5_wholesAbove_29 : decode cX5_wholesAbove 29 = .ok (.goto (-20), 3) := by decide +kernel
theorem dX5_wholesAbove_32 : decode cX5_wholesAbove 32 = .ok (.iload_n 2, 1) := by decide +kernel
theorem dX5_wholesAbove_33 : decode cX5_wholesAbove 33 = .ok (.ireturn, 1) := by decide +kernel
theorem dX5_partBits_0 : decode cX5_partBits 0 = .ok (.iconst 0, 1) := by decide +kernel
theorem dX5_partBits_1 : decode cX5_partBits 1 = .ok (.istore_n 2, 1) := by decide +kernel
theorem dX5_partBits_2 : decode cX5_partBits 2 = .ok (.iload_n 1, 1) := by decide +kernel
theorem dX5_partBits_3 : decode cX5_partBits 3 = .ok (.iconst 1, 1) := by decide +kernel
theorem dX5_partBits_4 : decode cX5_partBits 4 = .ok (.iadd, 1) := by decide +kernel
theorem dX5_partBits_5 : decode cX5_partBits 5 = .ok (.istore_n 3, 1) := by decide +kernel
theorem dX5_partBits_6 : decode cX5_partBits 6 = .ok (.iload_n 3, 1) := by decide +kernel
theorem dX5_partBits_7 : decode cX5_partBits 7 = .ok (.aload_n 0, 1) := by decide +kernel
theorem dX5_partBits_8 : decode cX5_partBits 8 = .ok (.getfield 9, 3) := by decide +kernel
theorem dX5_partBits_11 : decode cX5_partBits 11 = .ok (.if_icmp .ge 25, 3) := by decide +kernel
theorem dX5_partBits_14 : decode cX5_partBits 14 = .ok (.aload_n 0, 1) := by decide +kernel
theorem dX5_partBits_15 : decode cX5_partBits 15 = .ok (.getfield 15, 3) := by decide +kernel
theorem dX5_partBits_18 : decode cX5_partBits 18 = .ok (.iload_n 3, 1) := by decide +kernel
theorem dX5_partBits_19 : decode cX5_partBits 19 = .ok (.iaload, 1) := by decide +kernel
theorem dX5_partBits_20 : decode cX5_partBits 20 = .ok (.iload_n 1, 1) := by decide +kernel
theorem dX5_partBits_21 : decode cX5_partBits 21 = .ok (.if_icmp .ne 9, 3) := by decide +kernel
theorem dX5_partBits_24 : decode cX5_partBits 24 = .ok (.iload_n 2, 1) := by decide +kernel
theorem dX5_partBits_25 : decode cX5_partBits 25 = .ok (.iconst 1, 1) := by decide +kernel
theorem dX5_partBits_26 : decode cX5_partBits 26 = .ok (.iload_n 3, 1) := by decide +kernel
theorem dX5_partBits_27 : decode cX5_partBits 27 = .ok (.ishl, 1) := by decide +kernel
theorem dX5_partBits_28 : decode cX5_partBits 28 = .ok (.ior, 1) := by decide +kernel
theorem dX5_partBits_29 : decode cX5_partBits 29 = .ok (.istore_n 2, 1) := by decide +kernel
theorem dX5_partBits_30 : decode cX5_partBits 30 = .ok (.iinc 3 1, 3) := by decide +kernel
theorem dX5_partBits_33 : decode cX5_partBits 33 = .ok (.goto (-27), 3) := by decide +kernel
theorem dX5_partBits_36 : decode cX5_partBits 36 = .ok (.iload_n 2, 1) := by decide +kernel
theorem dX5_partBits_37 : decode cX5_partBits 37 = .ok (.ireturn, 1) := by decide +kernel
theorem dX5_countsAt_0 : decode cX5_countsAt 0 = .ok (.iconst 0, 1) := by decide +kernel
theorem dX5_countsAt_1 : decode cX5_countsAt 1 = .ok (.istore_n 2, 1) := by decide +kernel
theorem dX5_countsAt_2 : decode cX5_countsAt 2 = .ok (.iload_n 1, 1) := by decide +kernel
theorem dX5_countsAt_3 : decode cX5_countsAt 3 = .ok (.bipush 6, 2) := by decide +kernel
theorem dX5_countsAt_5 : decode cX5_countsAt 5 = .ok (.imul, 1) := by decide +kernel
theorem dX5_countsAt_6 : decode cX5_countsAt 6 = .ok (.iconst 5, 1) := by decide +kernel
theorem dX5_countsAt_7 : decode cX5_countsAt 7 = .ok (.imul, 1) := by decide +kernel
theorem dX5_countsAt_8 : decode cX5_countsAt 8 = .ok (.istore_n 3, 1) := by decide +kernel
theorem dX5_countsAt_9 : decode cX5_countsAt 9 = .ok (.iconst 0, 1) := by decide +kernel
theorem dX5_countsAt_10 : decode cX5_countsAt 10 = .ok (.istore 4, 2) := by decide +kernel
theorem dX5_countsAt_12 : decode cX5_countsAt 12 = .ok (.iload 4, 2) := by decide +kernel
theorem dX5_countsAt_14 : decode cX5_countsAt 14 = .ok (.bipush 30, 2) := by decide +kernel
theorem dX5_countsAt_16 : decode cX5_countsAt 16 = .ok (.if_icmp .ge 21, 3) := by decide +kernel
theorem dX5_countsAt_19 : decode cX5_countsAt 19 = .ok (.iload_n 2, 1) := by decide +kernel
theorem dX5_countsAt_20 : decode cX5_countsAt 20 = .ok (.aload_n 0, 1) := by decide +kernel
theorem dX5_countsAt_21 : decode cX5_countsAt 21 = .ok (.getfield 22, 3) := by decide +kernel
theorem dX5_countsAt_24 : decode cX5_countsAt 24 = .ok (.iload_n 3, 1) := by decide +kernel
theorem dX5_countsAt_25 : decode cX5_countsAt 25 = .ok (.iload 4, 2) := by decide +kernel
theorem dX5_countsAt_27 : decode cX5_countsAt 27 = .ok (.iadd, 1) := by decide +kernel
theorem dX5_countsAt_28 : decode cX5_countsAt 28 = .ok (.iaload, 1) := by decide +kernel
theorem dX5_countsAt_29 : decode cX5_countsAt 29 = .ok (.iadd, 1) := by decide +kernel
theorem dX5_countsAt_30 : decode cX5_countsAt 30 = .ok (.istore_n 2, 1) := by decide +kernel
theorem dX5_countsAt_31 : decode cX5_countsAt 31 = .ok (.iinc 4 1, 3) := by decide +kernel
theorem dX5_countsAt_34 : decode cX5_countsAt 34 = .ok (.goto (-22), 3) := by decide +kernel
theorem dX5_countsAt_37 : decode cX5_countsAt 37 = .ok (.iload_n 2, 1) := by decide +kernel
theorem dX5_countsAt_38 : decode cX5_countsAt 38 = .ok (.ireturn, 1) := by decide +kernel
theorem dX5_allCounts_0 : decode cX5_allCounts 0 = .ok (.iconst 0, 1) := by decide +kernel
theorem dX5_allCounts_1 : decode cX5_allCounts 1 = .ok (.istore_n 1, 1) := by decide +kernel
theorem dX5_allCounts_2 : decode cX5_allCounts 2 = .ok (.iconst 0, 1) := by decide +kernel
theorem dX5_allCounts_3 : decode cX5_allCounts 3 = .ok (.istore_n 2, 1) := by decide +kernel
theorem dX5_allCounts_4 : decode cX5_allCounts 4 = .ok (.iload_n 2, 1) := by decide +kernel
theorem dX5_allCounts_5 : decode cX5_allCounts 5 = .ok (.aload_n 0, 1) := by decide +kernel
theorem dX5_allCounts_6 : decode cX5_allCounts 6 = .ok (.getfield 9, 3) := by decide +kernel
theorem dX5_allCounts_9 : decode cX5_allCounts 9 = .ok (.if_icmp .ge 17, 3) := by decide +kernel
theorem dX5_allCounts_12 : decode cX5_allCounts 12 = .ok (.iload_n 1, 1) := by decide +kernel
theorem dX5_allCounts_13 : decode cX5_allCounts 13 = .ok (.aload_n 0, 1) := by decide +kernel
theorem dX5_allCounts_14 : decode cX5_allCounts 14 = .ok (.iload_n 2, 1) := by decide +kernel
theorem dX5_allCounts_15 : decode cX5_allCounts 15 = .ok (.invokevirtual 71, 3) := by decide +kernel
theorem dX5_allCounts_18 : decode cX5_allCounts 18 = .ok (.iadd, 1) := by decide +kernel
theorem dX5_allCounts_19 : decode cX5_allCounts 19 = .ok (.istore_n 1, 1) := by decide +kernel
theorem dX5_allCounts_20 : decode cX5_allCounts 20 = .ok (.iinc 2 1, 3) := by decide +kernel
theorem dX5_allCounts_23 : decode cX5_allCounts 23 = .ok (.goto (-19), 3) := by decide +kernel
theorem dX5_allCounts_26 : decode cX5_allCounts 26 = .ok (.iload_n 1, 1) := by decide +kernel
theorem dX5_allCounts_27 : decode cX5_allCounts 27 = .ok (.ireturn, 1) := by decide +kernel
theorem dX5_asksFor_0 : decode cX5_asksFor 0 = .ok (.iconst 0, 1) := by decide +kernel
theorem dX5_asksFor_1 : decode cX5_asksFor 1 = .ok (.istore_n 2, 1) := by decide +kernel
theorem dX5_asksFor_2 : decode cX5_asksFor 2 = .ok (.iconst 0, 1) := by decide +kernel
theorem dX5_asksFor_3 : decode cX5_asksFor 3 = .ok (.istore_n 3, 1) := by decide +kernel
theorem dX5_asksFor_4 : decode cX5_asksFor 4 = .ok (.iload_n 3, 1) := by decide +kernel
theorem dX5_asksFor_5 : decode cX5_asksFor 5 = .ok (.bipush 6, 2) := by decide +kernel
theorem dX5_asksFor_7 : decode cX5_asksFor 7 = .ok (.if_icmp .ge 30, 3) := by decide +kernel
theorem dX5_asksFor_10 : decode cX5_asksFor 10 = .ok (.aload_n 0, 1) := by decide +kernel
theorem dX5_asksFor_11 : decode cX5_asksFor 11 = .ok (.iload_n 3, 1) := by decide +kernel
theorem dX5_asksFor_12 : decode cX5_asksFor 12 = .ok (.invokevirtual 75, 3) := by decide +kernel
theorem dX5_asksFor_15 : decode cX5_asksFor 15 = .ok (.ifCond .eq 16, 3) := by decide +kernel
theorem dX5_asksFor_18 : decode cX5_asksFor 18 = .ok (.aload_n 0, 1) := by decide +kernel
theorem dX5_asksFor_19 : decode cX5_asksFor 19 = .ok (.getfield 34, 3) := by decide +kernel
theorem dX5_asksFor_22 : decode cX5_asksFor 22 = .ok (.iload_n 3, 1) := by decide +kernel
theorem dX5_asksFor_23 : decode cX5_asksFor 23 = .ok (.iaload, 1) := by decide +kernel
theorem dX5_asksFor_24 : decode cX5_asksFor 24 = .ok (.iload_n 1, 1) := by decide +kernel
theorem dX5_asksFor_25 : decode cX5_asksFor 25 = .ok (.if_icmp .ne 6, 3) := by decide +kernel
theorem dX5_asksFor_28 : decode cX5_asksFor 28 = .ok (.iinc 2 1, 3) := by decide +kernel
theorem dX5_asksFor_31 : decode cX5_asksFor 31 = .ok (.iinc 3 1, 3) := by decide +kernel
theorem dX5_asksFor_34 : decode cX5_asksFor 34 = .ok (.goto (-30), 3) := by decide +kernel
theorem dX5_asksFor_37 : decode cX5_asksFor 37 = .ok (.iload_n 2, 1) := by decide +kernel
theorem dX5_asksFor_38 : decode cX5_asksFor 38 = .ok (.ireturn, 1) := by decide +kernel
theorem dX5_holdersInAny_0 : decode cX5_holdersInAny 0 = .ok (.iconst 0, 1) := by decide +kernel
theorem dX5_holdersInAny_1 : decode cX5_holdersInAny 1 = .ok (.istore_n 2, 1) := by decide +kernel
theorem dX5_holdersInAny_2 : decode cX5_holdersInAny 2 = .ok (.iconst 1, 1) := by decide +kernel
theorem dX5_holdersInAny_3 : decode cX5_holdersInAny 3 = .ok (.istore_n 3, 1) := by decide +kernel
theorem dX5_holdersInAny_4 : decode cX5_holdersInAny 4 = .ok (.iload_n 3, 1) := by decide +kernel
theorem dX5_holdersInAny_5 : decode cX5_holdersInAny 5 = .ok (.iconst 5, 1) := by decide +kernel
theorem dX5_holdersInAny_6 : decode cX5_holdersInAny 6 = .ok (.if_icmp .gt 22, 3) := by decide +kernel
theorem dX5_holdersInAny_9 : decode cX5_holdersInAny 9 = .ok (.iload_n 2, 1) := by decide +kernel
theorem dX5_holdersInAny_10 : decode cX5_holdersInAny 10 = .ok (.aload_n 0, 1) := by decide +kernel
theorem dX5_holdersInAny_11 : decode cX5_holdersInAny 11 = .ok (.getfield 25, 3) := by decide +kernel
theorem dX5_holdersInAny_14 : decode cX5_holdersInAny 14 = .ok (.iload_n 1, 1) := by decide +kernel
theorem dX5_holdersInAny_15 : decode cX5_holdersInAny 15 = .ok (.iload_n 3, 1) := by decide +kernel
theorem dX5_holdersInAny_16 : decode cX5_holdersInAny 16 = .ok (.invokestatic 78, 3) := by decide +kernel
theorem dX5_holdersInAny_19 : decode cX5_holdersInAny 19 = .ok (.iaload, 1) := by decide +kernel
theorem dX5_holdersInAny_20 : decode cX5_holdersInAny 20 = .ok (.ior, 1) := by decide +kernel
theorem dX5_holdersInAny_21 : decode cX5_holdersInAny 21 = .ok (.istore_n 2, 1) := by decide +kernel
theorem dX5_holdersInAny_22 : decode cX5_holdersInAny 22 = .ok (.iinc 3 1, 3) := by decide +kernel
theorem dX5_holdersInAny_25 : decode cX5_holdersInAny 25 = .ok (.goto (-21), 3) := by decide +kernel
theorem dX5_holdersInAny_28 : decode cX5_holdersInAny 28 = .ok (.iload_n 2, 1) := by decide +kernel
theorem dX5_holdersInAny_29 : decode cX5_holdersInAny 29 = .ok (.ireturn, 1) := by decide +kernel
theorem dX5_isRaise_0 : decode cX5_isRaise 0 = .ok (.iload_n 2, 1) := by decide +kernel
theorem dX5_isRaise_1 : decode cX5_isRaise 1 = .ok (.iconst 5, 1) := by decide +kernel
theorem dX5_isRaise_2 : decode cX5_isRaise 2 = .ok (.imul, 1) := by decide +kernel
theorem dX5_isRaise_3 : decode cX5_isRaise 3 = .ok (.iconst 1, 1) := by decide +kernel
theorem dX5_isRaise_4 : decode cX5_isRaise 4 = .ok (.isub, 1) := by decide +kernel
theorem dX5_isRaise_5 : decode cX5_isRaise 5 = .ok (.istore_n 3, 1) := by decide +kernel
theorem dX5_isRaise_6 : decode cX5_isRaise 6 = .ok (.aload_n 0, 1) := by decide +kernel
theorem dX5_isRaise_7 : decode cX5_isRaise 7 = .ok (.getfield 25, 3) := by decide +kernel
theorem dX5_isRaise_10 : decode cX5_isRaise 10 = .ok (.iload_n 3, 1) := by decide +kernel
theorem dX5_isRaise_11 : decode cX5_isRaise 11 = .ok (.iconst 2, 1) := by decide +kernel
theorem dX5_isRaise_12 : decode cX5_isRaise 12 = .ok (.iadd, 1) := by decide +kernel
theorem dX5_isRaise_13 : decode cX5_isRaise 13 = .ok (.iaload, 1) := by decide +kernel
theorem dX5_isRaise_14 : decode cX5_isRaise 14 = .ok (.aload_n 0, 1) := by decide +kernel
theorem dX5_isRaise_15 : decode cX5_isRaise 15 = .ok (.getfield 25, 3) := by decide +kernel
theorem dX5_isRaise_18 : decode cX5_isRaise 18 = .ok (.iload_n 3, 1) := by decide +kernel
theorem dX5_isRaise_19 : decode cX5_isRaise 19 = .ok (.iconst 4, 1) := by decide +kernel
theorem dX5_isRaise_20 : decode cX5_isRaise 20 = .ok (.iadd, 1) := by decide +kernel
theorem dX5_isRaise_21 : decode cX5_isRaise 21 = .ok (.iaload, 1) := by decide +kernel
theorem dX5_isRaise_22 : decode cX5_isRaise 22 = .ok (.ior, 1) := by decide +kernel
theorem dX5_isRaise_23 : decode cX5_isRaise 23 = .ok (.aload_n 0, 1) := by decide +kernel
theorem dX5_isRaise_24 : decode cX5_isRaise 24 = .ok (.getfield 25, 3) := by decide +kernel
theorem dX5_isRaise_27 : decode cX5_isRaise 27 = .ok (.iload_n 3, 1) := by decide +kernel
theorem dX5_isRaise_28 : decode cX5_isRaise 28 = .ok (.iconst 5, 1) := by decide +kernel
theorem dX5_isRaise_29 : decode cX5_isRaise 29 = .ok (.iadd, 1) := by decide +kernel
theorem dX5_isRaise_30 : decode cX5_isRaise 30 = .ok (.iaload, 1) := by decide +kernel
theorem dX5_isRaise_31 : decode cX5_isRaise 31 = .ok (.ior, 1) := by decide +kernel
theorem dX5_isRaise_32 : decode cX5_isRaise 32 = .ok (.istore 4, 2) := by decide +kernel
theorem dX5_isRaise_34 : decode cX5_isRaise 34 = .ok (.iload 4, 2) := by decide +kernel
theorem dX5_isRaise_36 : decode cX5_isRaise 36 = .ok (.iload_n 1, 1) := by decide +kernel
theorem dX5_isRaise_37 : decode cX5_isRaise 37 = .ok (.ishr, 1) := by decide +kernel
theorem dX5_isRaise_38 : decode cX5_isRaise 38 = .ok (.iconst 1, 1) := by decide +kernel
theorem dX5_isRaise_39 : decode cX5_isRaise 39 = .ok (.iand, 1) := by decide +kernel
theorem dX5_isRaise_40 : decode cX5_isRaise 40 = .ok (.ifCond .eq 7, 3) := by decide +kernel
theorem dX5_isRaise_43 : decode cX5_isRaise 43 = .ok (.iconst 1, 1) := by decide +kernel
theorem dX5_isRaise_44 : decode cX5_isRaise 44 = .ok (.goto 4, 3) := by decide +kernel
theorem dX5_isRaise_47 : decode cX5_isRaise 47 = .ok (.iconst 0, 1) := by decide +kernel
theorem dX5_isRaise_48 : decode cX5_isRaise 48 = .ok (.ireturn, 1) := by decide +kernel
theorem dX5_hindrances_0 : decode cX5_hindrances 0 = .ok (.aload_n 0, 1) := by decide +kernel
theorem dX5_hindrances_1 : decode cX5_hindrances 1 = .ok (.iload_n 1, 1) := by decide +kernel
theorem dX5_hindrances_2 : decode cX5_hindrances 2 = .ok (.iload_n 2, 1) := by decide +kernel
theorem dX5_hindrances_3 : decode cX5_hindrances 3 = .ok (.iload_n 3, 1) := by decide +kernel
theorem dX5_hindrances_4 : decode cX5_hindrances 4 = .ok (.invokevirtual 82, 3) := by decide +kernel
theorem dX5_hindrances_7 : decode cX5_hindrances 7 = .ok (.istore 4, 2) := by decide +kernel
theorem dX5_hindrances_9 : decode cX5_hindrances 9 = .ok (.aload_n 0, 1) := by decide +kernel
theorem dX5_hindrances_10 : decode cX5_hindrances 10 = .ok (.iload_n 1, 1) := by decide +kernel
theorem dX5_hindrances_11 : decode cX5_hindrances 11 = .ok (.iload_n 2, 1) := by decide +kernel
theorem dX5_hindrances_12 : decode cX5_hindrances 12 = .ok (.invokevirtual 86, 3) := by decide +kernel
theorem dX5_hindrances_15 : decode cX5_hindrances 15 = .ok (.ifCond .eq 8, 3) := by decide +kernel
theorem dX5_hindrances_18 : decode cX5_hindrances 18 = .ok (.iload 4, 2) := by decide +kernel
theorem dX5_hindrances_20 : decode cX5_hindrances 20 = .ok (.goto 13, 3) := by decide +kernel
theorem dX5_hindrances_23 : decode cX5_hindrances 23 = .ok (.iload 4, 2) := by decide +kernel
theorem dX5_hindrances_25 : decode cX5_hindrances 25 = .ok (.aload_n 0, 1) := by decide +kernel
theorem dX5_hindrances_26 : decode cX5_hindrances 26 = .ok (.iload_n 1, 1) := by decide +kernel
theorem dX5_hindrances_27 : decode cX5_hindrances 27 = .ok (.iload_n 2, 1) := by decide +kernel
theorem dX5_hindrances_28 : decode cX5_hindrances 28 = .ok (.iload_n 3, 1) := by decide +kernel
theorem dX5_hindrances_29 : decode cX5_hindrances 29 = .ok (.invokevirtual 90, 3) := by decide +kernel
theorem dX5_hindrances_32 : decode cX5_hindrances 32 = .ok (.ior, 1) := by decide +kernel
theorem dX5_hindrances_33 : decode cX5_hindrances 33 = .ok (.ireturn, 1) := by decide +kernel
theorem dX5_barring_0 : decode cX5_barring 0 = .ok (.iconst 0, 1) := by decide +kernel
theorem dX5_barring_1 : decode cX5_barring 1 = .ok (.istore 4, 2) := by decide +kernel
theorem dX5_barring_3 : decode cX5_barring 3 = .ok (.iload_n 2, 1) := by decide +kernel
theorem dX5_barring_4 : decode cX5_barring 4 = .ok (.istore 5, 2) := by decide +kernel
theorem dX5_barring_6 : decode cX5_barring 6 = .ok (.iload_n 3, 1) := by decide +kernel
theorem dX5_barring_7 : decode cX5_barring 7 = .ok (.istore 6, 2) := by decide +kernel
theorem dX5_barring_9 : decode cX5_barring 9 = .ok (.iconst 0, 1) := by decide +kernel
theorem dX5_barring_10 : decode cX5_barring 10 = .ok (.istore 7, 2) := by decide +kernel
theorem dX5_barring_12 : decode cX5_barring 12 = .ok (.iload 7, 2) := by decide +kernel
theorem dX5_barring_14 : decode cX5_barring 14 = .ok (.bipush 12, 2) := by decide +kernel
theorem dX5_barring_16 : decode cX5_barring 16 = .ok (.if_icmp .ge 82, 3) := by decide +kernel
theorem dX5_barring_19 : decode cX5_barring 19 = .ok (.iload 5, 2) := by decide +kernel
theorem dX5_barring_21 : decode cX5_barring 21 = .ok (.ifCond .lt 77, 3) := by decide +kernel
theorem dX5_barring_24 : decode cX5_barring 24 = .ok (.iload 5, 2) := by decide +kernel
theorem dX5_barring_26 : decode cX5_barring 26 = .ok (.iconst 5, 1) := by decide +kernel
theorem dX5_barring_27 : decode cX5_barring 27 = .ok (.imul, 1) := by decide +kernel
theorem dX5_barring_28 : decode cX5_barring 28 = .ok (.iconst 1, 1) := by decide +kernel
theorem dX5_barring_29 : decode cX5_barring 29 = .ok (.isub, 1) := by decide +kernel
theorem dX5_barring_30 : decode cX5_barring 30 = .ok (.istore 8, 2) := by decide +kernel
theorem dX5_barring_32 : decode cX5_barring 32 = .ok (.iconst 1, 1) := by decide +kernel
theorem dX5_barring_33 : decode cX5_barring 33 = .ok (.istore 9, 2) := by decide +kernel
theorem dX5_barring_35 : decode cX5_barring 35 = .ok (.iload 9, 2) := by decide +kernel
theorem dX5_barring_37 : decode cX5_barring 37 = .ok (.iconst 5, 1) := by decide +kernel
theorem dX5_barring_38 : decode cX5_barring 38 = .ok (.if_icmp .gt 38, 3) := by decide +kernel
theorem dX5_barring_41 : decode cX5_barring 41 = .ok (.getstatic 93, 3) := by decide +kernel
theorem dX5_barring_44 : decode cX5_barring 44 = .ok (.iload 6, 2) := by decide +kernel
theorem dX5_barring_46 : decode cX5_barring 46 = .ok (.iaload, 1) := by decide +kernel
theorem dX5_barring_47 : decode cX5_barring 47 = .ok (.iload 9, 2) := by decide +kernel
theorem dX5_barring_49 : decode cX5_barring 49 = .ok (.ishr, 1) := by decide +kernel
theorem dX5_barring_50 : decode cX5_barring 50 = .ok (.iconst 1, 1) := by decide +kernel
theorem dX5_barring_51 : decode cX5_barring 51 = .ok (.iand, 1) := by decide +kernel
theorem dX5_barring_52 : decode cX5_barring 52 = .ok (.ifCond .eq 18, 3) := by decide +kernel
theorem dX5_barring_55 : decode cX5_barring 55 = .ok (.iload 4, 2) := by decide +kernel
theorem dX5_barring_57 : decode cX5_barring 57 = .ok (.aload_n 0, 1) := by decide +kernel
theorem dX5_barring_58 : decode cX5_barring 58 = .ok (.getfield 25, 3) := by decide +kernel
theorem dX5_barring_61 : decode cX5_barring 61 = .ok (.iload 8, 2) := by decide +kernel
theorem dX5_barring_63 : decode cX5_barring 63 = .ok (.iload 9, 2) := by decide +kernel
theorem dX5_barring_65 : decode cX5_barring 65 = .ok (.iadd, 1) := by decide +kernel
theorem dX5_barring_66 : decode cX5_barring 66 = .ok (.iaload, 1) := by decide +kernel
theorem dX5_barring_67 : decode cX5_barring 67 = .ok (.ior, 1) := by decide +kernel
theorem dX5_barring_68 : decode cX5_barring 68 = .ok (.istore 4, 2) := by decide +kernel
theorem dX5_barring_70 : decode cX5_barring 70 = .ok (.iinc 9 1, 3) := by decide +kernel
theorem dX5_barring_73 : decode cX5_barring 73 = .ok (.goto (-38), 3) := by decide +kernel
theorem dX5_barring_76 : decode cX5_barring 76 = .ok (.aload_n 0, 1) := by decide +kernel
theorem dX5_barring_77 : decode cX5_barring 77 = .ok (.getfield 15, 3) := by decide +kernel
theorem dX5_barring_80 : decode cX5_barring 80 = .ok (.iload 5, 2) := by decide +kernel
theorem dX5_barring_82 : decode cX5_barring 82 = .ok (.iaload, 1) := by decide +kernel
theorem dX5_barring_83 : decode cX5_barring 83 = .ok (.istore 5, 2) := by decide +kernel
theorem dX5_barring_85 : decode cX5_barring 85 = .ok (.getstatic 96, 3) := by decide +kernel
theorem dX5_barring_88 : decode cX5_barring 88 = .ok (.iload_n 3, 1) := by decide +kernel
theorem dX5_barring_89 : decode cX5_barring 89 = .ok (.iaload, 1) := by decide +kernel
theorem dX5_barring_90 : decode cX5_barring 90 = .ok (.istore 6, 2) := by decide +kernel
theorem dX5_barring_92 : decode cX5_barring 92 = .ok (.iinc 7 1, 3) := by decide +kernel
theorem dX5_barring_95 : decode cX5_barring 95 = .ok (.goto (-83), 3) := by decide +kernel
theorem dX5_barring_98 : decode cX5_barring 98 = .ok (.iload 4, 2) := by decide +kernel
theorem dX5_barring_100 : decode cX5_barring 100 = .ok (.iconst 1, 1) := by decide +kernel
theorem dX5_barring_101 : decode cX5_barring 101 = .ok (.iload_n 1, 1) := by decide +kernel
theorem dX5_barring_102 : decode cX5_barring 102 = .ok (.ishl, 1) := by decide +kernel
theorem dX5_barring_103 : decode cX5_barring 103 = .ok (.iconst (-1), 1) := by decide +kernel
theorem dX5_barring_104 : decode cX5_barring 104 = .ok (.ixor, 1) := by decide +kernel
theorem dX5_barring_105 : decode cX5_barring 105 = .ok (.iand, 1) := by decide +kernel
theorem dX5_barring_106 : decode cX5_barring 106 = .ok (.ireturn, 1) := by decide +kernel
theorem dX5_standingAhead_0 : decode cX5_standingAhead 0 = .ok (.iconst 0, 1) := by decide +kernel
theorem dX5_standingAhead_1 : decode cX5_standingAhead 1 = .ok (.istore 4, 2) := by decide +kernel
theorem dX5_standingAhead_3 : decode cX5_standingAhead 3 = .ok (.iconst 0, 1) := by decide +kernel
theorem dX5_standingAhead_4 : decode cX5_standingAhead 4 = .ok (.istore 5, 2) := by decide +kernel
theorem dX5_standingAhead_6 : decode cX5_standingAhead 6 = .ok (.iload 5, 2) := by decide +kernel
theorem dX5_standingAhead_8 : decode cX5_standingAhead 8 = .ok (.aload_n 0, 1) := by decide +kernel
theorem dX5_standingAhead_9 : decode cX5_standingAhead 9 = .ok (.getfield 28, 3) := by decide +kernel
theorem dX5_standingAhead_12 : decode cX5_standingAhead 12 = .ok (.if_icmp .ge 79, 3) := by decide +kernel
theorem dX5_standingAhead_15 : decode cX5_standingAhead 15 = .ok (.aload_n 0, 1) := by decide +kernel
theorem dX5_standingAhead_16 : decode cX5_standingAhead 16 = .ok (.getfield 31, 3) := by decide +kernel
theorem dX5_standingAhead_19 : decode cX5_standingAhead 19 = .ok (.iload 5, 2) := by decide +kernel
theorem dX5_standingAhead_21 : decode cX5_standingAhead 21 = .ok (.iaload, 1) := by decide +kernel
theorem dX5_standingAhead_22 : decode cX5_standingAhead 22 = .ok (.iload_n 1, 1) := by decide +kernel
theorem dX5_standingAhead_23 : decode cX5_standingAhead 23 = .ok (.if_icmp .eq 68, 3) := by decide +kernel
theorem dX5_standingAhead_26 : decode cX5_standingAhead 26 = .ok (.aload_n 0, 1) := by decide +kernel
theorem dX5_standingAhead_27 : decode cX5_standingAhead 27 = .ok (.getfield 31, 3) := by decide +kernel
theorem dX5_standingAhead_30 : decode cX5_standingAhead 30 = .ok (.iload 5, 2) := by decide +kernel
theorem dX5_standingAhead_32 : decode cX5_standingAhead 32 = .ok (.iaload, 1) := by decide +kernel
theorem dX5_standingAhead_33 : decode cX5_standingAhead 33 = .ok (.istore 6, 2) := by decide +kernel
theorem dX5_standingAhead_35 : decode cX5_standingAhead 35 = .ok (.getstatic 93, 3) := by decide +kernel
theorem dX5_standingAhead_38 : decode cX5_standingAhead 38 = .ok (.iload_n 3, 1) := by decide +kernel
theorem dX5_standingAhead_39 : decode cX5_standingAhead 39 = .ok (.iaload, 1) := by decide +kernel
theorem dX5_standingAhead_40 : decode cX5_standingAhead 40 = .ok (.aload_n 0, 1) := by decide +kernel
theorem dX5_standingAhead_41 : decode cX5_standingAhead 41 = .ok (.getfield 37, 3) := by decide +kernel
theorem dX5_standingAhead_44 : decode cX5_standingAhead 44 = .ok (.iload 6, 2) := by decide +kernel
theorem dX5_standingAhead_46 : decode cX5_standingAhead 46 = .ok (.iaload, 1) := by decide +kernel
theorem dX5_standingAhead_47 : decode cX5_standingAhead 47 = .ok (.ishr, 1) := by decide +kernel
theorem dX5_standingAhead_48 : decode cX5_standingAhead 48 = .ok (.iconst 1, 1) := by decide +kernel
theorem dX5_standingAhead_49 : decode cX5_standingAhead 49 = .ok (.iand, 1) := by decide +kernel
theorem dX5_standingAhead_50 : decode cX5_standingAhead 50 = .ok (.ifCond .eq 7, 3) := by decide +kernel
theorem dX5_standingAhead_53 : decode cX5_standingAhead 53 = .ok (.iconst 1, 1) := by decide +kernel
theorem dX5_standingAhead_54 : decode cX5_standingAhead 54 = .ok (.goto 4, 3) := by decide +kernel
theorem dX5_standingAhead_57 : decode cX5_standingAhead 57 = .ok (.iconst 0, 1) := by decide +kernel
theorem dX5_standingAhead_58 : decode cX5_standingAhead 58 = .ok (.istore 7, 2) := by decide +kernel
theorem dX5_standingAhead_60 : decode cX5_standingAhead 60 = .ok (.aload_n 0, 1) := by decide +kernel
theorem dX5_standingAhead_61 : decode cX5_standingAhead 61 = .ok (.getfield 34, 3) := by decide +kernel
theorem dX5_standingAhead_64 : decode cX5_standingAhead 64 = .ok (.iload 6, 2) := by decide +kernel
theorem dX5_standingAhead_66 : decode cX5_standingAhead 66 = .ok (.iaload, 1) := by decide +kernel
theorem dX5_standingAhead_67 : decode cX5_standingAhead 67 = .ok (.iload_n 2, 1) := by decide +kernel
theorem dX5_standingAhead_68 : decode cX5_standingAhead 68 = .ok (.if_icmp .ne 17, 3) := by decide +kernel
theorem dX5_standingAhead_71 : decode cX5_standingAhead 71 = .ok (.iload 7, 2) := by decide +kernel
theorem dX5_standingAhead_73 : decode cX5_standingAhead 73 = .ok (.ifCond .eq 12, 3) := by decide +kernel
theorem dX5_standingAhead_76 : decode cX5_standingAhead 76 = .ok (.iload 4, 2) := by decide +kernel
theorem dX5_standingAhead_78 : decode cX5_standingAhead 78 = .ok (.iconst 1, 1) := by decide +kernel
theorem dX5_standingAhead_79 : decode cX5_standingAhead 79 = .ok (.iload 6, 2) := by decide +kernel
theorem dX5_standingAhead_81 : decode cX5_standingAhead 81 = .ok (.ishl, 1) := by decide +kernel
theorem dX5_standingAhead_82 : decode cX5_standingAhead 82 = .ok (.ior, 1) := by decide +kernel
theorem dX5_standingAhead_83 : decode cX5_standingAhead 83 = .ok (.istore 4, 2) := by decide +kernel
theorem dX5_standingAhead_85 : decode cX5_standingAhead 85 = .ok (.iinc 5 1, 3) := by decide +kernel
theorem dX5_standingAhead_88 : decode cX5_standingAhead 88 = .ok (.goto (-82), 3) := by decide +kernel
theorem dX5_standingAhead_91 : decode cX5_standingAhead 91 = .ok (.iload 4, 2) := by decide +kernel
theorem dX5_standingAhead_93 : decode cX5_standingAhead 93 = .ok (.ireturn, 1) := by decide +kernel
theorem dX5_request_0 : decode cX5_request 0 = .ok (.aload_n 0, 1) := by decide +kernel
theorem dX5_request_1 : decode cX5_request 1 = .ok (.iload_n 1, 1) := by decide +kernel
theorem dX5_request_2 : decode cX5_request 2 = .ok (.iload_n 2, 1) := by decide +kernel
theorem dX5_request_3 : decode cX5_request 3 = .ok (.iload_n 3, 1) := by decide +kernel
theorem dX5_request_4 : decode cX5_request 4 = .ok (.invokevirtual 99, 3) := by decide +kernel
theorem dX5_request_7 : decode cX5_request 7 = .ok (.ifCond .ne 5, 3) := by decide +kernel
theorem dX5_request_10 : decode cX5_request 10 = .ok (.iconst (-1), 1) := by decide +kernel
theorem dX5_request_11 : decode cX5_request 11 = .ok (.ireturn, 1) := by decide +kernel
theorem dX5_request_12 : decode cX5_request 12 = .ok (.aload_n 0, 1) := by decide +kernel
theorem dX5_request_13 : decode cX5_request 13 = .ok (.iload_n 1, 1) := by decide +kernel
theorem dX5_request_14 : decode cX5_request 14 = .ok (.invokevirtual 75, 3) := by decide +kernel
theorem dX5_request_17 : decode cX5_request 17 = .ok (.ifCond .eq 6, 3) := by decide +kernel
theorem dX5_request_20 : decode cX5_request 20 = .ok (.bipush (-5), 2) := by decide +kernel
theorem dX5_request_22 : decode cX5_request 22 = .ok (.ireturn, 1) := by decide +kernel
theorem dX5_request_23 : decode cX5_request 23 = .ok (.aload_n 0, 1) := by decide +kernel
theorem dX5_request_24 : decode cX5_request 24 = .ok (.iload_n 1, 1) := by decide +kernel
theorem dX5_request_25 : decode cX5_request 25 = .ok (.iload_n 2, 1) := by decide +kernel
theorem dX5_request_26 : decode cX5_request 26 = .ok (.iload_n 3, 1) := by decide +kernel
theorem dX5_request_27 : decode cX5_request 27 = .ok (.invokevirtual 103, 3) := by decide +kernel
theorem dX5_request_30 : decode cX5_request 30 = .ok (.ifCond .ne 12, 3) := by decide +kernel
theorem dX5_request_33 : decode cX5_request 33 = .ok (.aload_n 0, 1) := by decide +kernel
theorem dX5_request_34 : decode cX5_request 34 = .ok (.iload_n 1, 1) := by decide +kernel
theorem dX5_request_35 : decode cX5_request 35 = .ok (.iload_n 2, 1) := by decide +kernel
theorem dX5_request_36 : decode cX5_request 36 = .ok (.iload_n 3, 1) := by decide +kernel
theorem dX5_request_37 : decode cX5_request 37 = .ok (.invokevirtual 106, 3) := by decide +kernel
theorem dX5_request_40 : decode cX5_request 40 = .ok (.iconst 1, 1) := by decide +kernel
theorem dX5_request_41 : decode cX5_request 41 = .ok (.ireturn, 1) := by decide +kernel
theorem dX5_request_42 : decode cX5_request 42 = .ok (.aload_n 0, 1) := by decide +kernel
theorem dX5_request_43 : decode cX5_request 43 = .ok (.iload_n 1, 1) := by decide +kernel
theorem dX5_request_44 : decode cX5_request 44 = .ok (.iload_n 2, 1) := by decide +kernel
theorem dX5_request_45 : decode cX5_request 45 = .ok (.invokevirtual 86, 3) := by decide +kernel
theorem dX5_request_48 : decode cX5_request 48 = .ok (.ifCond .eq 14, 3) := by decide +kernel
theorem dX5_request_51 : decode cX5_request 51 = .ok (.aload_n 0, 1) := by decide +kernel
theorem dX5_request_52 : decode cX5_request 52 = .ok (.iload_n 2, 1) := by decide +kernel
theorem dX5_request_53 : decode cX5_request 53 = .ok (.invokevirtual 110, 3) := by decide +kernel
theorem dX5_request_56 : decode cX5_request 56 = .ok (.ifCond .eq 6, 3) := by decide +kernel
theorem dX5_request_59 : decode cX5_request 59 = .ok (.bipush (-2), 2) := by decide +kernel
theorem dX5_request_61 : decode cX5_request 61 = .ok (.ireturn, 1) := by decide +kernel
theorem dX5_request_62 : decode cX5_request 62 = .ok (.aload_n 0, 1) := by decide +kernel
theorem dX5_request_63 : decode cX5_request 63 = .ok (.iload_n 1, 1) := by decide +kernel
theorem dX5_request_64 : decode cX5_request 64 = .ok (.iload_n 2, 1) := by decide +kernel
theorem dX5_request_65 : decode cX5_request 65 = .ok (.iload_n 3, 1) := by decide +kernel
theorem dX5_request_66 : decode cX5_request 66 = .ok (.invokevirtual 113, 3) := by decide +kernel
theorem dX5_request_69 : decode cX5_request 69 = .ok (.iconst 0, 1) := by decide +kernel
theorem dX5_request_70 : decode cX5_request 70 = .ok (.ireturn, 1) := by decide +kernel
theorem dX5_raiseWaits_0 : decode cX5_raiseWaits 0 = .ok (.iconst 0, 1) := by decide +kernel
theorem dX5_raiseWaits_1 : decode cX5_raiseWaits 1 = .ok (.istore_n 2, 1) := by decide +kernel
theorem dX5_raiseWaits_2 : decode cX5_raiseWaits 2 = .ok (.iload_n 2, 1) := by decide +kernel
theorem dX5_raiseWaits_3 : decode cX5_raiseWaits 3 = .ok (.aload_n 0, 1) := by decide +kernel
theorem dX5_raiseWaits_4 : decode cX5_raiseWaits 4 = .ok (.getfield 28, 3) := by decide +kernel
theorem dX5_raiseWaits_7 : decode cX5_raiseWaits 7 = .ok (.if_icmp .ge 40, 3) := by decide +kernel
theorem dX5_raiseWaits_10 : decode cX5_raiseWaits 10 = .ok (.aload_n 0, 1) := by decide +kernel
theorem dX5_raiseWaits_11 : decode cX5_raiseWaits 11 = .ok (.getfield 34, 3) := by decide +kernel
theorem dX5_raiseWaits_14 : decode cX5_raiseWaits 14 = .ok (.aload_n 0, 1) := by decide +kernel
theorem dX5_raiseWaits_15 : decode cX5_raiseWaits 15 = .ok (.getfield 31, 3) := by decide +kernel
theorem dX5_raiseWaits_18 : decode cX5_raiseWaits 18 = .ok (.iload_n 2, 1) := by decide +kernel
theorem dX5_raiseWaits_19 : decode cX5_raiseWaits 19 = .ok (.iaload, 1) := by decide +kernel
theorem dX5_raiseWaits_20 : decode cX5_raiseWaits 20 = .ok (.iaload, 1) := by decide +kernel
theorem dX5_raiseWaits_21 : decode cX5_raiseWaits 21 = .ok (.iload_n 1, 1) := by decide +kernel
theorem dX5_raiseWaits_22 : decode cX5_raiseWaits 22 = .ok (.if_icmp .ne 19, 3) := by decide +kernel
theorem dX5_raiseWaits_25 : decode cX5_raiseWaits 25 = .ok (.aload_n 0, 1) := by decide +kernel
theorem dX5_raiseWaits_26 : decode cX5_raiseWaits 26 = .ok (.aload_n 0, 1) := by decide +kernel
theorem dX5_raiseWaits_27 : decode cX5_raiseWaits 27 = .ok (.getfield 31, 3) := by decide +kernel
theorem dX5_raiseWaits_30 : decode cX5_raiseWaits 30 = .ok (.iload_n 2, 1) := by decide +kernel
theorem dX5_raiseWaits_31 : decode cX5_raiseWaits 31 = .ok (.iaload, 1) := by decide +kernel
theorem dX5_raiseWaits_32 : decode cX5_raiseWaits 32 = .ok (.iload_n 1, 1) := by decide +kernel
theorem dX5_raiseWaits_33 : decode cX5_raiseWaits 33 = .ok (.invokevirtual 86, 3) := by decide +kernel
theorem dX5_raiseWaits_36 : decode cX5_raiseWaits 36 = .ok (.ifCond .eq 5, 3) := by decide +kernel
theorem dX5_raiseWaits_39 : decode cX5_raiseWaits 39 = .ok (.iconst 1, 1) := by decide +kernel
theorem dX5_raiseWaits_40 : decode cX5_raiseWaits 40 = .ok (.ireturn, 1) := by decide +kernel
theorem dX5_raiseWaits_41 : decode cX5_raiseWaits 41 = .ok (.iinc 2 1, 3) := by decide +kernel
theorem dX5_raiseWaits_44 : decode cX5_raiseWaits 44 = .ok (.goto (-42), 3) := by decide +kernel
theorem dX5_raiseWaits_47 : decode cX5_raiseWaits 47 = .ok (.iconst 0, 1) := by decide +kernel
theorem dX5_raiseWaits_48 : decode cX5_raiseWaits 48 = .ok (.ireturn, 1) := by decide +kernel
theorem dX5_giveUp_0 : decode cX5_giveUp 0 = .ok (.aload_n 0, 1) := by decide +kernel
theorem dX5_giveUp_1 : decode cX5_giveUp 1 = .ok (.iload_n 1, 1) := by decide +kernel
theorem dX5_giveUp_2 : decode cX5_giveUp 2 = .ok (.iload_n 2, 1) := by decide +kernel
theorem dX5_giveUp_3 : decode cX5_giveUp 3 = .ok (.iload_n 3, 1) := by decide +kernel
theorem dX5_giveUp_4 : decode cX5_giveUp 4 = .ok (.invokevirtual 99, 3) := by decide +kernel
theorem dX5_giveUp_7 : decode cX5_giveUp 7 = .ok (.ifCond .ne 5, 3) := by decide +kernel
theorem dX5_giveUp_10 : decode cX5_giveUp 10 = .ok (.iconst (-1), 1) := by decide +kernel
theorem dX5_giveUp_11 : decode cX5_giveUp 11 = .ok (.ireturn, 1) := by decide +kernel
theorem dX5_giveUp_12 : decode cX5_giveUp 12 = .ok (.aload_n 0, 1) := by decide +kernel
theorem dX5_giveUp_13 : decode cX5_giveUp 13 = .ok (.getfield 22, 3) := by decide +kernel
theorem dX5_giveUp_16 : decode cX5_giveUp 16 = .ok (.iload_n 1, 1) := by decide +kernel
theorem dX5_giveUp_17 : decode cX5_giveUp 17 = .ok (.iload_n 2, 1) := by decide +kernel
theorem dX5_giveUp_18 : decode cX5_giveUp 18 = .ok (.iload_n 3, 1) := by decide +kernel
theorem dX5_giveUp_19 : decode cX5_giveUp 19 = .ok (.invokestatic 116, 3) := by decide +kernel
theorem dX5_giveUp_22 : decode cX5_giveUp 22 = .ok (.iaload, 1) := by decide +kernel
theorem dX5_giveUp_23 : decode cX5_giveUp 23 = .ok (.ifCond .ne 6, 3) := by decide +kernel
theorem dX5_giveUp_26 : decode cX5_giveUp 26 = .ok (.bipush (-5), 2) := by decide +kernel
theorem dX5_giveUp_28 : decode cX5_giveUp 28 = .ok (.ireturn, 1) := by decide +kernel
theorem dX5_giveUp_29 : decode cX5_giveUp 29 = .ok (.aload_n 0, 1) := by decide +kernel
theorem dX5_giveUp_30 : decode cX5_giveUp 30 = .ok (.iload_n 1, 1) := by decide +kernel
theorem dX5_giveUp_31 : decode cX5_giveUp 31 = .ok (.iload_n 2, 1) := by decide +kernel
theorem dX5_giveUp_32 : decode cX5_giveUp 32 = .ok (.iload_n 3, 1) := by decide +kernel
theorem dX5_giveUp_33 : decode cX5_giveUp 33 = .ok (.iconst (-1), 1) := by decide +kernel
theorem dX5_giveUp_34 : decode cX5_giveUp 34 = .ok (.invokevirtual 119, 3) := by decide +kernel
theorem dX5_giveUp_37 : decode cX5_giveUp 37 = .ok (.aload_n 0, 1) := by decide +kernel
theorem dX5_giveUp_38 : decode cX5_giveUp 38 = .ok (.invokevirtual 123, 3) := by decide +kernel
theorem dX5_giveUp_41 : decode cX5_giveUp 41 = .ok (.ireturn, 1) := by decide +kernel
theorem dX5_giveUpAll_0 : decode cX5_giveUpAll 0 = .ok (.aload_n 0, 1) := by decide +kernel
theorem dX5_giveUpAll_1 : decode cX5_giveUpAll 1 = .ok (.iload_n 1, 1) := by decide +kernel
theorem dX5_giveUpAll_2 : decode cX5_giveUpAll 2 = .ok (.invokevirtual 127, 3) := by decide +kernel
theorem dX5_giveUpAll_5 : decode cX5_giveUpAll 5 = .ok (.iconst 0, 1) := by decide +kernel
theorem dX5_giveUpAll_6 : decode cX5_giveUpAll 6 = .ok (.istore_n 2, 1) := by decide +kernel
theorem dX5_giveUpAll_7 : decode cX5_giveUpAll 7 = .ok (.iload_n 2, 1) := by decide +kernel
theorem dX5_giveUpAll_8 : decode cX5_giveUpAll 8 = .ok (.aload_n 0, 1) := by decide +kernel
theorem dX5_giveUpAll_9 : decode cX5_giveUpAll 9 = .ok (.getfield 9, 3) := by decide +kernel
theorem dX5_giveUpAll_12 : decode cX5_giveUpAll 12 = .ok (.if_icmp .ge 52, 3) := by decide +kernel
theorem dX5_giveUpAll_15 : decode cX5_giveUpAll 15 = .ok (.iconst 1, 1) := by decide +kernel
theorem dX5_giveUpAll_16 : decode cX5_giveUpAll 16 = .ok (.istore_n 3, 1) := by decide +kernel
theorem dX5_giveUpAll_17 : decode cX5_giveUpAll 17 = .ok (.iload_n 3, 1) := by decide +kernel
theorem dX5_giveUpAll_18 : decode cX5_giveUpAll 18 = .ok (.iconst 5, 1) := by decide +kernel
theorem dX5_giveUpAll_19 : decode cX5_giveUpAll 19 = .ok (.if_icmp .gt 39, 3) := by decide +kernel
theorem dX5_giveUpAll_22 : decode cX5_giveUpAll 22 = .ok (.aload_n 0, 1) := by decide +kernel
theorem dX5_giveUpAll_23 : decode cX5_giveUpAll 23 = .ok (.getfield 22, 3) := by decide +kernel
theorem dX5_giveUpAll_26 : decode cX5_giveUpAll 26 = .ok (.iload_n 1, 1) := by decide +kernel
theorem dX5_giveUpAll_27 : decode cX5_giveUpAll 27 = .ok (.iload_n 2, 1) := by decide +kernel
theorem dX5_giveUpAll_28 : decode cX5_giveUpAll 28 = .ok (.iload_n 3, 1) := by decide +kernel
theorem dX5_giveUpAll_29 : decode cX5_giveUpAll 29 = .ok (.invokestatic 116, 3) := by decide +kernel
theorem dX5_giveUpAll_32 : decode cX5_giveUpAll 32 = .ok (.iconst 0, 1) := by decide +kernel
theorem dX5_giveUpAll_33 : decode cX5_giveUpAll 33 = .ok (.iastore, 1) := by decide +kernel
theorem dX5_giveUpAll_34 : decode cX5_giveUpAll 34 = .ok (.aload_n 0, 1) := by decide +kernel
theorem dX5_giveUpAll_35 : decode cX5_giveUpAll 35 = .ok (.getfield 25, 3) := by decide +kernel
theorem dX5_giveUpAll_38 : decode cX5_giveUpAll 38 = .ok (.iload_n 2, 1) := by decide +kernel
theorem dX5_giveUpAll_39 : decode cX5_giveUpAll 39 = .ok (.iload_n 3, 1) := by decide +kernel
theorem dX5_giveUpAll_40 : decode cX5_giveUpAll 40 = .ok (.invokestatic 78, 3) := by decide +kernel
theorem dX5_giveUpAll_43 : decode cX5_giveUpAll 43 = .ok (.dup2, 1) := by decide +kernel
theorem dX5_giveUpAll_44 : decode cX5_giveUpAll 44 = .ok (.iaload, 1) := by decide +kernel
theorem dX5_giveUpAll_45 : decode cX5_giveUpAll 45 = .ok (.iconst 1, 1) := by decide +kernel
theorem dX5_giveUpAll_46 : decode cX5_giveUpAll 46 = .ok (.iload_n 1, 1) := by decide +kernel
theorem dX5_giveUpAll_47 : decode cX5_giveUpAll 47 = .ok (.ishl, 1) := by decide +kernel
theorem dX5_giveUpAll_48 : decode cX5_giveUpAll 48 = .ok (.iconst (-1), 1) := by decide +kernel
theorem dX5_giveUpAll_49 : decode cX5_giveUpAll 49 = .ok (.ixor, 1) := by decide +kernel
theorem dX5_giveUpAll_50 : decode cX5_giveUpAll 50 = .ok (.iand, 1) := by decide +kernel
theorem dX5_giveUpAll_51 : decode cX5_giveUpAll 51 = .ok (.iastore, 1) := by decide +kernel
theorem dX5_giveUpAll_52 : decode cX5_giveUpAll 52 = .ok (.iinc 3 1, 3) := by decide +kernel
theorem dX5_giveUpAll_55 : decode cX5_giveUpAll 55 = .ok (.goto (-38), 3) := by decide +kernel
theorem dX5_giveUpAll_58 : decode cX5_giveUpAll 58 = .ok (.iinc 2 1, 3) := by decide +kernel
theorem dX5_giveUpAll_61 : decode cX5_giveUpAll 61 = .ok (.goto (-54), 3) := by decide +kernel
theorem dX5_giveUpAll_64 : decode cX5_giveUpAll 64 = .ok (.aload_n 0, 1) := by decide +kernel
theorem dX5_giveUpAll_65 : decode cX5_giveUpAll 65 = .ok (.invokevirtual 123, 3) := by decide +kernel
theorem dX5_giveUpAll_68 : decode cX5_giveUpAll 68 = .ok (.ireturn, 1) := by decide +kernel
theorem dX5_grant_0 : decode cX5_grant 0 = .ok (.aload_n 0, 1) := by decide +kernel
theorem dX5_grant_1 : decode cX5_grant 1 = .ok (.iload_n 1, 1) := by decide +kernel
theorem dX5_grant_2 : decode cX5_grant 2 = .ok (.iload_n 2, 1) := by decide +kernel
theorem dX5_grant_3 : decode cX5_grant 3 = .ok (.iload_n 3, 1) := by decide +kernel
theorem dX5_grant_4 : decode cX5_grant 4 = .ok (.iconst 1, 1) := by decide +kernel
theorem dX5_grant_5 : decode cX5_grant 5 = .ok (.invokevirtual 119, 3) := by decide +kernel
theorem dX5_grant_8 : decode cX5_grant 8 = .ok (.aload_n 0, 1) := by decide +kernel
theorem dX5_grant_9 : decode cX5_grant 9 = .ok (.dup, 1) := by decide +kernel
theorem dX5_grant_10 : decode cX5_grant 10 = .ok (.getfield 52, 3) := by decide +kernel
theorem dX5_grant_13 : decode cX5_grant 13 = .ok (.iconst 1, 1) := by decide +kernel
theorem dX5_grant_14 : decode cX5_grant 14 = .ok (.iadd, 1) := by decide +kernel
theorem dX5_grant_15 : decode cX5_grant 15 = .ok (.putfield 52, 3) := by decide +kernel
theorem dX5_grant_18 : decode cX5_grant 18 = .ok (.return_, 1) := by decide +kernel
theorem dX5_shiftCounts_0 : decode cX5_shiftCounts 0 = .ok (.iload_n 2, 1) := by decide +kernel
theorem dX5_shiftCounts_1 : decode cX5_shiftCounts 1 = .ok (.istore 5, 2) := by decide +kernel
theorem dX5_shiftCounts_3 : decode cX5_shiftCounts 3 = .ok (.iload_n 3, 1) := by decide +kernel
theorem dX5_shiftCounts_4 : decode cX5_shiftCounts 4 = .ok (.istore 6, 2) := by decide +kernel
theorem dX5_shiftCounts_6 : decode cX5_shiftCounts 6 = .ok (.iconst 0, 1) := by decide +kernel
theorem dX5_shiftCounts_7 : decode cX5_shiftCounts 7 = .ok (.istore 7, 2) := by decide +kernel
theorem dX5_shiftCounts_9 : decode cX5_shiftCounts 9 = .ok (.iload 7, 2) := by decide +kernel
theorem dX5_shiftCounts_11 : decode cX5_shiftCounts 11 = .ok (.bipush 12, 2) := by decide +kernel
theorem dX5_shiftCounts_13 : decode cX5_shiftCounts 13 = .ok (.if_icmp .ge 105, 3) := by decide +kernel
theorem dX5_shiftCounts_16 : decode cX5_shiftCounts 16 = .ok (.iload 5, 2) := by decide +kernel
theorem dX5_shiftCounts_18 : decode cX5_shiftCounts 18 = .ok (.ifCond .lt 100, 3) := by decide +kernel
theorem dX5_shiftCounts_21 : decode cX5_shiftCounts 21 = .ok (.iload_n 1, 1) := by decide +kernel
theorem dX5_shiftCounts_22 : decode cX5_shiftCounts 22 = .ok (.iload 5, 2) := by decide +kernel
theorem dX5_shiftCounts_24 : decode cX5_shiftCounts 24 = .ok (.iload 6, 2) := by decide +kernel
theorem dX5_shiftCounts_26 : decode cX5_shiftCounts 26 = .ok (.invokestatic 116, 3) := by decide +kernel
theorem dX5_shiftCounts_29 : decode cX5_shiftCounts 29 = .ok (.istore 8, 2) := by decide +kernel
theorem dX5_shiftCounts_31 : decode cX5_shiftCounts 31 = .ok (.iload 5, 2) := by decide +kernel
theorem dX5_shiftCounts_33 : decode cX5_shiftCounts 33 = .ok (.iload 6, 2) := by decide +kernel
theorem dX5_shiftCounts_35 : decode cX5_shiftCounts 35 = .ok (.invokestatic 78, 3) := by decide +kernel
theorem dX5_shiftCounts_38 : decode cX5_shiftCounts 38 = .ok (.istore 9, 2) := by decide +kernel
theorem dX5_shiftCounts_40 : decode cX5_shiftCounts 40 = .ok (.aload_n 0, 1) := by decide +kernel
theorem dX5_shiftCounts_41 : decode cX5_shiftCounts 41 = .ok (.getfield 22, 3) := by decide +kernel
theorem dX5_shiftCounts_44 : decode cX5_shiftCounts 44 = .ok (.iload 8, 2) := by decide +kernel
theorem dX5_shiftCounts_46 : decode cX5_shiftCounts 46 = .ok (.dup2, 1) := by decide +kernel
theorem dX5_shiftCounts_47 : decode cX5_shiftCounts 47 = .ok (.iaload, 1) := by decide +kernel
theorem dX5_shiftCounts_48 : decode cX5_shiftCounts 48 = .ok (.iload 4, 2) := by decide +kernel
theorem dX5_shiftCounts_50 : decode cX5_shiftCounts 50 = .ok (.iadd, 1) := by decide +kernel
theorem dX5_shiftCounts_51 : decode cX5_shiftCounts 51 = .ok (.iastore, 1) := by decide +kernel
theorem dX5_shiftCounts_52 : decode cX5_shiftCounts 52 = .ok (.aload_n 0, 1) := by decide +kernel
theorem dX5_shiftCounts_53 : decode cX5_shiftCounts 53 = .ok (.getfield 25, 3) := by decide +kernel
theorem dX5_shiftCounts_56 : decode cX5_shiftCounts 56 = .ok (.iload 9, 2) := by decide +kernel
theorem dX5_shiftCounts_58 : decode cX5_shiftCounts 58 = .ok (.aload_n 0, 1) := by decide +kernel
theorem dX5_shiftCounts_59 : decode cX5_shiftCounts 59 = .ok (.getfield 22, 3) := by decide +kernel
theorem dX5_shiftCounts_62 : decode cX5_shiftCounts 62 = .ok (.iload 8, 2) := by decide +kernel
theorem dX5_shiftCounts_64 : decode cX5_shiftCounts 64 = .ok (.iaload, 1) := by decide +kernel
theorem dX5_shiftCounts_65 : decode cX5_shiftCounts 65 = .ok (.ifCond .eq 17, 3) := by decide +kernel
theorem dX5_shiftCounts_68 : decode cX5_shiftCounts 68 = .ok (.aload_n 0, 1) := by decide +kernel
theorem dX5_shiftCounts_69 : decode cX5_shiftCounts 69 = .ok (.getfield 25, 3) := by decide +kernel
theorem dX5_shiftCounts_72 : decode cX5_shiftCounts 72 = .ok (.iload 9, 2) := by decide +kernel
theorem dX5_shiftCounts_74 : decode cX5_shiftCounts 74 = .ok (.iaload, 1) := by decide +kernel
theorem dX5_shiftCounts_75 : decode cX5_shiftCounts 75 = .ok (.iconst 1, 1) := by decide +kernel
theorem dX5_shiftCounts_76 : decode cX5_shiftCounts 76 = .ok (.iload_n 1, 1) := by decide +kernel
theorem dX5_shiftCounts_77 : decode cX5_shiftCounts 77 = .ok (.ishl, 1) := by decide +kernel
theorem dX5_shiftCounts_78 : decode cX5_shiftCounts 78 = .ok (.ior, 1) := by decide +kernel
theorem dX5_shiftCounts_79 : decode cX5_shiftCounts 79 = .ok (.goto 16, 3) := by decide +kernel
theorem dX5_shiftCounts_82 : decode cX5_shiftCounts 82 = .ok (.aload_n 0, 1) := by decide +kernel
theorem dX5_shiftCounts_83 : decode cX5_shiftCounts 83 = .ok (.getfield 25, 3) := by decide +kernel
theorem dX5_shiftCounts_86 : decode cX5_shiftCounts 86 = .ok (.iload 9, 2) := by decide +kernel
theorem dX5_shiftCounts_88 : decode cX5_shiftCounts 88 = .ok (.iaload, 1) := by decide +kernel
theorem dX5_shiftCounts_89 : decode cX5_shiftCounts 89 = .ok (.iconst 1, 1) := by decide +kernel
theorem dX5_shiftCounts_90 : decode cX5_shiftCounts 90 = .ok (.iload_n 1, 1) := by decide +kernel
theorem dX5_shiftCounts_91 : decode cX5_shiftCounts 91 = .ok (.ishl, 1) := by decide +kernel
theorem dX5_shiftCounts_92 : decode cX5_shiftCounts 92 = .ok (.iconst (-1), 1) := by decide +kernel
theorem dX5_shiftCounts_93 : decode cX5_shiftCounts 93 = .ok (.ixor, 1) := by decide +kernel
theorem dX5_shiftCounts_94 : decode cX5_shiftCounts 94 = .ok (.iand, 1) := by decide +kernel
theorem dX5_shiftCounts_95 : decode cX5_shiftCounts 95 = .ok (.iastore, 1) := by decide +kernel
theorem dX5_shiftCounts_96 : decode cX5_shiftCounts 96 = .ok (.aload_n 0, 1) := by decide +kernel
theorem dX5_shiftCounts_97 : decode cX5_shiftCounts 97 = .ok (.getfield 15, 3) := by decide +kernel
theorem dX5_shiftCounts_100 : decode cX5_shiftCounts 100 = .ok (.iload 5, 2) := by decide +kernel
theorem dX5_shiftCounts_102 : decode cX5_shiftCounts 102 = .ok (.iaload, 1) := by decide +kernel
theorem dX5_shiftCounts_103 : decode cX5_shiftCounts 103 = .ok (.istore 5, 2) := by decide +kernel
theorem dX5_shiftCounts_105 : decode cX5_shiftCounts 105 = .ok (.getstatic 96, 3) := by decide +kernel
theorem dX5_shiftCounts_108 : decode cX5_shiftCounts 108 = .ok (.iload_n 3, 1) := by decide +kernel
theorem dX5_shiftCounts_109 : decode cX5_shiftCounts 109 = .ok (.iaload, 1) := by decide +kernel
theorem dX5_shiftCounts_110 : decode cX5_shiftCounts 110 = .ok (.istore 6, 2) := by decide +kernel
theorem dX5_shiftCounts_112 : decode cX5_shiftCounts 112 = .ok (.iinc 7 1, 3) := by decide +kernel
theorem dX5_shiftCounts_115 : decode cX5_shiftCounts 115 = .ok (.goto (-106), 3) := by decide +kernel
theorem dX5_shiftCounts_118 : decode cX5_shiftCounts 118 = .ok (.return_, 1) := by decide +kernel
theorem dX5_joinLine_0 : decode cX5_joinLine 0 = .ok (.aload_n 0, 1) := by decide +kernel
theorem dX5_joinLine_1 : decode cX5_joinLine 1 = .ok (.getfield 28, 3) := by decide +kernel
theorem dX5_joinLine_4 : decode cX5_joinLine 4 = .ok (.bipush 6, 2) := by decide +kernel
theorem dX5_joinLine_6 : decode cX5_joinLine 6 = .ok (.if_icmp .lt 4, 3) := by decide +kernel
theorem dX5_joinLine_9 : decode cX5_joinLine 9 = .ok (.return_, 1) := by decide +kernel
theorem dX5_joinLine_10 : decode cX5_joinLine 10 = .ok (.aload_n 0, 1) := by decide +kernel
theorem dX5_joinLine_11 : decode cX5_joinLine 11 = .ok (.getfield 31, 3) := by decide +kernel
theorem dX5_joinLine_14 : decode cX5_joinLine 14 = .ok (.aload_n 0, 1) := by decide +kernel
theorem dX5_joinLine_15 : decode cX5_joinLine 15 = .ok (.getfield 28, 3) := by decide +kernel
theorem dX5_joinLine_18 : decode cX5_joinLine 18 = .ok (.iload_n 1, 1) := by decide +kernel
theorem dX5_joinLine_19 : decode cX5_joinLine 19 = .ok (.iastore, 1) := by decide +kernel
theorem dX5_joinLine_20 : decode cX5_joinLine 20 = .ok (.aload_n 0, 1) := by decide +kernel
theorem dX5_joinLine_21 : decode cX5_joinLine 21 = .ok (.getfield 34, 3) := by decide +kernel
theorem dX5_joinLine_24 : decode cX5_joinLine 24 = .ok (.iload_n 1, 1) := by decide +kernel
theorem dX5_joinLine_25 : decode cX5_joinLine 25 = .ok (.iload_n 2, 1) := by decide +kernel
theorem dX5_joinLine_26 : decode cX5_joinLine 26 = .ok (.iastore, 1) := by decide +kernel
theorem dX5_joinLine_27 : decode cX5_joinLine 27 = .ok (.aload_n 0, 1) := by decide +kernel
theorem dX5_joinLine_28 : decode cX5_joinLine 28 = .ok (.getfield 37, 3) := by decide +kernel
theorem dX5_joinLine_31 : decode cX5_joinLine 31 = .ok (.iload_n 1, 1) := by decide +kernel
theorem dX5_joinLine_32 : decode cX5_joinLine 32 = .ok (.iload_n 3, 1) := by decide +kernel
theorem dX5_joinLine_33 : decode cX5_joinLine 33 = .ok (.iastore, 1) := by decide +kernel
theorem dX5_joinLine_34 : decode cX5_joinLine 34 = .ok (.aload_n 0, 1) := by decide +kernel
theorem dX5_joinLine_35 : decode cX5_joinLine 35 = .ok (.dup, 1) := by decide +kernel
theorem dX5_joinLine_36 : decode cX5_joinLine 36 = .ok (.getfield 28, 3) := by decide +kernel
theorem dX5_joinLine_39 : decode cX5_joinLine 39 = .ok (.iconst 1, 1) := by decide +kernel
theorem dX5_joinLine_40 : decode cX5_joinLine 40 = .ok (.iadd, 1) := by decide +kernel
theorem dX5_joinLine_41 : decode cX5_joinLine 41 = .ok (.putfield 28, 3) := by decide +kernel
theorem dX5_joinLine_44 : decode cX5_joinLine 44 = .ok (.return_, 1) := by decide +kernel
theorem dX5_quitLine_0 : decode cX5_quitLine 0 = .ok (.iconst 0, 1) := by decide +kernel
theorem dX5_quitLine_1 : decode cX5_quitLine 1 = .ok (.istore_n 2, 1) := by decide +kernel
theorem dX5_quitLine_2 : decode cX5_quitLine 2 = .ok (.iconst 0, 1) := by decide +kernel
theorem dX5_quitLine_3 : decode cX5_quitLine 3 = .ok (.istore_n 3, 1) := by decide +kernel
theorem dX5_quitLine_4 : decode cX5_quitLine 4 = .ok (.iload_n 3, 1) := by decide +kernel
theorem dX5_quitLine_5 : decode cX5_quitLine 5 = .ok (.aload_n 0, 1) := by decide +kernel
theorem dX5_quitLine_6 : decode cX5_quitLine 6 = .ok (.getfield 28, 3) := by decide +kernel
theorem dX5_quitLine_9 : decode cX5_quitLine 9 = .ok (.if_icmp .ge 34, 3) := by decide +kernel
theorem dX5_quitLine_12 : decode cX5_quitLine 12 = .ok (.aload_n 0, 1) := by decide +kernel
theorem dX5_quitLine_13 : decode cX5_quitLine 13 = .ok (.getfield 31, 3) := by decide +kernel
theorem dX5_quitLine_16 : decode cX5_quitLine 16 = .ok (.iload_n 3, 1) := by decide +kernel
theorem dX5_quitLine_17 : decode cX5_quitLine 17 = .ok (.iaload, 1) := by decide +kernel
theorem dX5_quitLine_18 : decode cX5_quitLine 18 = .ok (.iload_n 1, 1) := by decide +kernel
theorem dX5_quitLine_19 : decode cX5_quitLine 19 = .ok (.if_icmp .eq 18, 3) := by decide +kernel
theorem dX5_quitLine_22 : decode cX5_quitLine 22 = .ok (.aload_n 0, 1) := by decide +kernel
theorem dX5_quitLine_23 : decode cX5_quitLine 23 = .ok (.getfield 31, 3) := by decide +kernel
theorem dX5_quitLine_26 : decode cX5_quitLine 26 = .ok (.iload_n 2, 1) := by decide +kernel
theorem dX5_quitLine_27 : decode cX5_quitLine 27 = .ok (.aload_n 0, 1) := by decide +kernel
theorem dX5_quitLine_28 : decode cX5_quitLine 28 = .ok (.getfield 31, 3) := by decide +kernel
theorem dX5_quitLine_31 : decode cX5_quitLine 31 = .ok (.iload_n 3, 1) := by decide +kernel
theorem dX5_quitLine_32 : decode cX5_quitLine 32 = .ok (.iaload, 1) := by decide +kernel
theorem dX5_quitLine_33 : decode cX5_quitLine 33 = .ok (.iastore, 1) := by decide +kernel
theorem dX5_quitLine_34 : decode cX5_quitLine 34 = .ok (.iinc 2 1, 3) := by decide +kernel
theorem dX5_quitLine_37 : decode cX5_quitLine 37 = .ok (.iinc 3 1, 3) := by decide +kernel
theorem dX5_quitLine_40 : decode cX5_quitLine 40 = .ok (.goto (-36), 3) := by decide +kernel
theorem dX5_quitLine_43 : decode cX5_quitLine 43 = .ok (.aload_n 0, 1) := by decide +kernel
theorem dX5_quitLine_44 : decode cX5_quitLine 44 = .ok (.iload_n 2, 1) := by decide +kernel
theorem dX5_quitLine_45 : decode cX5_quitLine 45 = .ok (.putfield 28, 3) := by decide +kernel
theorem dX5_quitLine_48 : decode cX5_quitLine 48 = .ok (.aload_n 0, 1) := by decide +kernel
theorem dX5_quitLine_49 : decode cX5_quitLine 49 = .ok (.getfield 37, 3) := by decide +kernel
theorem dX5_quitLine_52 : decode cX5_quitLine 52 = .ok (.iload_n 1, 1) := by decide +kernel
theorem dX5_quitLine_53 : decode cX5_quitLine 53 = .ok (.iconst 0, 1) := by decide +kernel
theorem dX5_quitLine_54 : decode cX5_quitLine 54 = .ok (.iastore, 1) := by decide +kernel
theorem dX5_quitLine_55 : decode cX5_quitLine 55 = .ok (.return_, 1) := by decide +kernel
theorem dX5_serve_0 : decode cX5_serve 0 = .ok (.iconst 0, 1) := by decide +kernel
theorem dX5_serve_1 : decode cX5_serve 1 = .ok (.istore_n 1, 1) := by decide +kernel
theorem dX5_serve_2 : decode cX5_serve 2 = .ok (.iconst 0, 1) := by decide +kernel
theorem dX5_serve_3 : decode cX5_serve 3 = .ok (.istore_n 2, 1) := by decide +kernel
theorem dX5_serve_4 : decode cX5_serve 4 = .ok (.iload_n 2, 1) := by decide +kernel
theorem dX5_serve_5 : decode cX5_serve 5 = .ok (.bipush 6, 2) := by decide +kernel
theorem dX5_serve_7 : decode cX5_serve 7 = .ok (.if_icmp .ge 46, 3) := by decide +kernel
theorem dX5_serve_10 : decode cX5_serve 10 = .ok (.aload_n 0, 1) := by decide +kernel
theorem dX5_serve_11 : decode cX5_serve 11 = .ok (.invokevirtual 131, 3) := by decide +kernel
theorem dX5_serve_14 : decode cX5_serve 14 = .ok (.istore_n 3, 1) := by decide +kernel
theorem dX5_serve_15 : decode cX5_serve 15 = .ok (.iload_n 3, 1) := by decide +kernel
theorem dX5_serve_16 : decode cX5_serve 16 = .ok (.ifCond .ge 6, 3) := by decide +kernel
theorem dX5_serve_19 : decode cX5_serve 19 = .ok (.goto 34, 3) := by decide +kernel
theorem dX5_serve_22 : decode cX5_serve 22 = .ok (.aload_n 0, 1) := by decide +kernel
theorem dX5_serve_23 : decode cX5_serve 23 = .ok (.iload_n 3, 1) := by decide +kernel
theorem dX5_serve_24 : decode cX5_serve 24 = .ok (.aload_n 0, 1) := by decide +kernel
theorem dX5_serve_25 : decode cX5_serve 25 = .ok (.getfield 34, 3) := by decide +kernel
theorem dX5_serve_28 : decode cX5_serve 28 = .ok (.iload_n 3, 1) := by decide +kernel
theorem dX5_serve_29 : decode cX5_serve 29 = .ok (.iaload, 1) := by decide +kernel
theorem dX5_serve_30 : decode cX5_serve 30 = .ok (.aload_n 0, 1) := by decide +kernel
theorem dX5_serve_31 : decode cX5_serve 31 = .ok (.getfield 37, 3) := by decide +kernel
theorem dX5_serve_34 : decode cX5_serve 34 = .ok (.iload_n 3, 1) := by decide +kernel
theorem dX5_serve_35 : decode cX5_serve 35 = .ok (.iaload, 1) := by decide +kernel
theorem dX5_serve_36 : decode cX5_serve 36 = .ok (.invokevirtual 106, 3) := by decide +kernel
theorem dX5_serve_39 : decode cX5_serve 39 = .ok (.aload_n 0, 1) := by decide +kernel
theorem dX5_serve_40 : decode cX5_serve 40 = .ok (.iload_n 3, 1) := by decide +kernel
theorem dX5_serve_41 : decode cX5_serve 41 = .ok (.invokevirtual 127, 3) := by decide +kernel
theorem dX5_serve_44 : decode cX5_serve 44 = .ok (.iinc 1 1, 3) := by decide +kernel
theorem dX5_serve_47 : decode cX5_serve 47 = .ok (.iinc 2 1, 3) := by decide +kernel
theorem dX5_serve_50 : decode cX5_serve 50 = .ok (.goto (-46), 3) := by decide +kernel
theorem dX5_serve_53 : decode cX5_serve 53 = .ok (.iload_n 1, 1) := by decide +kernel
theorem dX5_serve_54 : decode cX5_serve 54 = .ok (.ireturn, 1) := by decide +kernel
theorem dX5_nextToServe_0 : decode cX5_nextToServe 0 = .ok (.iconst (-1), 1) := by decide +kernel
theorem dX5_nextToServe_1 : decode cX5_nextToServe 1 = .ok (.istore_n 1, 1) := by decide +kernel
theorem dX5_nextToServe_2 : decode cX5_nextToServe 2 = .ok (.iconst 0, 1) := by decide +kernel
theorem dX5_nextToServe_3 : decode cX5_nextToServe 3 = .ok (.istore_n 2, 1) := by decide +kernel
theorem dX5_nextToServe_4 : decode cX5_nextToServe 4 = .ok (.iload_n 2, 1) := by decide +kernel
theorem dX5_nextToServe_5 : decode cX5_nextToServe 5 = .ok (.aload_n 0, 1) := by decide +kernel
theorem dX5_nextToServe_6 : decode cX5_nextToServe 6 = .ok (.getfield 28, 3) := by decide +kernel
theorem dX5_nextToServe_9 : decode cX5_nextToServe 9 = .ok (.if_icmp .ge 61, 3) := by decide +kernel
theorem dX5_nextToServe_12 : decode cX5_nextToServe 12 = .ok (.aload_n 0, 1) := by decide +kernel
theorem dX5_nextToServe_13 : decode cX5_nextToServe 13 = .ok (.getfield 31, 3) := by decide +kernel
theorem dX5_nextToServe_16 : decode cX5_nextToServe 16 = .ok (.iload_n 2, 1) := by decide +kernel
theorem dX5_nextToServe_17 : decode cX5_nextToServe 17 = .ok (.iaload, 1) := by decide +kernel
theorem dX5_nextToServe_18 : decode cX5_nextToServe 18 = .ok (.istore_n 3, 1) := by decide +kernel
theorem dX5_nextToServe_19 : decode cX5_nextToServe 19 = .ok (.aload_n 0, 1) := by decide +kernel
theorem dX5_nextToServe_20 : decode cX5_nextToServe 20 = .ok (.iload_n 3, 1) := by decide +kernel
theorem dX5_nextToServe_21 : decode cX5_nextToServe 21 = .ok (.aload_n 0, 1) := by decide +kernel
theorem dX5_nextToServe_22 : decode cX5_nextToServe 22 = .ok (.getfield 34, 3) := by decide +kernel
theorem dX5_nextToServe_25 : decode cX5_nextToServe 25 = .ok (.iload_n 3, 1) := by decide +kernel
theorem dX5_nextToServe_26 : decode cX5_nextToServe 26 = .ok (.iaload, 1) := by decide +kernel
theorem dX5_nextToServe_27 : decode cX5_nextToServe 27 = .ok (.aload_n 0, 1) := by decide +kernel
theorem dX5_nextToServe_28 : decode cX5_nextToServe 28 = .ok (.getfield 37, 3) := by decide +kernel
theorem dX5_nextToServe_31 : decode cX5_nextToServe 31 = .ok (.iload_n 3, 1) := by decide +kernel
theorem dX5_nextToServe_32 : decode cX5_nextToServe 32 = .ok (.iaload, 1) := by decide +kernel
theorem dX5_nextToServe_33 : decode cX5_nextToServe 33 = .ok (.invokevirtual 103, 3) := by decide +kernel
theorem dX5_nextToServe_36 : decode cX5_nextToServe 36 = .ok (.ifCond .eq 6, 3) := by decide +kernel
theorem dX5_nextToServe_39 : decode cX5_nextToServe 39 = .ok (.goto 25, 3) := by decide +kernel
theorem dX5_nextToServe_42 : decode cX5_nextToServe 42 = .ok (.aload_n 0, 1) := by decide +kernel
theorem dX5_nextToServe_43 : decode cX5_nextToServe 43 = .ok (.iload_n 3, 1) := by decide +kernel
theorem dX5_nextToServe_44 : decode cX5_nextToServe 44 = .ok (.aload_n 0, 1) := by decide +kernel
theorem dX5_nextToServe_45 : decode cX5_nextToServe 45 = .ok (.getfield 34, 3) := by decide +kernel
theorem dX5_nextToServe_48 : decode cX5_nextToServe 48 = .ok (.iload_n 3, 1) := by decide +kernel
theorem dX5_nextToServe_49 : decode cX5_nextToServe 49 = .ok (.iaload, 1) := by decide +kernel
theorem dX5_nextToServe_50 : decode cX5_nextToServe 50 = .ok (.invokevirtual 86, 3) := by decide +kernel
theorem dX5_nextToServe_53 : decode cX5_nextToServe 53 = .ok (.ifCond .eq 5, 3) := by decide +kernel
theorem dX5_nextToServe_56 : decode cX5_nextToServe 56 = .ok (.iload_n 3, 1) := by decide +kernel
theorem dX5_nextToServe_57 : decode cX5_nextToServe 57 = .ok (.ireturn, 1) := by decide +kernel
theorem dX5_nextToServe_58 : decode cX5_nextToServe 58 = .ok (.iload_n 1, 1) := by decide +kernel
theorem dX5_nextToServe_59 : decode cX5_nextToServe 59 = .ok (.ifCond .ge 5, 3) := by decide +kernel
theorem dX5_nextToServe_62 : decode cX5_nextToServe 62 = .ok (.iload_n 3, 1) := by decide +kernel
theorem dX5_nextToServe_63 : decode cX5_nextToServe 63 = .ok (.istore_n 1, 1) := by decide +kernel
theorem dX5_nextToServe_64 : decode cX5_nextToServe 64 = .ok (.iinc 2 1, 3) := by decide +kernel
theorem dX5_nextToServe_67 : decode cX5_nextToServe 67 = .ok (.goto (-63), 3) := by decide +kernel
theorem dX5_nextToServe_70 : decode cX5_nextToServe 70 = .ok (.iload_n 1, 1) := by decide +kernel
theorem dX5_nextToServe_71 : decode cX5_nextToServe 71 = .ok (.ireturn, 1) := by decide +kernel
theorem dX5_waitsForBits_0 : decode cX5_waitsForBits 0 = .ok (.aload_n 0, 1) := by decide +kernel
theorem dX5_waitsForBits_1 : decode cX5_waitsForBits 1 = .ok (.iload_n 1, 1) := by decide +kernel
theorem dX5_waitsForBits_2 : decode cX5_waitsForBits 2 = .ok (.invokevirtual 75, 3) := by decide +kernel
theorem dX5_waitsForBits_5 : decode cX5_waitsForBits 5 = .ok (.ifCond .eq 23, 3) := by decide +kernel
theorem dX5_waitsForBits_8 : decode cX5_waitsForBits 8 = .ok (.aload_n 0, 1) := by decide +kernel
theorem dX5_waitsForBits_9 : decode cX5_waitsForBits 9 = .ok (.iload_n 1, 1) := by decide +kernel
theorem dX5_waitsForBits_10 : decode cX5_waitsForBits 10 = .ok (.aload_n 0, 1) := by decide +kernel
theorem dX5_waitsForBits_11 : decode cX5_waitsForBits 11 = .ok (.getfield 34, 3) := by decide +kernel
theorem dX5_waitsForBits_14 : decode cX5_waitsForBits 14 = .ok (.iload_n 1, 1) := by decide +kernel
theorem dX5_waitsForBits_15 : decode cX5_waitsForBits 15 = .ok (.iaload, 1) := by decide +kernel
theorem dX5_waitsForBits_16 : decode cX5_waitsForBits 16 = .ok (.aload_n 0, 1) := by decide +kernel
theorem dX5_waitsForBits_17 : decode cX5_waitsForBits 17 = .ok (.getfield 37, 3) := by decide +kernel
theorem dX5_waitsForBits_20 : decode cX5_waitsForBits 20 = .ok (.iload_n 1, 1) := by decide +kernel
theorem dX5_waitsForBits_21 : decode cX5_waitsForBits 21 = .ok (.iaload, 1) := by decide +kernel
theorem dX5_waitsForBits_22 : decode cX5_waitsForBits 22 = .ok (.invokevirtual 103, 3) := by decide +kernel
theorem dX5_waitsForBits_25 : decode cX5_waitsForBits 25 = .ok (.goto 4, 3) := by decide +kernel
theorem dX5_waitsForBits_28 : decode cX5_waitsForBits 28 = .ok (.iconst 0, 1) := by decide +kernel
theorem dX5_waitsForBits_29 : decode cX5_waitsForBits 29 = .ok (.ireturn, 1) := by decide +kernel
theorem dX5_ringBits_0 : decode cX5_ringBits 0 = .ok (.aload_n 0, 1) := by decide +kernel
theorem dX5_ringBits_1 : decode cX5_ringBits 1 = .ok (.getfield 28, 3) := by decide +kernel
theorem dX5_ringBits_4 : decode cX5_ringBits 4 = .ok (.ifCond .ne 5, 3) := by decide +kernel
theorem dX5_ringBits_7 : decode cX5_ringBits 7 = .ok (.iconst 0, 1) := by decide +kernel
theorem dX5_ringBits_8 : decode cX5_ringBits 8 = .ok (.ireturn, 1) := by decide +kernel
theorem dX5_ringBits_9 : decode cX5_ringBits 9 = .ok (.iconst 0, 1) := by decide +kernel
theorem dX5_ringBits_10 : decode cX5_ringBits 10 = .ok (.istore_n 1, 1) := by decide +kernel
theorem dX5_ringBits_11 : decode cX5_ringBits 11 = .ok (.iload_n 1, 1) := by decide +kernel
theorem dX5_ringBits_12 : decode cX5_ringBits 12 = .ok (.bipush 6, 2) := by decide +kernel
theorem dX5_ringBits_14 : decode cX5_ringBits 14 = .ok (.if_icmp .ge 20, 3) := by decide +kernel
theorem dX5_ringBits_17 : decode cX5_ringBits 17 = .ok (.aload_n 0, 1) := by decide +kernel
theorem dX5_ringBits_18 : decode cX5_ringBits 18 = .ok (.getfield 55, 3) := by decide +kernel
theorem dX5_ringBits_21 : decode cX5_ringBits 21 = .ok (.iload_n 1, 1) := by decide +kernel
theorem dX5_ringBits_22 : decode cX5_ringBits 22 = .ok (.aload_n 0, 1) := by decide +kernel
theorem dX5_ringBits_23 : decode cX5_ringBits 23 = .ok (.iload_n 1, 1) := by decide +kernel
theorem dX5_ringBits_24 : decode cX5_ringBits 24 = .ok (.invokevirtual 134, 3) := by decide +kernel
theorem dX5_ringBits_27 : decode cX5_ringBits 27 = .ok (.iastore, 1) := by decide +kernel
theorem dX5_ringBits_28 : decode cX5_ringBits 28 = .ok (.iinc 1 1, 3) := by decide +kernel
theorem dX5_ringBits_31 : decode cX5_ringBits 31 = .ok (.goto (-20), 3) := by decide +kernel
theorem dX5_ringBits_34 : decode cX5_ringBits 34 = .ok (.iconst 0, 1) := by decide +kernel
theorem dX5_ringBits_35 : decode cX5_ringBits 35 = .ok (.istore_n 1, 1) := by decide +kernel
theorem dX5_ringBits_36 : decode cX5_ringBits 36 = .ok (.iload_n 1, 1) := by decide +kernel
theorem dX5_ringBits_37 : decode cX5_ringBits 37 = .ok (.bipush 6, 2) := by decide +kernel
theorem dX5_ringBits_39 : decode cX5_ringBits 39 = .ok (.if_icmp .ge 51, 3) := by decide +kernel
theorem dX5_ringBits_42 : decode cX5_ringBits 42 = .ok (.iconst 0, 1) := by decide +kernel
theorem dX5_ringBits_43 : decode cX5_ringBits 43 = .ok (.istore_n 2, 1) := by decide +kernel
theorem dX5_ringBits_44 : decode cX5_ringBits 44 = .ok (.iload_n 2, 1) := by decide +kernel
theorem dX5_ringBits_45 : decode cX5_ringBits 45 = .ok (.bipush 6, 2) := by decide +kernel
theorem dX5_ringBits_47 : decode cX5_ringBits 47 = .ok (.if_icmp .ge 37, 3) := by decide +kernel
theorem dX5_ringBits_50 : decode cX5_ringBits 50 = .ok (.aload_n 0, 1) := by decide +kernel
theorem dX5_ringBits_51 : decode cX5_ringBits 51 = .ok (.getfield 55, 3) := by decide +kernel
theorem dX5_ringBits_54 : decode cX5_ringBits 54 = .ok (.iload_n 2, 1) := by decide +kernel
theorem dX5_ringBits_55 : decode cX5_ringBits 55 = .ok (.iaload, 1) := by decide +kernel
theorem dX5_ringBits_56 : decode cX5_ringBits 56 = .ok (.iload_n 1, 1) := by decide +kernel
theorem dX5_ringBits_57 : decode cX5_ringBits 57 = .ok (.invokestatic 137, 3) := by decide +kernel
theorem dX5_ringBits_60 : decode cX5_ringBits 60 = .ok (.ifCond .eq 18, 3) := by decide +kernel
theorem dX5_ringBits_63 : decode cX5_ringBits 63 = .ok (.aload_n 0, 1) := by decide +kernel
theorem dX5_ringBits_64 : decode cX5_ringBits 64 = .ok (.getfield 55, 3) := by decide +kernel
theorem dX5_ringBits_67 : decode cX5_ringBits 67 = .ok (.iload_n 2, 1) := by decide +kernel
theorem dX5_ringBits_68 : decode cX5_ringBits 68 = .ok (.dup2, 1) := by decide +kernel
theorem dX5_ringBits_69 : decode cX5_ringBits 69 = .ok (.iaload, 1) := by decide +kernel
theorem dX5_ringBits_70 : decode cX5_ringBits 70 = .ok (.aload_n 0, 1) := by decide +kernel
theorem dX5_ringBits_71 : decode cX5_ringBits 71 = .ok (.getfield 55, 3) := by decide +kernel
theorem dX5_ringBits_74 : decode cX5_ringBits 74 = .ok (.iload_n 1, 1) := by decide +kernel
theorem dX5_ringBits_75 : decode cX5_ringBits 75 = .ok (.iaload, 1) := by decide +kernel
theorem dX5_ringBits_76 : decode cX5_ringBits 76 = .ok (.ior, 1) := by decide +kernel
theorem dX5_ringBits_77 : decode cX5_ringBits 77 = .ok (.iastore, 1) := by decide +kernel
theorem dX5_ringBits_78 : decode cX5_ringBits 78 = .ok (.iinc 2 1, 3) := by decide +kernel
theorem dX5_ringBits_81 : decode cX5_ringBits 81 = .ok (.goto (-37), 3) := by decide +kernel
theorem dX5_ringBits_84 : decode cX5_ringBits 84 = .ok (.iinc 1 1, 3) := by decide +kernel
theorem dX5_ringBits_87 : decode cX5_ringBits 87 = .ok (.goto (-51), 3) := by decide +kernel
theorem dX5_ringBits_90 : decode cX5_ringBits 90 = .ok (.iconst 0, 1) := by decide +kernel
theorem dX5_ringBits_91 : decode cX5_ringBits 91 = .ok (.istore_n 1, 1) := by decide +kernel
theorem dX5_ringBits_92 : decode cX5_ringBits 92 = .ok (.iconst 0, 1) := by decide +kernel
theorem dX5_ringBits_93 : decode cX5_ringBits 93 = .ok (.istore_n 2, 1) := by decide +kernel
theorem dX5_ringBits_94 : decode cX5_ringBits 94 = .ok (.iload_n 2, 1) := by decide +kernel
theorem dX5_ringBits_95 : decode cX5_ringBits 95 = .ok (.bipush 6, 2) := by decide +kernel
theorem dX5_ringBits_97 : decode cX5_ringBits 97 = .ok (.if_icmp .ge 22, 3) := by decide +kernel
theorem dX5_ringBits_100 : decode cX5_ringBits 100 = .ok (.iload_n 1, 1) := by decide +kernel
theorem dX5_ringBits_101 : decode cX5_ringBits 101 = .ok (.aload_n 0, 1) := by decide +kernel
theorem dX5_ringBits_102 : decode cX5_ringBits 102 = .ok (.getfield 55, 3) := by decide +kernel
theorem dX5_ringBits_105 : decode cX5_ringBits 105 = .ok (.iload_n 2, 1) := by decide +kernel
theorem dX5_ringBits_106 : decode cX5_ringBits 106 = .ok (.iaload, 1) := by decide +kernel
theorem dX5_ringBits_107 : decode cX5_ringBits 107 = .ok (.iconst 1, 1) := by decide +kernel
theorem dX5_ringBits_108 : decode cX5_ringBits 108 = .ok (.iload_n 2, 1) := by decide +kernel
theorem dX5_ringBits_109 : decode cX5_ringBits 109 = .ok (.ishl, 1) := by decide +kernel
theorem dX5_ringBits_110 : decode cX5_ringBits 110 = .ok (.iand, 1) := by decide +kernel
theorem dX5_ringBits_111 : decode cX5_ringBits 111 = .ok (.ior, 1) := by decide +kernel
theorem dX5_ringBits_112 : decode cX5_ringBits 112 = .ok (.istore_n 1, 1) := by decide +kernel
theorem dX5_ringBits_113 : decode cX5_ringBits 113 = .ok (.iinc 2 1, 3) := by decide +kernel
theorem dX5_ringBits_116 : decode cX5_ringBits 116 = .ok (.goto (-22), 3) := by decide +kernel
theorem dX5_ringBits_119 : decode cX5_ringBits 119 = .ok (.iload_n 1, 1) := by decide +kernel
theorem dX5_ringBits_120 : decode cX5_ringBits 120 = .ok (.ireturn, 1) := by decide +kernel
theorem dX5_leastOf_0 : decode cX5_leastOf 0 = .ok (.iconst (-1), 1) := by decide +kernel
theorem dX5_leastOf_1 : decode cX5_leastOf 1 = .ok (.istore_n 2, 1) := by decide +kernel
theorem dX5_leastOf_2 : decode cX5_leastOf 2 = .ok (.iconst 0, 1) := by decide +kernel
theorem dX5_leastOf_3 : decode cX5_leastOf 3 = .ok (.istore_n 3, 1) := by decide +kernel
theorem dX5_leastOf_4 : decode cX5_leastOf 4 = .ok (.iconst 0, 1) := by decide +kernel
theorem dX5_leastOf_5 : decode cX5_leastOf 5 = .ok (.istore 4, 2) := by decide +kernel
theorem dX5_leastOf_7 : decode cX5_leastOf 7 = .ok (.iload 4, 2) := by decide +kernel
theorem dX5_leastOf_9 : decode cX5_leastOf 9 = .ok (.bipush 6, 2) := by decide +kernel
theorem dX5_leastOf_11 : decode cX5_leastOf 11 = .ok (.if_icmp .ge 45, 3) := by decide +kernel
theorem dX5_leastOf_14 : decode cX5_leastOf 14 = .ok (.iload_n 1, 1) := by decide +kernel
theorem dX5_leastOf_15 : decode cX5_leastOf 15 = .ok (.iload 4, 2) := by decide +kernel
theorem dX5_leastOf_17 : decode cX5_leastOf 17 = .ok (.invokestatic 137, 3) := by decide +kernel
theorem dX5_leastOf_20 : decode cX5_leastOf 20 = .ok (.ifCond .ne 6, 3) := by decide +kernel
theorem dX5_leastOf_23 : decode cX5_leastOf 23 = .ok (.goto 27, 3) := by decide +kernel
theorem dX5_leastOf_26 : decode cX5_leastOf 26 = .ok (.aload_n 0, 1) := by decide +kernel
theorem dX5_leastOf_27 : decode cX5_leastOf 27 = .ok (.iload 4, 2) := by decide +kernel
theorem dX5_leastOf_29 : decode cX5_leastOf 29 = .ok (.invokevirtual 140, 3) := by decide +kernel
theorem dX5_leastOf_32 : decode cX5_leastOf 32 = .ok (.istore 5, 2) := by decide +kernel
theorem dX5_leastOf_34 : decode cX5_leastOf 34 = .ok (.iload_n 2, 1) := by decide +kernel
theorem dX5_leastOf_35 : decode cX5_leastOf 35 = .ok (.ifCond .lt 9, 3) := by decide +kernel
theorem dX5_leastOf_38 : decode cX5_leastOf 38 = .ok (.iload 5, 2) := by decide +kernel
theorem dX5_leastOf_40 : decode cX5_leastOf 40 = .ok (.iload_n 3, 1) := by decide +kernel
theorem dX5_leastOf_41 : decode cX5_leastOf 41 = .ok (.if_icmp .gt 9, 3) := by decide +kernel
theorem dX5_leastOf_44 : decode cX5_leastOf 44 = .ok (.iload 4, 2) := by decide +kernel
theorem dX5_leastOf_46 : decode cX5_leastOf 46 = .ok (.istore_n 2, 1) := by decide +kernel
theorem dX5_leastOf_47 : decode cX5_leastOf 47 = .ok (.iload 5, 2) := by decide +kernel
theorem dX5_leastOf_49 : decode cX5_leastOf 49 = .ok (.istore_n 3, 1) := by decide +kernel
theorem dX5_leastOf_50 : decode cX5_leastOf 50 = .ok (.iinc 4 1, 3) := by decide +kernel
theorem dX5_leastOf_53 : decode cX5_leastOf 53 = .ok (.goto (-46), 3) := by decide +kernel
theorem dX5_leastOf_56 : decode cX5_leastOf 56 = .ok (.iload_n 2, 1) := by decide +kernel
theorem dX5_leastOf_57 : decode cX5_leastOf 57 = .ok (.ireturn, 1) := by decide +kernel
theorem dX5_askedCounts_0 : decode cX5_askedCounts 0 = .ok (.iconst 0, 1) := by decide +kernel
theorem dX5_askedCounts_1 : decode cX5_askedCounts 1 = .ok (.istore_n 2, 1) := by decide +kernel
theorem dX5_askedCounts_2 : decode cX5_askedCounts 2 = .ok (.iconst 0, 1) := by decide +kernel
theorem dX5_askedCounts_3 : decode cX5_askedCounts 3 = .ok (.istore_n 3, 1) := by decide +kernel
theorem dX5_askedCounts_4 : decode cX5_askedCounts 4 = .ok (.iload_n 3, 1) := by decide +kernel
theorem dX5_askedCounts_5 : decode cX5_askedCounts 5 = .ok (.aload_n 0, 1) := by decide +kernel
theorem dX5_askedCounts_6 : decode cX5_askedCounts 6 = .ok (.getfield 9, 3) := by decide +kernel
theorem dX5_askedCounts_9 : decode cX5_askedCounts 9 = .ok (.if_icmp .ge 46, 3) := by decide +kernel
theorem dX5_askedCounts_12 : decode cX5_askedCounts 12 = .ok (.iconst 0, 1) := by decide +kernel
theorem dX5_askedCounts_13 : decode cX5_askedCounts 13 = .ok (.istore 4, 2) := by decide +kernel
theorem dX5_askedCounts_15 : decode cX5_askedCounts 15 = .ok (.iload 4, 2) := by decide +kernel
theorem dX5_askedCounts_17 : decode cX5_askedCounts 17 = .ok (.getstatic 143, 3) := by decide +kernel
theorem dX5_askedCounts_20 : decode cX5_askedCounts 20 = .ok (.arraylength, 1) := by decide +kernel
theorem dX5_askedCounts_21 : decode cX5_askedCounts 21 = .ok (.if_icmp .ge 28, 3) := by decide +kernel
theorem dX5_askedCounts_24 : decode cX5_askedCounts 24 = .ok (.iload_n 2, 1) := by decide +kernel
theorem dX5_askedCounts_25 : decode cX5_askedCounts 25 = .ok (.aload_n 0, 1) := by decide +kernel
theorem dX5_askedCounts_26 : decode cX5_askedCounts 26 = .ok (.getfield 22, 3) := by decide +kernel
theorem dX5_askedCounts_29 : decode cX5_askedCounts 29 = .ok (.iload_n 1, 1) := by decide +kernel
theorem dX5_askedCounts_30 : decode cX5_askedCounts 30 = .ok (.iload_n 3, 1) := by decide +kernel
theorem dX5_askedCounts_31 : decode cX5_askedCounts 31 = .ok (.getstatic 143, 3) := by decide +kernel
theorem dX5_askedCounts_34 : decode cX5_askedCounts 34 = .ok (.iload 4, 2) := by decide +kernel
theorem dX5_askedCounts_36 : decode cX5_askedCounts 36 = .ok (.iaload, 1) := by decide +kernel
theorem dX5_askedCounts_37 : decode cX5_askedCounts 37 = .ok (.invokestatic 116, 3) := by decide +kernel
theorem dX5_askedCounts_40 : decode cX5_askedCounts 40 = .ok (.iaload, 1) := by decide +kernel
theorem dX5_askedCounts_41 : decode cX5_askedCounts 41 = .ok (.iadd, 1) := by decide +kernel
theorem dX5_askedCounts_42 : decode cX5_askedCounts 42 = .ok (.istore_n 2, 1) := by decide +kernel
theorem dX5_askedCounts_43 : decode cX5_askedCounts 43 = .ok (.iinc 4 1, 3) := by decide +kernel
theorem dX5_askedCounts_46 : decode cX5_askedCounts 46 = .ok (.goto (-31), 3) := by decide +kernel
theorem dX5_askedCounts_49 : decode cX5_askedCounts 49 = .ok (.iinc 3 1, 3) := by decide +kernel
theorem dX5_askedCounts_52 : decode cX5_askedCounts 52 = .ok (.goto (-48), 3) := by decide +kernel
theorem dX5_askedCounts_55 : decode cX5_askedCounts 55 = .ok (.iload_n 2, 1) := by decide +kernel
theorem dX5_askedCounts_56 : decode cX5_askedCounts 56 = .ok (.ireturn, 1) := by decide +kernel
theorem dX5_addRow_0 : decode cX5_addRow 0 = .ok (.aload_n 0, 1) := by decide +kernel
theorem dX5_addRow_1 : decode cX5_addRow 1 = .ok (.iload_n 1, 1) := by decide +kernel
theorem dX5_addRow_2 : decode cX5_addRow 2 = .ok (.iload_n 2, 1) := by decide +kernel
theorem dX5_addRow_3 : decode cX5_addRow 3 = .ok (.iload_n 3, 1) := by decide +kernel
theorem dX5_addRow_4 : decode cX5_addRow 4 = .ok (.invokevirtual 99, 3) := by decide +kernel
theorem dX5_addRow_7 : decode cX5_addRow 7 = .ok (.ifCond .ne 5, 3) := by decide +kernel
theorem dX5_addRow_10 : decode cX5_addRow 10 = .ok (.iconst (-1), 1) := by decide +kernel
theorem dX5_addRow_11 : decode cX5_addRow 11 = .ok (.ireturn, 1) := by decide +kernel
theorem dX5_addRow_12 : decode cX5_addRow 12 = .ok (.aload_n 0, 1) := by decide +kernel
theorem dX5_addRow_13 : decode cX5_addRow 13 = .ok (.getfield 40, 3) := by decide +kernel
theorem dX5_addRow_16 : decode cX5_addRow 16 = .ok (.bipush 12, 2) := by decide +kernel
theorem dX5_addRow_18 : decode cX5_addRow 18 = .ok (.if_icmp .lt 6, 3) := by decide +kernel
theorem dX5_addRow_21 : decode cX5_addRow 21 = .ok (.bipush (-3), 2) := by decide +kernel
theorem dX5_addRow_23 : decode cX5_addRow 23 = .ok (.ireturn, 1) := by decide +kernel
theorem dX5_addRow_24 : decode cX5_addRow 24 = .ok (.aload_n 0, 1) := by decide +kernel
theorem dX5_addRow_25 : decode cX5_addRow 25 = .ok (.getfield 43, 3) := by decide +kernel
theorem dX5_addRow_28 : decode cX5_addRow 28 = .ok (.aload_n 0, 1) := by decide +kernel
theorem dX5_addRow_29 : decode cX5_addRow 29 = .ok (.getfield 40, 3) := by decide +kernel
theorem dX5_addRow_32 : decode cX5_addRow 32 = .ok (.iload_n 1, 1) := by decide +kernel
theorem dX5_addRow_33 : decode cX5_addRow 33 = .ok (.iastore, 1) := by decide +kernel
theorem dX5_addRow_34 : decode cX5_addRow 34 = .ok (.aload_n 0, 1) := by decide +kernel
theorem dX5_addRow_35 : decode cX5_addRow 35 = .ok (.getfield 46, 3) := by decide +kernel
theorem dX5_addRow_38 : decode cX5_addRow 38 = .ok (.aload_n 0, 1) := by decide +kernel
theorem dX5_addRow_39 : decode cX5_addRow 39 = .ok (.getfield 40, 3) := by decide +kernel
theorem dX5_addRow_42 : decode cX5_addRow 42 = .ok (.iload_n 2, 1) := by decide +kernel
theorem dX5_addRow_43 : decode cX5_addRow 43 = .ok (.iastore, 1) := by decide +kernel
theorem dX5_addRow_44 : decode cX5_addRow 44 = .ok (.aload_n 0, 1) := by decide +kernel
theorem dX5_addRow_45 : decode cX5_addRow 45 = .ok (.getfield 49, 3) := by decide +kernel
theorem dX5_addRow_48 : decode cX5_addRow 48 = .ok (.aload_n 0, 1) := by decide +kernel
theorem dX5_addRow_49 : decode cX5_addRow 49 = .ok (.getfield 40, 3) := by decide +kernel
theorem dX5_addRow_52 : decode cX5_addRow 52 = .ok (.iload_n 3, 1) := by decide +kernel
theorem dX5_addRow_53 : decode cX5_addRow 53 = .ok (.iastore, 1) := by decide +kernel
theorem dX5_addRow_54 : decode cX5_addRow 54 = .ok (.aload_n 0, 1) := by decide +kernel
theorem dX5_addRow_55 : decode cX5_addRow 55 = .ok (.dup, 1) := by decide +kernel
theorem dX5_addRow_56 : decode cX5_addRow 56 = .ok (.getfield 40, 3) := by decide +kernel
theorem dX5_addRow_59 : decode cX5_addRow 59 = .ok (.iconst 1, 1) := by decide +kernel
theorem dX5_addRow_60 : decode cX5_addRow 60 = .ok (.iadd, 1) := by decide +kernel
theorem dX5_addRow_61 : decode cX5_addRow 61 = .ok (.putfield 40, 3) := by decide +kernel
theorem dX5_addRow_64 : decode cX5_addRow 64 = .ok (.aload_n 0, 1) := by decide +kernel
theorem dX5_addRow_65 : decode cX5_addRow 65 = .ok (.getfield 40, 3) := by decide +kernel
theorem dX5_addRow_68 : decode cX5_addRow 68 = .ok (.ireturn, 1) := by decide +kernel
theorem dX6_init_0 : decode cX6_init 0 = .ok (.aload_n 0, 1) := by decide +kernel
theorem dX6_init_1 : decode cX6_init 1 = .ok (.invokespecial 3, 3) := by decide +kernel
theorem dX6_init_4 : decode cX6_init 4 = .ok (.aload_n 0, 1) := by decide +kernel
theorem dX6_init_5 : decode cX6_init 5 = .ok (.iconst 0, 1) := by decide +kernel
theorem dX6_init_6 : decode cX6_init 6 = .ok (.putfield 9, 3) := by decide +kernel
theorem dX6_init_9 : decode cX6_init 9 = .ok (.aload_n 0, 1) := by decide +kernel
theorem dX6_init_10 : decode cX6_init 10 = .ok (.bipush 120, 2) := by decide +kernel
theorem dX6_init_12 : decode cX6_init 12 = .ok (.newarray .byte, 2) := by decide +kernel
theorem dX6_init_14 : decode cX6_init 14 = .ok (.putfield 15, 3) := by decide +kernel
theorem dX6_init_17 : decode cX6_init 17 = .ok (.aload_n 0, 1) := by decide +kernel
theorem dX6_init_18 : decode cX6_init 18 = .ok (.iconst 0, 1) := by decide +kernel
theorem dX6_init_19 : decode cX6_init 19 = .ok (.putfield 19, 3) := by decide +kernel
theorem dX6_init_22 : decode cX6_init 22 = .ok (.aload_n 0, 1) := by decide +kernel
theorem dX6_init_23 : decode cX6_init 23 = .ok (.bipush 61, 2) := by decide +kernel
theorem dX6_init_25 : decode cX6_init 25 = .ok (.newarray .int, 2) := by decide +kernel
theorem dX6_init_27 : decode cX6_init 27 = .ok (.putfield 22, 3) := by decide +kernel
theorem dX6_init_30 : decode cX6_init 30 = .ok (.aload_n 0, 1) := by decide +kernel
theorem dX6_init_31 : decode cX6_init 31 = .ok (.bipush 61, 2) := by decide +kernel
theorem dX6_init_33 : decode cX6_init 33 = .ok (.newarray .int, 2) := by decide +kernel
theorem dX6_init_35 : decode cX6_init 35 = .ok (.putfield 26, 3) := by decide +kernel
theorem dX6_init_38 : decode cX6_init 38 = .ok (.aload_n 0, 1) := by decide +kernel
theorem dX6_init_39 : decode cX6_init 39 = .ok (.bipush 61, 2) := by decide +kernel
theorem dX6_init_41 : decode cX6_init 41 = .ok (.newarray .int, 2) := by decide +kernel
theorem dX6_init_43 : decode cX6_init 43 = .ok (.putfield 29, 3) := by decide +kernel
theorem dX6_init_46 : decode cX6_init 46 = .ok (.aload_n 0, 1) := by decide +kernel
theorem dX6_init_47 : decode cX6_init 47 = .ok (.bipush 61, 2) := by decide +kernel
theorem dX6_init_49 : decode cX6_init 49 = .ok (.newarray .int, 2) := by decide +kernel
theorem dX6_init_51 : decode cX6_init 51 = .ok (.putfield 32, 3) := by decide +kernel
theorem dX6_init_54 : decode cX6_init 54 = .ok (.aload_n 0, 1) := by decide +kernel
theorem dX6_init_55 : decode cX6_init 55 = .ok (.bipush 61, 2) := by decide +kernel
theorem dX6_init_57 : decode cX6_init 57 = .ok (.newarray .int, 2) := by decide +kernel
theorem dX6_init_59 : decode cX6_init 59 = .ok (.putfield 35, 3) := by decide +kernel
theorem dX6_init_62 : decode cX6_init 62 = .ok (.return_, 1) := by decide +kernel
theorem dX6_append_0 : decode cX6_append 0 = .ok (.aload_n 0, 1) := by decide +kernel
theorem dX6_append_1 : decode cX6_append 1 = .ok (.getfield 9, 3) := by decide +kernel
theorem dX6_append_4 : decode cX6_append 4 = .ok (.bipush 120, 2) := by decide +kernel
theorem dX6_append_6 : decode cX6_append 6 = .ok (.if_icmp .lt 4, 3) := by decide +kernel
theorem dX6_append_9 : decode cX6_append 9 = .ok (.return_, 1) := by decide +kernel
theorem dX6_append_10 : decode cX6_append 10 = .ok (.aload_n 0, 1) := by decide +kernel
theorem dX6_append_11 : decode cX6_append 11 = .ok (.getfield 15, 3) := by decide +kernel
theorem dX6_append_14 : decode cX6_append 14 = .ok (.aload_n 0, 1) := by decide +kernel
theorem dX6_append_15 : decode cX6_append 15 = .ok (.getfield 9, 3) := by decide +kernel
theorem dX6_append_18 : decode cX6_append 18 = .ok (.iload_n 1, 1) := by decide +kernel
theorem dX6_append_19 : decode cX6_append 19 = .ok (.i2b, 1) := by decide +kernel
theorem dX6_append_20 : decode cX6_append 20 = .ok (.bastore, 1) := by decide +kernel
theorem dX6_append_21 : decode cX6_append 21 = .ok (.aload_n 0, 1) := by decide +kernel
theorem dX6_append_22 : decode cX6_append 22 = .ok (.dup, 1) := by decide +kernel
theorem dX6_append_23 : decode cX6_append 23 = .ok (.getfield 9, 3) := by decide +kernel
theorem dX6_append_26 : decode cX6_append 26 = .ok (.iconst 1, 1) := by decide +kernel
theorem dX6_append_27 : decode cX6_append 27 = .ok (.iadd, 1) := by decide +kernel
theorem dX6_append_28 : decode cX6_append 28 = .ok (.putfield 9, 3) := by decide +kernel
theorem dX6_append_31 : decode cX6_append 31 = .ok (.return_, 1) := by decide +kernel
theorem dX6_parse_0 : decode cX6_parse 0 = .ok (.aload_n 0, 1) := by decide +kernel
theorem dX6_parse_1 : decode cX6_parse 1 = .ok (.iconst 0, 1) := by decide +kernel
theorem dX6_parse_2 : decode cX6_parse 2 = .ok (.putfield 19, 3) := by decide +kernel
theorem dX6_parse_5 : decode cX6_parse 5 = .ok (.iconst 0, 1) := by decide +kernel
theorem dX6_parse_6 : decode cX6_parse 6 = .ok (.istore_n 1, 1) := by decide +kernel
theorem dX6_parse_7 : decode cX6_parse 7 = .ok (.iload_n 1, 1) := by decide +kernel
theorem dX6_parse_8 : decode cX6_parse 8 = .ok (.bipush 61, 2) := by decide +kernel
theorem dX6_parse_10 : decode cX6_parse 10 = .ok (.if_icmp .ge 57, 3) := by decide +kernel
theorem dX6_parse_13 : decode cX6_parse 13 = .ok (.aload_n 0, 1) := by decide +kernel
theorem dX6_parse_14 : decode cX6_parse 14 = .ok (.iload_n 1, 1) := by decide +kernel
theorem dX6_parse_15 : decode cX6_parse 15 = .ok (.invokevirtual 38, 3) := by decide +kernel
theorem dX6_parse_18 : decode cX6_parse 18 = .ok (.ifCond .ne 6, 3) := by decide +kernel
theorem dX6_parse_21 : decode cX6_parse 21 = .ok (.goto 46, 3) := by decide +kernel
theorem dX6_parse_24 : decode cX6_parse 24 = .ok (.aload_n 0, 1) := by decide +kernel
theorem dX6_parse_25 : decode cX6_parse 25 = .ok (.getfield 19, 3) := by decide +kernel
theorem dX6_parse_28 : decode cX6_parse 28 = .ok (.aload_n 0, 1) := by decide +kernel
theorem dX6_parse_29 : decode cX6_parse 29 = .ok (.getfield 9, 3) := by decide +kernel
theorem dX6_parse_32 : decode cX6_parse 32 = .ok (.if_icmp .lt 7, 3) := by decide +kernel
theorem dX6_parse_35 : decode cX6_parse 35 = .ok (.iload_n 1, 1) := by decide +kernel
theorem dX6_parse_36 : decode cX6_parse 36 = .ok (.iconst 1, 1) := by decide +kernel
theorem dX6_parse_37 : decode cX6_parse 37 = .ok (.iadd, 1) := by decide +kernel
theorem dX6_parse_38 : decode cX6_parse 38 = .ok (.ireturn, 1) := by decide +kernel
theorem dX6_parse_39 : decode cX6_parse 39 = .ok (.aload_n 0, 1) := by decide +kernel
theorem dX6_parse_40 : decode cX6_parse 40 = .ok (.invokevirtual 42, 3) := by decide +kernel
theorem dX6_parse_43 : decode cX6_parse 43 = .ok (.bipush 59, 2) := by decide +kernel
theorem dX6_parse_45 : decode cX6_parse 45 = .ok (.if_icmp .eq 6, 3) := by decide +kernel
theorem dX6_parse_48 : decode cX6_parse 48 = .ok (.goto 19, 3) := by decide +kernel
theorem dX6_parse_51 : decode cX6_parse 51 = .ok (.aload_n 0, 1) := by decide +kernel
theorem dX6_parse_52 : decode cX6_parse 52 = .ok (.dup, 1) := by decide +kernel
theorem dX6_parse_53 : decode cX6_parse 53 = .ok (.getfield 19, 3) := by decide +kernel
theorem dX6_parse_56 : decode cX6_parse 56 = .ok (.iconst 1, 1) := by decide +kernel
theorem dX6_parse_57 : decode cX6_parse 57 = .ok (.iadd, 1) := by decide +kernel
theorem dX6_parse_58 : decode cX6_parse 58 = .ok (.putfield 19, 3) := by decide +kernel
theorem dX6_parse_61 : decode cX6_parse 61 = .ok (.iinc 1 1, 3) := by decide +kernel
theorem dX6_parse_64 : decode cX6_parse 64 = .ok (.goto (-57), 3) := by decide +kernel
theorem dX6_parse_67 : decode cX6_parse 67 = .ok (.sipush (-1000), 3) := by decide +kernel
theorem dX6_parse_70 : decode cX6_parse 70 = .ok (.aload_n 0, 1) := by decide +kernel
theorem dX6_parse_71 : decode cX6_parse 71 = .ok (.getfield 19, 3) := by decide +kernel
theorem dX6_parse_74 : decode cX6_parse 74 = .ok (.isub, 1) := by decide +kernel
theorem dX6_parse_75 : decode cX6_parse 75 = .ok (.ireturn, 1) := by decide +kernel
theorem dX6_peek_0 : decode cX6_peek 0 = .ok (.aload_n 0, 1) := by decide +kernel
theorem dX6_peek_1 : decode cX6_peek 1 = .ok (.getfield 19, 3) := by decide +kernel
theorem dX6_peek_4 : decode cX6_peek 4 = .ok (.aload_n 0, 1) := by decide +kernel
theorem dX6_peek_5 : decode cX6_peek 5 = .ok (.getfield 9, 3) := by decide +kernel
theorem dX6_peek_8 : decode cX6_peek 8 = .ok (.if_icmp .ge 15, 3) := by decide +kernel
theorem dX6_peek_11 : decode cX6_peek 11 = .ok (.aload_n 0, 1) := by decide +kernel
theorem dX6_peek_12 : decode cX6_peek 12 = .ok (.getfield 15, 3) := by decide +kernel
theorem dX6_peek_15 : decode cX6_peek 15 = .ok (.aload_n 0, 1) := by decide +kernel
theorem dX6_peek_16 : decode cX6_peek 16 = .ok (.getfield 19, 3) := by decide +kernel
theorem dX6_peek_19 : decode cX6_peek 19 = .ok (.baload, 1) := by decide +kernel
theorem dX6_peek_20 : decode cX6_peek 20 = .ok (.goto 4, 3) := by decide +kernel
theorem dX6_peek_23 : decode cX6_peek 23 = .ok (.iconst 0, 1) := by decide +kernel
theorem dX6_peek_24 : decode cX6_peek 24 = .ok (.ireturn, 1) := by decide +kernel
theorem dX6_parseStatement_0 : decode cX6_parseStatement 0 = .ok (.aload_n 0, 1) := by decide +kernel
theorem dX6_parseStatement_1 : decode cX6_parseStatement 1 = .ok (.getfield 22, 3) := by decide +kernel
theorem dX6_parseStatement_4 : decode cX6_parseStatement 4 = .ok (.iload_n 1, 1) := by decide +kernel
theorem dX6_parseStatement_5 : decode cX6_parseStatement 5 = .ok (.aload_n 0, 1) := by decide +kernel
theorem dX6_parseStatement_6 : decode cX6_parseStatement 6 = .ok (.getfield 19, 3) := by decide +kernel
theorem dX6_parseStatement_9 : decode cX6_parseStatement 9 = .ok (.iastore, 1) := by decide +kernel
theorem dX6_parseStatement_10 : decode cX6_parseStatement 10 = .ok (.aload_n 0, 1) := by decide +kernel
theorem dX6_parseStatement_11 : decode cX6_parseStatement 11 = .ok (.invokevirtual 42, 3) := by decide +kernel
theorem dX6_parseStatement_14 : decode cX6_parseStatement 14 = .ok (.istore_n 2, 1) := by decide +kernel
theorem dX6_parseStatement_15 : decode cX6_parseStatement 15 = .ok (.iload_n 2, 1) := by decide +kernel
theorem dX6_parseStatement_16 : decode cX6_parseStatement 16 = .ok (.bipush 43, 2) := by decide +kernel
theorem dX6_parseStatement_18 : decode cX6_parseStatement 18 = .ok (.if_icmp .eq 9, 3) := by decide +kernel
theorem dX6_parseStatement_21 : decode cX6_parseStatement 21 = .ok (.iload_n 2, 1) := by decide +kernel
theorem dX6_parseStatement_22 : decode cX6_parseStatement 22 = .ok (.bipush 45, 2) := by decide +kernel
theorem dX6_parseStatement_24 : decode cX6_parseStatement 24 = .ok (.if_icmp .ne 42, 3) := by decide +kernel
theorem dX6_parseStatement_27 : decode cX6_parseStatement 27 = .ok (.aload_n 0, 1) := by decide +kernel
theorem dX6_parseStatement_28 : decode cX6_parseStatement 28 = .ok (.getfield 26, 3) := by decide +kernel
theorem dX6_parseStatement_31 : decode cX6_parseStatement 31 = .ok (.iload_n 1, 1) := by decide +kernel
theorem dX6_parseStatement_32 : decode cX6_parseStatement 32 = .ok (.iload_n 2, 1) := by decide +kernel
theorem dX6_parseStatement_33 : decode cX6_parseStatement 33 = .ok (.bipush 43, 2) := by decide +kernel
theorem dX6_parseStatement_35 : decode cX6_parseStatement 35 = .ok (.if_icmp .ne 7, 3) := by decide +kernel
theorem dX6_parseStatement_38 : decode cX6_parseStatement 38 = .ok (.iconst 2, 1) := by decide +kernel
theorem dX6_parseStatement_39 : decode cX6_parseStatement 39 = .ok (.goto 4, 3) := by decide +kernel
theorem dX6_parseStatement_42 : decode cX6_parseStatement 42 = .ok (.iconst 3, 1) := by decide +kernel
theorem dX6_parseStatement_43 : decode cX6_parseStatement 43 = .ok (.iastore, 1) := by decide +kernel
theorem dX6_parseStatement_44 : decode cX6_parseStatement 44 = .ok (.aload_n 0, 1) := by decide +kernel
theorem dX6_parseStatement_45 : decode cX6_parseStatement 45 = .ok (.dup, 1) := by decide +kernel
theorem dX6_parseStatement_46 : decode cX6_parseStatement 46 = .ok (.getfield 19, 3) := by decide +kernel
theorem dX6_parseStatement_49 : decode cX6_parseStatement 49 = .ok (.iconst 1, 1) := by decide +kernel
theorem dX6_parseStatement_50 : decode cX6_parseStatement 50 = .ok (.iadd, 1) := by decide +kernel
theorem dX6_parseStatement_51 : decode cX6_parseStatement 51 = .ok (.putfield 19, 3) := by decide +kernel
theorem dX6_parseStatement_54 : decode cX6_parseStatement 54 = .ok (.aload_n 0, 1) := by decide +kernel
theorem dX6_parseStatement_55 : decode cX6_parseStatement 55 = .ok (.getfield 35, 3) := by decide +kernel
theorem dX6_parseStatement_58 : decode cX6_parseStatement 58 = .ok (.iload_n 1, 1) := by decide +kernel
theorem dX6_parseStatement_59 : decode cX6_parseStatement 59 = .ok (.aload_n 0, 1) := by decide +kernel
theorem dX6_parseStatement_60 : decode cX6_parseStatement 60 = .ok (.invokevirtual 46, 3) := by decide +kernel
theorem dX6_parseStatement_63 : decode cX6_parseStatement 63 = .ok (.iastore, 1) := by decide +kernel
theorem dX6_parseStatement_64 : decode cX6_parseStatement 64 = .ok (.iconst 1, 1) := by decide +kernel
theorem dX6_parseStatement_65 : decode cX6_parseStatement 65 = .ok (.ireturn, 1) := by decide +kernel
theorem dX6_parseStatement_66 : decode cX6_parseStatement 66 = .ok (.aload_n 0, 1) := by decide +kernel
theorem dX6_parseStatement_67 : decode cX6_parseStatement 67 = .ok (.getfield 26, 3) := by decide +kernel
theorem dX6_parseStatement_70 : decode cX6_parseStatement 70 = .ok (.iload_n 1, 1) := by decide +kernel
theorem dX6_parseStatement_71 : decode cX6_parseStatement 71 = .ok (.iload_n 2, 1) := by decide +kernel
theorem dX6_parseStatement_72 : decode cX6_parseStatement 72 = .ok (.bipush 103, 2) := by decide +kernel
theorem dX6_parseStatement_74 : decode cX6_parseStatement 74 = .ok (.if_icmp .ne 7, 3) := by decide +kernel
theorem dX6_parseStatement_77 : decode cX6_parseStatement 77 = .ok (.iconst 1, 1) := by decide +kernel
theorem dX6_parseStatement_78 : decode cX6_parseStatement 78 = .ok (.goto 4, 3) := by decide +kernel
theorem dX6_parseStatement_81 : decode cX6_parseStatement 81 = .ok (.iconst 0, 1) := by decide +kernel
theorem dX6_parseStatement_82 : decode cX6_parseStatement 82 = .ok (.iastore, 1) := by decide +kernel
theorem dX6_parseStatement_83 : decode cX6_parseStatement 83 = .ok (.iload_n 2, 1) := by decide +kernel
theorem dX6_parseStatement_84 : decode cX6_parseStatement 84 = .ok (.bipush 103, 2) := by decide +kernel
theorem dX6_parseStatement_86 : decode cX6_parseStatement 86 = .ok (.if_icmp .ne 13, 3) := by decide +kernel
theorem dX6_parseStatement_89 : decode cX6_parseStatement 89 = .ok (.aload_n 0, 1) := by decide +kernel
theorem dX6_parseStatement_90 : decode cX6_parseStatement 90 = .ok (.dup, 1) := by decide +kernel
theorem dX6_parseStatement_91 : decode cX6_parseStatement 91 = .ok (.getfield 19, 3) := by decide +kernel
theorem dX6_parseStatement_94 : decode cX6_parseStatement 94 = .ok (.iconst 1, 1) := by decide +kernel
theorem dX6_parseStatement_95 : decode cX6_parseStatement 95 = .ok (.iadd, 1) := by decide +kernel
theorem dX6_parseStatement_96 : decode cX6_parseStatement 96 = .ok (.putfield 19, 3) := by decide +kernel
theorem dX6_parseStatement_99 : decode cX6_parseStatement 99 = .ok (.aload_n 0, 1) := by decide +kernel
theorem dX6_parseStatement_100 : decode cX6_parseStatement 100 = .ok (.iload_n 1, 1) := by decide +kernel
theorem dX6_parseStatement_101 : decode cX6_parseStatement 101 = .ok (.invokevirtual 49, 3) := by decide +kernel
theorem dX6_parseStatement_104 : decode cX6_parseStatement 104 = .ok (.ireturn, 1) := by decide +kernel
theorem dX6_parseAsk_0 : decode cX6_parseAsk 0 = .ok (.aload_n 0, 1) := by decide +kernel
theorem dX6_parseAsk_1 : decode cX6_parseAsk 1 = .ok (.getfield 29, 3) := by decide +kernel
theorem dX6_parseAsk_4 : decode cX6_parseAsk 4 = .ok (.iload_n 1, 1) := by decide +kernel
theorem dX6_parseAsk_5 : decode cX6_parseAsk 5 = .ok (.aload_n 0, 1) := by decide +kernel
theorem dX6_parseAsk_6 : decode cX6_parseAsk 6 = .ok (.invokevirtual 42, 3) := by decide +kernel
theorem dX6_parseAsk_9 : decode cX6_parseAsk 9 = .ok (.invokestatic 52, 3) := by decide +kernel
theorem dX6_parseAsk_12 : decode cX6_parseAsk 12 = .ok (.iastore, 1) := by decide +kernel
theorem dX6_parseAsk_13 : decode cX6_parseAsk 13 = .ok (.aload_n 0, 1) := by decide +kernel
theorem dX6_parseAsk_14 : decode cX6_parseAsk 14 = .ok (.getfield 29, 3) := by decide +kernel
theorem dX6_parseAsk_17 : decode cX6_parseAsk 17 = .ok (.iload_n 1, 1) := by decide +kernel
theorem dX6_parseAsk_18 : decode cX6_parseAsk 18 = .ok (.iaload, 1) := by decide +kernel
theorem dX6_parseAsk_19 : decode cX6_parseAsk 19 = .ok (.ifCond .ne 5, 3) := by decide +kernel
theorem dX6_parseAsk_22 : decode cX6_parseAsk 22 = .ok (.iconst 0, 1) := by decide +kernel
theorem dX6_parseAsk_23 : decode cX6_parseAsk 23 = .ok (.ireturn, 1) := by decide +kernel
theorem dX6_parseAsk_24 : decode cX6_parseAsk 24 = .ok (.aload_n 0, 1) := by decide +kernel
theorem dX6_parseAsk_25 : decode cX6_parseAsk 25 = .ok (.dup, 1) := by decide +kernel
theorem dX6_parseAsk_26 : decode cX6_parseAsk 26 = .ok (.getfield 19, 3) := by decide +kernel
theorem dX6_parseAsk_29 : decode cX6_parseAsk 29 = .ok (.iconst 1, 1) := by decide +kernel
theorem dX6_parseAsk_30 : decode cX6_parseAsk 30 = .ok (.iadd, 1) := by decide +kernel
theorem dX6_parseAsk_31 : decode cX6_parseAsk 31 = .ok (.putfield 19, 3) := by decide +kernel
theorem dX6_parseAsk_34 : decode cX6_parseAsk 34 = .ok (.aload_n 0, 1) := by decide +kernel
theorem dX6_parseAsk_35 : decode cX6_parseAsk 35 = .ok (.invokevirtual 42, 3) := by decide +kernel
theorem dX6_parseAsk_38 : decode cX6_parseAsk 38 = .ok (.invokestatic 56, 3) := by decide +kernel
theorem dX6_parseAsk_41 : decode cX6_parseAsk 41 = .ok (.ifCond .ne 5, 3) := by decide +kernel
theorem dX6_parseAsk_44 : decode cX6_parseAsk 44 = .ok (.iconst 0, 1) := by decide +kernel
theorem dX6_parseAsk_45 : decode cX6_parseAsk 45 = .ok (.ireturn, 1) := by decide +kernel
theorem dX6_parseAsk_46 : decode cX6_parseAsk 46 = .ok (.aload_n 0, 1) := by decide +kernel
theorem dX6_parseAsk_47 : decode cX6_parseAsk 47 = .ok (.getfield 32, 3) := by decide +kernel
theorem dX6_parseAsk_50 : decode cX6_parseAsk 50 = .ok (.iload_n 1, 1) := by decide +kernel
theorem dX6_parseAsk_51 : decode cX6_parseAsk 51 = .ok (.aload_n 0, 1) := by decide +kernel
theorem dX6_parseAsk_52 : decode cX6_parseAsk 52 = .ok (.invokevirtual 42, 3) := by decide +kernel
theorem dX6_parseAsk_55 : decode cX6_parseAsk 55 = .ok (.bipush 48, 2) := by decide +kernel
theorem dX6_parseAsk_57 : decode cX6_parseAsk 57 = .ok (.isub, 1) := by decide +kernel
theorem dX6_parseAsk_58 : decode cX6_parseAsk 58 = .ok (.iastore, 1) := by decide +kernel
theorem dX6_parseAsk_59 : decode cX6_parseAsk 59 = .ok (.aload_n 0, 1) := by decide +kernel
theorem dX6_parseAsk_60 : decode cX6_parseAsk 60 = .ok (.dup, 1) := by decide +kernel
theorem dX6_parseAsk_61 : decode cX6_parseAsk 61 = .ok (.getfield 19, 3) := by decide +kernel
theorem dX6_parseAsk_64 : decode cX6_parseAsk 64 = .ok (.iconst 1, 1) := by decide +kernel
theorem dX6_parseAsk_65 : decode cX6_parseAsk 65 = .ok (.iadd, 1) := by decide +kernel
theorem dX6_parseAsk_66 : decode cX6_parseAsk 66 = .ok (.putfield 19, 3) := by decide +kernel
theorem dX6_parseAsk_69 : decode cX6_parseAsk 69 = .ok (.aload_n 0, 1) := by decide +kernel
theorem dX6_parseAsk_70 : decode cX6_parseAsk 70 = .ok (.invokevirtual 42, 3) := by decide +kernel
theorem dX6_parseAsk_73 : decode cX6_parseAsk 73 = .ok (.bipush 32, 2) := by decide +kernel
theorem dX6_parseAsk_75 : decode cX6_parseAsk 75 = .ok (.if_icmp .eq 5, 3) := by decide +kernel
theorem dX6_parseAsk_78 : decode cX6_parseAsk 78 = .ok (.iconst 0, 1) := by decide +kernel
theorem dX6_parseAsk_79 : decode cX6_parseAsk 79 = .ok (.ireturn, 1) := by decide +kernel
theorem dX6_parseAsk_80 : decode cX6_parseAsk 80 = .ok (.aload_n 0, 1) := by decide +kernel
theorem dX6_parseAsk_81 : decode cX6_parseAsk 81 = .ok (.dup, 1) := by decide +kernel
theorem dX6_parseAsk_82 : decode cX6_parseAsk 82 = .ok (.getfield 19, 3) := by decide +kernel
theorem dX6_parseAsk_85 : decode cX6_parseAsk 85 = .ok (.iconst 1, 1) := by decide +kernel
theorem dX6_parseAsk_86 : decode cX6_parseAsk 86 = .ok (.iadd, 1) := by decide +kernel
theorem dX6_parseAsk_87 : decode cX6_parseAsk 87 = .ok (.putfield 19, 3) := by decide +kernel
theorem dX6_parseAsk_90 : decode cX6_parseAsk 90 = .ok (.aload_n 0, 1) := by decide +kernel
theorem dX6_parseAsk_91 : decode cX6_parseAsk 91 = .ok (.getfield 35, 3) := by decide +kernel
theorem dX6_parseAsk_94 : decode cX6_parseAsk 94 = .ok (.iload_n 1, 1) := by decide +kernel
theorem dX6_parseAsk_95 : decode cX6_parseAsk 95 = .ok (.aload_n 0, 1) := by decide +kernel
theorem dX6_parseAsk_96 : decode cX6_parseAsk 96 = .ok (.invokevirtual 46, 3) := by decide +kernel
theorem dX6_parseAsk_99 : decode cX6_parseAsk 99 = .ok (.iastore, 1) := by decide +kernel
theorem dX6_parseAsk_100 : decode cX6_parseAsk 100 = .ok (.aload_n 0, 1) := by decide +kernel
theorem dX6_parseAsk_101 : decode cX6_parseAsk 101 = .ok (.getfield 35, 3) := by decide +kernel
theorem dX6_parseAsk_104 : decode cX6_parseAsk 104 = .ok (.iload_n 1, 1) := by decide +kernel
theorem dX6_parseAsk_105 : decode cX6_parseAsk 105 = .ok (.iaload, 1) := by decide +kernel
theorem dX6_parseAsk_106 : decode cX6_parseAsk 106 = .ok (.ifCond .lt 7, 3) := by decide +kernel
theorem dX6_parseAsk_109 : decode cX6_parseAsk 109 = .ok (.iconst 1, 1) := by decide +kernel
theorem dX6_parseAsk_110 : decode cX6_parseAsk 110 = .ok (.goto 4, 3) := by decide +kernel
theorem dX6_parseAsk_113 : decode cX6_parseAsk 113 = .ok (.iconst 0, 1) := by decide +kernel
theorem dX6_parseAsk_114 : decode cX6_parseAsk 114 = .ok (.ireturn, 1) := by decide +kernel
theorem dX6_parseNumber_0 : decode cX6_parseNumber 0 = .ok (.aload_n 0, 1) := by decide +kernel
theorem dX6_parseNumber_1 : decode cX6_parseNumber 1 = .ok (.invokevirtual 42, 3) := by decide +kernel
theorem dX6_parseNumber_4 : decode cX6_parseNumber 4 = .ok (.invokestatic 56, 3) := by decide +kernel
theorem dX6_parseNumber_7 : decode cX6_parseNumber 7 = .ok (.ifCond .ne 5, 3) := by decide +kernel
theorem dX6_parseNumber_10 : decode cX6_parseNumber 10 = .ok (.iconst (-1), 1) := by decide +kernel
theorem dX6_parseNumber_11 : decode cX6_parseNumber 11 = .ok (.ireturn, 1) := by decide +kernel
theorem dX6_parseNumber_12 : decode cX6_parseNumber 12 = .ok (.aload_n 0, 1) := by decide +kernel
theorem dX6_parseNumber_13 : decode cX6_parseNumber 13 = .ok (.invokevirtual 42, 3) := by decide +kernel
theorem dX6_parseNumber_16 : decode cX6_parseNumber 16 = .ok (.bipush 48, 2) := by decide +kernel
theorem dX6_parseNumber_18 : decode cX6_parseNumber 18 = .ok (.isub, 1) := by decide +kernel
theorem dX6_parseNumber_19 : decode cX6_parseNumber 19 = .ok (.istore_n 1, 1) := by decide +kernel
theorem dX6_parseNumber_20 : decode cX6_parseNumber 20 = .ok (.aload_n 0, 1) := by decide +kernel
theorem dX6_parseNumber_21 : decode cX6_parseNumber 21 = .ok (.dup, 1) := by decide +kernel
theorem dX6_parseNumber_22 : decode cX6_parseNumber 22 = .ok (.getfield 19, 3) := by decide +kernel
theorem dX6_parseNumber_25 : decode cX6_parseNumber 25 = .ok (.iconst 1, 1) := by decide +kernel
theorem dX6_parseNumber_26 : decode cX6_parseNumber 26 = .ok (.iadd, 1) := by decide +kernel
theorem dX6_parseNumber_27 : decode cX6_parseNumber 27 = .ok (.putfield 19, 3) := by decide +kernel
theorem dX6_parseNumber_30 : decode cX6_parseNumber 30 = .ok (.aload_n 0, 1) := by decide +kernel
theorem dX6_parseNumber_31 : decode cX6_parseNumber 31 = .ok (.invokevirtual 42, 3) := by decide +kernel
theorem dX6_parseNumber_34 : decode cX6_parseNumber 34 = .ok (.invokestatic 56, 3) := by decide +kernel
theorem dX6_parseNumber_37 : decode cX6_parseNumber 37 = .ok (.ifCond .ne 5, 3) := by decide +kernel
theorem dX6_parseNumber_40 : decode cX6_parseNumber 40 = .ok (.iload_n 1, 1) := by decide +kernel
theorem dX6_parseNumber_41 : decode cX6_parseNumber 41 = .ok (.ireturn, 1) := by decide +kernel
theorem dX6_parseNumber_42 : decode cX6_parseNumber 42 = .ok (.bipush 10, 2) := by decide +kernel
theorem dX6_parseNumber_44 : decode cX6_parseNumber 44 = .ok (.iload_n 1, 1) := by decide +kernel
theorem dX6_parseNumber_45 : decode cX6_parseNumber 45 = .ok (.imul, 1) := by decide +kernel
theorem dX6_parseNumber_46 : decode cX6_parseNumber 46 = .ok (.aload_n 0, 1) := by decide +kernel
theorem dX6_parseNumber_47 : decode cX6_parseNumber 47 = .ok (.invokevirtual 42, 3) := by decide +kernel
theorem dX6_parseNumber_50 : decode cX6_parseNumber 50 = .ok (.iadd, 1) := by decide +kernel
theorem dX6_parseNumber_51 : decode cX6_parseNumber 51 = .ok (.bipush 48, 2) := by decide +kernel
theorem dX6_parseNumber_53 : decode cX6_parseNumber 53 = .ok (.isub, 1) := by decide +kernel
theorem dX6_parseNumber_54 : decode cX6_parseNumber 54 = .ok (.istore_n 1, 1) := by decide +kernel
theorem dX6_parseNumber_55 : decode cX6_parseNumber 55 = .ok (.aload_n 0, 1) := by decide +kernel
theorem dX6_parseNumber_56 : decode cX6_parseNumber 56 = .ok (.dup, 1) := by decide +kernel
theorem dX6_parseNumber_57 : decode cX6_parseNumber 57 = .ok (.getfield 19, 3) := by decide +kernel
theorem dX6_parseNumber_60 : decode cX6_parseNumber 60 = .ok (.iconst 1, 1) := by decide +kernel
theorem dX6_parseNumber_61 : decode cX6_parseNumber 61 = .ok (.iadd, 1) := by decide +kernel
theorem dX6_parseNumber_62 : decode cX6_parseNumber 62 = .ok (.putfield 19, 3) := by decide +kernel
theorem dX6_parseNumber_65 : decode cX6_parseNumber 65 = .ok (.iload_n 1, 1) := by decide +kernel
theorem dX6_parseNumber_66 : decode cX6_parseNumber 66 = .ok (.ireturn, 1) := by decide +kernel
theorem dX6_isFigure_0 : decode cX6_isFigure 0 = .ok (.iload_n 0, 1) := by decide +kernel
theorem dX6_isFigure_1 : decode cX6_isFigure 1 = .ok (.bipush 48, 2) := by decide +kernel
theorem dX6_isFigure_3 : decode cX6_isFigure 3 = .ok (.if_icmp .lt 13, 3) := by decide +kernel
theorem dX6_isFigure_6 : decode cX6_isFigure 6 = .ok (.iload_n 0, 1) := by decide +kernel
theorem dX6_isFigure_7 : decode cX6_isFigure 7 = .ok (.bipush 57, 2) := by decide +kernel
theorem dX6_isFigure_9 : decode cX6_isFigure 9 = .ok (.if_icmp .gt 7, 3) := by decide +kernel
theorem dX6_isFigure_12 : decode cX6_isFigure 12 = .ok (.iconst 1, 1) := by decide +kernel
theorem dX6_isFigure_13 : decode cX6_isFigure 13 = .ok (.goto 4, 3) := by decide +kernel
theorem dX6_isFigure_16 : decode cX6_isFigure 16 = .ok (.iconst 0, 1) := by decide +kernel
theorem dX6_isFigure_17 : decode cX6_isFigure 17 = .ok (.ireturn, 1) := by decide +kernel
theorem dX6_modeOf_0 : decode cX6_modeOf 0 = .ok (.iload_n 0, 1) := by decide +kernel
theorem dX6_modeOf_1 : decode cX6_modeOf 1 = .ok (.lookupswitch 41 #[(111, 39), (115, 35), (117, 37)], 35) := by decide +kernel
theorem dX6_modeOf_36 : decode cX6_modeOf 36 = .ok (.iconst 2, 1) := by decide +kernel
theorem dX6_modeOf_37 : decode cX6_modeOf 37 = .ok (.ireturn, 1) := by decide +kernel
theorem dX6_modeOf_38 : decode cX6_modeOf 38 = .ok (.iconst 4, 1) := by decide +kernel
theorem dX6_modeOf_39 : decode cX6_modeOf 39 = .ok (.ireturn, 1) := by decide +kernel
theorem dX6_modeOf_40 : decode cX6_modeOf 40 = .ok (.iconst 5, 1) := by decide +kernel
theorem dX6_modeOf_41 : decode cX6_modeOf 41 = .ok (.ireturn, 1) := by decide +kernel
theorem dX6_modeOf_42 : decode cX6_modeOf 42 = .ok (.iconst 0, 1) := by decide +kernel
theorem dX6_modeOf_43 : decode cX6_modeOf 43 = .ok (.ireturn, 1) := by decide +kernel
theorem dX6_perform_0 : decode cX6_perform 0 = .ok (.aload_n 0, 1) := by decide +kernel
theorem dX6_perform_1 : decode cX6_perform 1 = .ok (.getfield 26, 3) := by decide +kernel
theorem dX6_perform_4 : decode cX6_perform 4 = .ok (.iload_n 1, 1) := by decide +kernel
theorem dX6_perform_5 : decode cX6_perform 5 = .ok (.iaload, 1) := by decide +kernel
theorem dX6_perform_6 : decode cX6_perform 6 = .ok (.tableswitch 73 1 3 #[50, 26, 38], 26) := by decide +kernel
theorem dX6_perform_32 : decode cX6_perform 32 = .ok (.aload_n 2, 1) := by decide +kernel
theorem dX6_perform_33 : decode cX6_perform 33 = .ok (.aload_n 0, 1) := by decide +kernel
theorem dX6_perform_34 : decode cX6_perform 34 = .ok (.getfield 35, 3) := by decide +kernel
theorem dX6_perform_37 : decode cX6_perform 37 = .ok (.iload_n 1, 1) := by decide +kernel
theorem dX6_perform_38 : decode cX6_perform 38 = .ok (.iaload, 1) := by decide +kernel
theorem dX6_perform_39 : decode cX6_perform 39 = .ok (.iconst 0, 1) := by decide +kernel
theorem dX6_perform_40 : decode cX6_perform 40 = .ok (.invokevirtual 59, 3) := by decide +kernel
theorem dX6_perform_43 : decode cX6_perform 43 = .ok (.ireturn, 1) := by decide +kernel
theorem dX6_perform_44 : decode cX6_perform 44 = .ok (.aload_n 2, 1) := by decide +kernel
theorem dX6_perform_45 : decode cX6_perform 45 = .ok (.aload_n 0, 1) := by decide +kernel
theorem dX6_perform_46 : decode cX6_perform 46 = .ok (.getfield 35, 3) := by decide +kernel
theorem dX6_perform_49 : decode cX6_perform 49 = .ok (.iload_n 1, 1) := by decide +kernel
theorem dX6_perform_50 : decode cX6_perform 50 = .ok (.iaload, 1) := by decide +kernel
theorem dX6_perform_51 : decode cX6_perform 51 = .ok (.iconst 1, 1) := by decide +kernel
theorem dX6_perform_52 : decode cX6_perform 52 = .ok (.invokevirtual 59, 3) := by decide +kernel
theorem dX6_perform_55 : decode cX6_perform 55 = .ok (.ireturn, 1) := by decide +kernel
theorem dX6_perform_56 : decode cX6_perform 56 = .ok (.aload_n 2, 1) := by decide +kernel
theorem dX6_perform_57 : decode cX6_perform 57 = .ok (.aload_n 0, 1) := by decide +kernel
theorem dX6_perform_58 : decode cX6_perform 58 = .ok (.getfield 32, 3) := by decide +kernel
theorem dX6_perform_61 : decode cX6_perform 61 = .ok (.iload_n 1, 1) := by decide +kernel
theorem dX6_perform_62 : decode cX6_perform 62 = .ok (.iaload, 1) := by decide +kernel
theorem dX6_perform_63 : decode cX6_perform 63 = .ok (.aload_n 0, 1) := by decide +kernel
theorem dX6_perform_64 : decode cX6_perform 64 = .ok (.getfield 35, 3) := by decide +kernel
theorem dX6_perform_67 : decode cX6_perform 67 = .ok (.iload_n 1, 1) := by decide +kernel
theorem dX6_perform_68 : decode cX6_perform 68 = .ok (.iaload, 1) := by decide +kernel
theorem dX6_perform_69 : decode cX6_perform 69 = .ok (.aload_n 0, 1) := by decide +kernel
theorem dX6_perform_70 : decode cX6_perform 70 = .ok (.getfield 29, 3) := by decide +kernel
theorem dX6_perform_73 : decode cX6_perform 73 = .ok (.iload_n 1, 1) := by decide +kernel
theorem dX6_perform_74 : decode cX6_perform 74 = .ok (.iaload, 1) := by decide +kernel
theorem dX6_perform_75 : decode cX6_perform 75 = .ok (.invokevirtual 65, 3) := by decide +kernel
theorem dX6_perform_78 : decode cX6_perform 78 = .ok (.ireturn, 1) := by decide +kernel
theorem dX6_perform_79 : decode cX6_perform 79 = .ok (.aload_n 2, 1) := by decide +kernel
theorem dX6_perform_80 : decode cX6_perform 80 = .ok (.aload_n 0, 1) := by decide +kernel
theorem dX6_perform_81 : decode cX6_perform 81 = .ok (.getfield 32, 3) := by decide +kernel
theorem dX6_perform_84 : decode cX6_perform 84 = .ok (.iload_n 1, 1) := by decide +kernel
theorem dX6_perform_85 : decode cX6_perform 85 = .ok (.iaload, 1) := by decide +kernel
theorem dX6_perform_86 : decode cX6_perform 86 = .ok (.aload_n 0, 1) := by decide +kernel
theorem dX6_perform_87 : decode cX6_perform 87 = .ok (.getfield 35, 3) := by decide +kernel
theorem dX6_perform_90 : decode cX6_perform 90 = .ok (.iload_n 1, 1) := by decide +kernel
theorem dX6_perform_91 : decode cX6_perform 91 = .ok (.iaload, 1) := by decide +kernel
theorem dX6_perform_92 : decode cX6_perform 92 = .ok (.aload_n 0, 1) := by decide +kernel
theorem dX6_perform_93 : decode cX6_perform 93 = .ok (.getfield 29, 3) := by decide +kernel
theorem dX6_perform_96 : decode cX6_perform 96 = .ok (.iload_n 1, 1) := by decide +kernel
theorem dX6_perform_97 : decode cX6_perform 97 = .ok (.iaload, 1) := by decide +kernel
theorem dX6_perform_98 : decode cX6_perform 98 = .ok (.invokevirtual 69, 3) := by decide +kernel
theorem dX6_perform_101 : decode cX6_perform 101 = .ok (.ireturn, 1) := by decide +kernel
theorem dX7_init_0 : decode cX7_init 0 = .ok (.aload_n 0, 1) := by decide +kernel
theorem dX7_init_1 : decode cX7_init 1 = .ok (.invokespecial 3, 3) := by decide +kernel
theorem dX7_init_4 : decode cX7_init 4 = .ok (.aload_n 0, 1) := by decide +kernel
theorem dX7_init_5 : decode cX7_init 5 = .ok (.new 9, 3) := by decide +kernel
theorem dX7_init_8 : decode cX7_init 8 = .ok (.dup, 1) := by decide +kernel
theorem dX7_init_9 : decode cX7_init 9 = .ok (.invokespecial 11, 3) := by decide +kernel
theorem dX7_init_12 : decode cX7_init 12 = .ok (.putfield 12, 3) := by decide +kernel
theorem dX7_init_15 : decode cX7_init 15 = .ok (.aload_n 0, 1) := by decide +kernel
theorem dX7_init_16 : decode cX7_init 16 = .ok (.new 9, 3) := by decide +kernel
theorem dX7_init_19 : decode cX7_init 19 = .ok (.dup, 1) := by decide +kernel
theorem dX7_init_20 : decode cX7_init 20 = .ok (.invokespecial 11, 3) := by decide +kernel
theorem dX7_init_23 : decode cX7_init 23 = .ok (.putfield 18, 3) := by decide +kernel
theorem dX7_init_26 : decode cX7_init 26 = .ok (.aload_n 0, 1) := by decide +kernel
theorem dX7_init_27 : decode cX7_init 27 = .ok (.new 9, 3) := by decide +kernel
theorem dX7_init_30 : decode cX7_init 30 = .ok (.dup, 1) := by decide +kernel
theorem dX7_init_31 : decode cX7_init 31 = .ok (.invokespecial 11, 3) := by decide +kernel
theorem dX7_init_34 : decode cX7_init 34 = .ok (.putfield 21, 3) := by decide +kernel
theorem dX7_init_37 : decode cX7_init 37 = .ok (.aload_n 0, 1) := by decide +kernel
theorem dX7_init_38 : decode cX7_init 38 = .ok (.iconst 0, 1) := by decide +kernel
theorem dX7_init_39 : decode cX7_init 39 = .ok (.putfield 24, 3) := by decide +kernel
theorem dX7_init_42 : decode cX7_init 42 = .ok (.aload_n 0, 1) := by decide +kernel
theorem dX7_init_43 : decode cX7_init 43 = .ok (.new 28, 3) := by decide +kernel
theorem dX7_init_46 : decode cX7_init 46 = .ok (.dup, 1) := by decide +kernel
theorem dX7_init_47 : decode cX7_init 47 = .ok (.invokespecial 30, 3) := by decide +kernel
theorem dX7_init_50 : decode cX7_init 50 = .ok (.putfield 31, 3) := by decide +kernel
theorem dX7_init_53 : decode cX7_init 53 = .ok (.aload_n 0, 1) := by decide +kernel
theorem dX7_init_54 : decode cX7_init 54 = .ok (.new 35, 3) := by decide +kernel
theorem dX7_init_57 : decode cX7_init 57 = .ok (.dup, 1) := by decide +kernel
theorem dX7_init_58 : decode cX7_init 58 = .ok (.invokespecial 37, 3) := by decide +kernel
theorem dX7_init_61 : decode cX7_init 61 = .ok (.putfield 38, 3) := by decide +kernel
theorem dX7_init_64 : decode cX7_init 64 = .ok (.aload_n 0, 1) := by decide +kernel
theorem dX7_init_65 : decode cX7_init 65 = .ok (.new 42, 3) := by decide +kernel
theorem dX7_init_68 : decode cX7_init 68 = .ok (.dup, 1) := by decide +kernel
theorem dX7_init_69 : decode cX7_init 69 = .ok (.invokespecial 44, 3) := by decide +kernel
theorem dX7_init_72 : decode cX7_init 72 = .ok (.putfield 45, 3) := by decide +kernel
theorem dX7_init_75 : decode cX7_init 75 = .ok (.aload_n 0, 1) := by decide +kernel
theorem dX7_init_76 : decode cX7_init 76 = .ok (.new 49, 3) := by decide +kernel
theorem dX7_init_79 : decode cX7_init 79 = .ok (.dup, 1) := by decide +kernel
theorem dX7_init_80 : decode cX7_init 80 = .ok (.invokespecial 51, 3) := by decide +kernel
theorem dX7_init_83 : decode cX7_init 83 = .ok (.putfield 52, 3) := by decide +kernel
theorem dX7_init_86 : decode cX7_init 86 = .ok (.aload_n 0, 1) := by decide +kernel
theorem dX7_init_87 : decode cX7_init 87 = .ok (.new 56, 3) := by decide +kernel
theorem dX7_init_90 : decode cX7_init 90 = .ok (.dup, 1) := by decide +kernel
theorem dX7_init_91 : decode cX7_init 91 = .ok (.invokespecial 58, 3) := by decide +kernel
theorem dX7_init_94 : decode cX7_init 94 = .ok (.putfield 59, 3) := by decide +kernel
theorem dX7_init_97 : decode cX7_init 97 = .ok (.aload_n 0, 1) := by decide +kernel
theorem dX7_init_98 : decode cX7_init 98 = .ok (.new 63, 3) := by decide +kernel
theorem dX7_init_101 : decode cX7_init 101 = .ok (.dup, 1) := by decide +kernel
theorem dX7_init_102 : decode cX7_init 102 = .ok (.invokespecial 65, 3) := by decide +kernel
theorem dX7_init_105 : decode cX7_init 105 = .ok (.putfield 66, 3) := by decide +kernel
theorem dX7_init_108 : decode cX7_init 108 = .ok (.return_, 1) := by decide +kernel
theorem dX7_thing_0 : decode cX7_thing 0 = .ok (.aload_n 0, 1) := by decide +kernel
theorem dX7_thing_1 : decode cX7_thing 1 = .ok (.getfield 12, 3) := by decide +kernel
theorem dX7_thing_4 : decode cX7_thing 4 = .ok (.iload_n 1, 1) := by decide +kernel
theorem dX7_thing_5 : decode cX7_thing 5 = .ok (.iload_n 2, 1) := by decide +kernel
theorem dX7_thing_6 : decode cX7_thing 6 = .ok (.invokevirtual 70, 3) := by decide +kernel
theorem dX7_thing_9 : decode cX7_thing 9 = .ok (.ireturn, 1) := by decide +kernel
theorem dX7_thingOf_0 : decode cX7_thingOf 0 = .ok (.aload_n 0, 1) := by decide +kernel
theorem dX7_thingOf_1 : decode cX7_thingOf 1 = .ok (.getfield 12, 3) := by decide +kernel
theorem dX7_thingOf_4 : decode cX7_thingOf 4 = .ok (.iload_n 1, 1) := by decide +kernel
theorem dX7_thingOf_5 : decode cX7_thingOf 5 = .ok (.invokevirtual 74, 3) := by decide +kernel
theorem dX7_thingOf_8 : decode cX7_thingOf 8 = .ok (.ifCond .ne 5, 3) := by decide +kernel
theorem dX7_thingOf_11 : decode cX7_thingOf 11 = .ok (.iconst (-1), 1) := by decide +kernel
theorem dX7_thingOf_12 : decode cX7_thingOf 12 = .ok (.ireturn, 1) := by decide +kernel
theorem dX7_thingOf_13 : decode cX7_thingOf 13 = .ok (.iload_n 2, 1) := by decide +kernel
theorem dX7_thingOf_14 : decode cX7_thingOf 14 = .ok (.tableswitch 94 0 5 #[38, 48, 58, 67, 76, 85], 38) := by decide +kernel
theorem dX7_thingOf_52 : decode cX7_thingOf 52 = .ok (.aload_n 0, 1) := by decide +kernel
theorem dX7_thingOf_53 : decode cX7_thingOf 53 = .ok (.getfield 12, 3) := by decide +kernel
theorem dX7_thingOf_56 : decode cX7_thingOf 56 = .ok (.getfield 78, 3) := by decide +kernel
theorem dX7_thingOf_59 : decode cX7_thingOf 59 = .ok (.iload_n 1, 1) := by decide +kernel
theorem dX7_thingOf_60 : decode cX7_thingOf 60 = .ok (.iaload, 1) := by decide +kernel
theorem dX7_thingOf_61 : decode cX7_thingOf 61 = .ok (.ireturn, 1) := by decide +kernel
theorem dX7_thingOf_62 : decode cX7_thingOf 62 = .ok (.aload_n 0, 1) := by decide +kernel
theorem dX7_thingOf_63 : decode cX7_thingOf 63 = .ok (.getfield 12, 3) := by decide +kernel
theorem dX7_thingOf_66 : decode cX7_thingOf 66 = .ok (.getfield 82, 3) := by decide +kernel
theorem dX7_thingOf_69 : decode cX7_thingOf 69 = .ok (.iload_n 1, 1) := by decide +kernel
theorem dX7_thingOf_70 : decode cX7_thingOf 70 = .ok (.iaload, 1) := by decide +kernel
theorem dX7_thingOf_71 : decode cX7_thingOf 71 = .ok (.ireturn, 1) := by decide +kernel
theorem dX7_thingOf_72 : decode cX7_thingOf 72 = .ok (.aload_n 0, 1) := by decide +kernel
theorem dX7_thingOf_73 : decode cX7_thingOf 73 = .ok (.getfield 12, 3) := by decide +kernel
theorem dX7_thingOf_76 : decode cX7_thingOf 76 = .ok (.iload_n 1, 1) := by decide +kernel
theorem dX7_thingOf_77 : decode cX7_thingOf 77 = .ok (.invokevirtual 85, 3) := by decide +kernel
theorem dX7_thingOf_80 : decode cX7_thingOf 80 = .ok (.ireturn, 1) := by decide +kernel
theorem dX7_thingOf_81 : decode cX7_thingOf 81 = .ok (.aload_n 0, 1) := by decide +kernel
theorem dX7_thingOf_82 : decode cX7_thingOf 82 = .ok (.getfield 12, 3) := by decide +kernel
theorem dX7_thingOf_85 : decode cX7_thingOf 85 = .ok (.iload_n 1, 1) := by decide +kernel
theorem dX7_thingOf_86 : decode cX7_thingOf 86 = .ok (.invokevirtual 89, 3) := by decide +kernel
theorem dX7_thingOf_89 : decode cX7_thingOf 89 = .ok (.ireturn, 1) := by decide +kernel
theorem dX7_thingOf_90 : decode cX7_thingOf 90 = .ok (.aload_n 0, 1) := by decide +kernel
theorem dX7_thingOf_91 : decode cX7_thingOf 91 = .ok (.getfield 12, 3) := by decide +kernel
theorem dX7_thingOf_94 : decode cX7_thingOf 94 = .ok (.iload_n 1, 1) := by decide +kernel
theorem dX7_thingOf_95 : decode cX7_thingOf 95 = .ok (.invokevirtual 92, 3) := by decide +kernel
theorem dX7_thingOf_98 : decode cX7_thingOf 98 = .ok (.ireturn, 1) := by decide +kernel
theorem dX7_thingOf_99 : decode cX7_thingOf 99 = .ok (.aload_n 0, 1) := by decide +kernel
theorem dX7_thingOf_100 : decode cX7_thingOf 100 = .ok (.getfield 12, 3) := by decide +kernel
theorem dX7_thingOf_103 : decode cX7_thingOf 103 = .ok (.iload_n 1, 1) := by decide +kernel
theorem dX7_thingOf_104 : decode cX7_thingOf 104 = .ok (.invokevirtual 95, 3) := by decide +kernel
theorem dX7_thingOf_107 : decode cX7_thingOf 107 = .ok (.ireturn, 1) := by decide +kernel
theorem dX7_thingOf_108 : decode cX7_thingOf 108 = .ok (.iconst (-1), 1) := by decide +kernel
theorem dX7_thingOf_109 : decode cX7_thingOf 109 = .ok (.ireturn, 1) := by decide +kernel
theorem dX7_ask_0 : decode cX7_ask 0 = .ok (.aload_n 0, 1) := by decide +kernel
theorem dX7_ask_1 : decode cX7_ask 1 = .ok (.getfield 12, 3) := by decide +kernel
theorem dX7_ask_4 : decode cX7_ask 4 = .ok (.iload_n 1, 1) := by decide +kernel
theorem dX7_ask_5 : decode cX7_ask 5 = .ok (.iload_n 2, 1) := by decide +kernel
theorem dX7_ask_6 : decode cX7_ask 6 = .ok (.iload_n 3, 1) := by decide +kernel
theorem dX7_ask_7 : decode cX7_ask 7 = .ok (.invokevirtual 98, 3) := by decide +kernel
theorem dX7_ask_10 : decode cX7_ask 10 = .ok (.ireturn, 1) := by decide +kernel
theorem dX7_give_0 : decode cX7_give 0 = .ok (.aload_n 0, 1) := by decide +kernel
theorem dX7_give_1 : decode cX7_give 1 = .ok (.getfield 12, 3) := by decide +kernel
theorem dX7_give_4 : decode cX7_give 4 = .ok (.iload_n 1, 1) := by decide +kernel
theorem dX7_give_5 : decode cX7_give 5 = .ok (.iload_n 2, 1) := by decide +kernel
theorem dX7_give_6 : decode cX7_give 6 = .ok (.iload_n 3, 1) := by decide +kernel
theorem dX7_give_7 : decode cX7_give 7 = .ok (.invokevirtual 102, 3) := by decide +kernel
theorem dX7_give_10 : decode cX7_give 10 = .ok (.ireturn, 1) := by decide +kernel
theorem dX7_leaves_0 : decode cX7_leaves 0 = .ok (.iload_n 1, 1) := by decide +kernel
theorem dX7_leaves_1 : decode cX7_leaves 1 = .ok (.invokestatic 105, 3) := by decide +kernel
theorem dX7_leaves_4 : decode cX7_leaves 4 = .ok (.ifCond .eq 14, 3) := by decide +kernel
theorem dX7_leaves_7 : decode cX7_leaves 7 = .ok (.aload_n 0, 1) := by decide +kernel
theorem dX7_leaves_8 : decode cX7_leaves 8 = .ok (.getfield 12, 3) := by decide +kernel
theorem dX7_leaves_11 : decode cX7_leaves 11 = .ok (.iload_n 1, 1) := by decide +kernel
theorem dX7_leaves_12 : decode cX7_leaves 12 = .ok (.invokevirtual 108, 3) := by decide +kernel
theorem dX7_leaves_15 : decode cX7_leaves 15 = .ok (.goto 4, 3) := by decide +kernel
theorem dX7_leaves_18 : decode cX7_leaves 18 = .ok (.iconst (-1), 1) := by decide +kernel
theorem dX7_leaves_19 : decode cX7_leaves 19 = .ok (.ireturn, 1) := by decide +kernel
theorem dX7_forgets_0 : decode cX7_forgets 0 = .ok (.iload_n 1, 1) := by decide +kernel
theorem dX7_forgets_1 : decode cX7_forgets 1 = .ok (.invokestatic 105, 3) := by decide +kernel
theorem dX7_forgets_4 : decode cX7_forgets 4 = .ok (.ifCond .ne 5, 3) := by decide +kernel
theorem dX7_forgets_7 : decode cX7_forgets 7 = .ok (.iconst (-1), 1) := by decide +kernel
theorem dX7_forgets_8 : decode cX7_forgets 8 = .ok (.ireturn, 1) := by decide +kernel
theorem dX7_forgets_9 : decode cX7_forgets 9 = .ok (.aload_n 0, 1) := by decide +kernel
theorem dX7_forgets_10 : decode cX7_forgets 10 = .ok (.getfield 12, 3) := by decide +kernel
theorem dX7_forgets_13 : decode cX7_forgets 13 = .ok (.iload_n 1, 1) := by decide +kernel
theorem dX7_forgets_14 : decode cX7_forgets 14 = .ok (.invokevirtual 111, 3) := by decide +kernel
theorem dX7_forgets_17 : decode cX7_forgets 17 = .ok (.ifCond .ne 6, 3) := by decide +kernel
theorem dX7_forgets_20 : decode cX7_forgets 20 = .ok (.bipush (-5), 2) := by decide +kernel
theorem dX7_forgets_22 : decode cX7_forgets 22 = .ok (.ireturn, 1) := by decide +kernel
theorem dX7_forgets_23 : decode cX7_forgets 23 = .ok (.aload_n 0, 1) := by decide +kernel
theorem dX7_forgets_24 : decode cX7_forgets 24 = .ok (.getfield 12, 3) := by decide +kernel
theorem dX7_forgets_27 : decode cX7_forgets 27 = .ok (.iload_n 1, 1) := by decide +kernel
theorem dX7_forgets_28 : decode cX7_forgets 28 = .ok (.invokevirtual 114, 3) := by decide +kernel
theorem dX7_forgets_31 : decode cX7_forgets 31 = .ok (.aload_n 0, 1) := by decide +kernel
theorem dX7_forgets_32 : decode cX7_forgets 32 = .ok (.getfield 12, 3) := by decide +kernel
theorem dX7_forgets_35 : decode cX7_forgets 35 = .ok (.invokevirtual 118, 3) := by decide +kernel
theorem dX7_forgets_38 : decode cX7_forgets 38 = .ok (.ireturn, 1) := by decide +kernel
theorem dX7_breaks_0 : decode cX7_breaks 0 = .ok (.aload_n 0, 1) := by decide +kernel
theorem dX7_breaks_1 : decode cX7_breaks 1 = .ok (.getfield 12, 3) := by decide +kernel
theorem dX7_breaks_4 : decode cX7_breaks 4 = .ok (.aload_n 0, 1) := by decide +kernel
theorem dX7_breaks_5 : decode cX7_breaks 5 = .ok (.getfield 12, 3) := by decide +kernel
theorem dX7_breaks_8 : decode cX7_breaks 8 = .ok (.invokevirtual 122, 3) := by decide +kernel
theorem dX7_breaks_11 : decode cX7_breaks 11 = .ok (.invokevirtual 125, 3) := by decide +kernel
theorem dX7_breaks_14 : decode cX7_breaks 14 = .ok (.istore_n 1, 1) := by decide +kernel
theorem dX7_breaks_15 : decode cX7_breaks 15 = .ok (.iload_n 1, 1) := by decide +kernel
theorem dX7_breaks_16 : decode cX7_breaks 16 = .ok (.ifCond .ge 6, 3) := by decide +kernel
theorem dX7_breaks_19 : decode cX7_breaks 19 = .ok (.bipush (-2), 2) := by decide +kernel
theorem dX7_breaks_21 : decode cX7_breaks 21 = .ok (.ireturn, 1) := by decide +kernel
theorem dX7_breaks_22 : decode cX7_breaks 22 = .ok (.aload_n 0, 1) := by decide +kernel
theorem dX7_breaks_23 : decode cX7_breaks 23 = .ok (.getfield 12, 3) := by decide +kernel
theorem dX7_breaks_26 : decode cX7_breaks 26 = .ok (.iload_n 1, 1) := by decide +kernel
theorem dX7_breaks_27 : decode cX7_breaks 27 = .ok (.invokevirtual 108, 3) := by decide +kernel
theorem dX7_breaks_30 : decode cX7_breaks 30 = .ok (.pop, 1) := by decide +kernel
theorem dX7_breaks_31 : decode cX7_breaks 31 = .ok (.iload_n 1, 1) := by decide +kernel
theorem dX7_breaks_32 : decode cX7_breaks 32 = .ok (.ireturn, 1) := by decide +kernel
theorem dX7_held_0 : decode cX7_held 0 = .ok (.iload_n 1, 1) := by decide +kernel
theorem dX7_held_1 : decode cX7_held 1 = .ok (.invokestatic 105, 3) := by decide +kernel
theorem dX7_held_4 : decode cX7_held 4 = .ok (.ifCond .eq 21, 3) := by decide +kernel
theorem dX7_held_7 : decode cX7_held 7 = .ok (.aload_n 0, 1) := by decide +kernel
theorem dX7_held_8 : decode cX7_held 8 = .ok (.getfield 12, 3) := by decide +kernel
theorem dX7_held_11 : decode cX7_held 11 = .ok (.iload_n 2, 1) := by decide +kernel
theorem dX7_held_12 : decode cX7_held 12 = .ok (.invokevirtual 74, 3) := by decide +kernel
theorem dX7_held_15 : decode cX7_held 15 = .ok (.ifCond .eq 10, 3) := by decide +kernel
theorem dX7_held_18 : decode cX7_held 18 = .ok (.iload_n 3, 1) := by decide +kernel
theorem dX7_held_19 : decode cX7_held 19 = .ok (.invokestatic 128, 3) := by decide +kernel
theorem dX7_held_22 : decode cX7_held 22 = .ok (.ifCond .ne 5, 3) := by decide +kernel
theorem dX7_held_25 : decode cX7_held 25 = .ok (.iconst (-1), 1) := by decide +kernel
theorem dX7_held_26 : decode cX7_held 26 = .ok (.ireturn, 1) := by decide +kernel
theorem dX7_held_27 : decode cX7_held 27 = .ok (.aload_n 0, 1) := by decide +kernel
theorem dX7_held_28 : decode cX7_held 28 = .ok (.getfield 12, 3) := by decide +kernel
theorem dX7_held_31 : decode cX7_held 31 = .ok (.getfield 131, 3) := by decide +kernel
theorem dX7_held_34 : decode cX7_held 34 = .ok (.iload_n 1, 1) := by decide +kernel
theorem dX7_held_35 : decode cX7_held 35 = .ok (.iload_n 2, 1) := by decide +kernel
theorem dX7_held_36 : decode cX7_held 36 = .ok (.iload_n 3, 1) := by decide +kernel
theorem dX7_held_37 : decode cX7_held 37 = .ok (.invokestatic 134, 3) := by decide +kernel
theorem dX7_held_40 : decode cX7_held 40 = .ok (.iaload, 1) := by decide +kernel
theorem dX7_held_41 : decode cX7_held 41 = .ok (.ireturn, 1) := by decide +kernel
theorem dX7_holders_0 : decode cX7_holders 0 = .ok (.aload_n 0, 1) := by decide +kernel
theorem dX7_holders_1 : decode cX7_holders 1 = .ok (.getfield 12, 3) := by decide +kernel
theorem dX7_holders_4 : decode cX7_holders 4 = .ok (.iload_n 1, 1) := by decide +kernel
theorem dX7_holders_5 : decode cX7_holders 5 = .ok (.invokevirtual 74, 3) := by decide +kernel
theorem dX7_holders_8 : decode cX7_holders 8 = .ok (.ifCond .ne 5, 3) := by decide +kernel
theorem dX7_holders_11 : decode cX7_holders 11 = .ok (.iconst (-1), 1) := by decide +kernel
theorem dX7_holders_12 : decode cX7_holders 12 = .ok (.ireturn, 1) := by decide +kernel
theorem dX7_holders_13 : decode cX7_holders 13 = .ok (.iload_n 2, 1) := by decide +kernel
theorem dX7_holders_14 : decode cX7_holders 14 = .ok (.ifCond .ne 12, 3) := by decide +kernel
theorem dX7_holders_17 : decode cX7_holders 17 = .ok (.aload_n 0, 1) := by decide +kernel
theorem dX7_holders_18 : decode cX7_holders 18 = .ok (.getfield 12, 3) := by decide +kernel
theorem dX7_holders_21 : decode cX7_holders 21 = .ok (.iload_n 1, 1) := by decide +kernel
theorem dX7_holders_22 : decode cX7_holders 22 = .ok (.invokevirtual 137, 3) := by decide +kernel
theorem dX7_holders_25 : decode cX7_holders 25 = .ok (.ireturn, 1) := by decide +kernel
theorem dX7_holders_26 : decode cX7_holders 26 = .ok (.iload_n 2, 1) := by decide +kernel
theorem dX7_holders_27 : decode cX7_holders 27 = .ok (.invokestatic 128, 3) := by decide +kernel
theorem dX7_holders_30 : decode cX7_holders 30 = .ok (.ifCond .eq 19, 3) := by decide +kernel
theorem dX7_holders_33 : decode cX7_holders 33 = .ok (.aload_n 0, 1) := by decide +kernel
theorem dX7_holders_34 : decode cX7_holders 34 = .ok (.getfield 12, 3) := by decide +kernel
theorem dX7_holders_37 : decode cX7_holders 37 = .ok (.getfield 140, 3) := by decide +kernel
theorem dX7_holders_40 : decode cX7_holders 40 = .ok (.iload_n 1, 1) := by decide +kernel
theorem dX7_holders_41 : decode cX7_holders 41 = .ok (.iload_n 2, 1) := by decide +kernel
theorem dX7_holders_42 : decode cX7_holders 42 = .ok (.invokestatic 143, 3) := by decide +kernel
theorem dX7_holders_45 : decode cX7_holders 45 = .ok (.iaload, 1) := by decide +kernel
theorem dX7_holders_46 : decode cX7_holders 46 = .ok (.goto 4, 3) := by decide +kernel
theorem dX7_holders_49 : decode cX7_holders 49 = .ok (.iconst (-1), 1) := by decide +kernel
theorem dX7_holders_50 : decode cX7_holders 50 = .ok (.ireturn, 1) := by decide +kernel
theorem dX7_waits_0 : decode cX7_waits 0 = .ok (.iload_n 1, 1) := by decide +kernel
theorem dX7_waits_1 : decode cX7_waits 1 = .ok (.invokestatic 105, 3) := by decide +kernel
theorem dX7_waits_4 : decode cX7_waits 4 = .ok (.ifCond .ne 5, 3) := by decide +kernel
theorem dX7_waits_7 : decode cX7_waits 7 = .ok (.iconst (-1), 1) := by decide +kernel
theorem dX7_waits_8 : decode cX7_waits 8 = .ok (.ireturn, 1) := by decide +kernel
theorem dX7_waits_9 : decode cX7_waits 9 = .ok (.aload_n 0, 1) := by decide +kernel
theorem dX7_waits_10 : decode cX7_waits 10 = .ok (.getfield 12, 3) := by decide +kernel
theorem dX7_waits_13 : decode cX7_waits 13 = .ok (.iload_n 1, 1) := by decide +kernel
theorem dX7_waits_14 : decode cX7_waits 14 = .ok (.invokevirtual 111, 3) := by decide +kernel
theorem dX7_waits_17 : decode cX7_waits 17 = .ok (.ifCond .ne 6, 3) := by decide +kernel
theorem dX7_waits_20 : decode cX7_waits 20 = .ok (.bipush (-2), 2) := by decide +kernel
theorem dX7_waits_22 : decode cX7_waits 22 = .ok (.ireturn, 1) := by decide +kernel
theorem dX7_waits_23 : decode cX7_waits 23 = .ok (.aload_n 0, 1) := by decide +kernel
theorem dX7_waits_24 : decode cX7_waits 24 = .ok (.getfield 12, 3) := by decide +kernel
theorem dX7_waits_27 : decode cX7_waits 27 = .ok (.getfield 146, 3) := by decide +kernel
theorem dX7_waits_30 : decode cX7_waits 30 = .ok (.iload_n 1, 1) := by decide +kernel
theorem dX7_waits_31 : decode cX7_waits 31 = .ok (.iaload, 1) := by decide +kernel
theorem dX7_waits_32 : decode cX7_waits 32 = .ok (.istore_n 2, 1) := by decide +kernel
theorem dX7_waits_33 : decode cX7_waits 33 = .ok (.bipush 100, 2) := by decide +kernel
theorem dX7_waits_35 : decode cX7_waits 35 = .ok (.iload_n 2, 1) := by decide +kernel
theorem dX7_waits_36 : decode cX7_waits 36 = .ok (.imul, 1) := by decide +kernel
theorem dX7_waits_37 : decode cX7_waits 37 = .ok (.bipush 10, 2) := by decide +kernel
theorem dX7_waits_39 : decode cX7_waits 39 = .ok (.aload_n 0, 1) := by decide +kernel
theorem dX7_waits_40 : decode cX7_waits 40 = .ok (.getfield 12, 3) := by decide +kernel
theorem dX7_waits_43 : decode cX7_waits 43 = .ok (.getfield 149, 3) := by decide +kernel
theorem dX7_waits_46 : decode cX7_waits 46 = .ok (.iload_n 1, 1) := by decide +kernel
theorem dX7_waits_47 : decode cX7_waits 47 = .ok (.iaload, 1) := by decide +kernel
theorem dX7_waits_48 : decode cX7_waits 48 = .ok (.imul, 1) := by decide +kernel
theorem dX7_waits_49 : decode cX7_waits 49 = .ok (.iadd, 1) := by decide +kernel
theorem dX7_waits_50 : decode cX7_waits 50 = .ok (.aload_n 0, 1) := by decide +kernel
theorem dX7_waits_51 : decode cX7_waits 51 = .ok (.getfield 12, 3) := by decide +kernel
theorem dX7_waits_54 : decode cX7_waits 54 = .ok (.iload_n 1, 1) := by decide +kernel
theorem dX7_waits_55 : decode cX7_waits 55 = .ok (.iload_n 2, 1) := by decide +kernel
theorem dX7_waits_56 : decode cX7_waits 56 = .ok (.invokevirtual 152, 3) := by decide +kernel
theorem dX7_waits_59 : decode cX7_waits 59 = .ok (.ifCond .eq 7, 3) := by decide +kernel
theorem dX7_waits_62 : decode cX7_waits 62 = .ok (.iconst 1, 1) := by decide +kernel
theorem dX7_waits_63 : decode cX7_waits 63 = .ok (.goto 4, 3) := by decide +kernel
theorem dX7_waits_66 : decode cX7_waits 66 = .ok (.iconst 0, 1) := by decide +kernel
theorem dX7_waits_67 : decode cX7_waits 67 = .ok (.iadd, 1) := by decide +kernel
theorem dX7_waits_68 : decode cX7_waits 68 = .ok (.ireturn, 1) := by decide +kernel
theorem dX7_line_0 : decode cX7_line 0 = .ok (.iload_n 1, 1) := by decide +kernel
theorem dX7_line_1 : decode cX7_line 1 = .ok (.iconst (-1), 1) := by decide +kernel
theorem dX7_line_2 : decode cX7_line 2 = .ok (.if_icmp .ge 5, 3) := by decide +kernel
theorem dX7_line_5 : decode cX7_line 5 = .ok (.iconst (-1), 1) := by decide +kernel
theorem dX7_line_6 : decode cX7_line 6 = .ok (.ireturn, 1) := by decide +kernel
theorem dX7_line_7 : decode cX7_line 7 = .ok (.iload_n 1, 1) := by decide +kernel
theorem dX7_line_8 : decode cX7_line 8 = .ok (.iconst (-1), 1) := by decide +kernel
theorem dX7_line_9 : decode cX7_line 9 = .ok (.if_icmp .ne 11, 3) := by decide +kernel
theorem dX7_line_12 : decode cX7_line 12 = .ok (.aload_n 0, 1) := by decide +kernel
theorem dX7_line_13 : decode cX7_line 13 = .ok (.getfield 12, 3) := by decide +kernel
theorem dX7_line_16 : decode cX7_line 16 = .ok (.getfield 156, 3) := by decide +kernel
theorem dX7_line_19 : decode cX7_line 19 = .ok (.ireturn, 1) := by decide +kernel
theorem dX7_line_20 : decode cX7_line 20 = .ok (.iload_n 1, 1) := by decide +kernel
theorem dX7_line_21 : decode cX7_line 21 = .ok (.aload_n 0, 1) := by decide +kernel
theorem dX7_line_22 : decode cX7_line 22 = .ok (.getfield 12, 3) := by decide +kernel
theorem dX7_line_25 : decode cX7_line 25 = .ok (.getfield 156, 3) := by decide +kernel
theorem dX7_line_28 : decode cX7_line 28 = .ok (.if_icmp .ge 15, 3) := by decide +kernel
theorem dX7_line_31 : decode cX7_line 31 = .ok (.aload_n 0, 1) := by decide +kernel
theorem dX7_line_32 : decode cX7_line 32 = .ok (.getfield 12, 3) := by decide +kernel
theorem dX7_line_35 : decode cX7_line 35 = .ok (.getfield 160, 3) := by decide +kernel
theorem dX7_line_38 : decode cX7_line 38 = .ok (.iload_n 1, 1) := by decide +kernel
theorem dX7_line_39 : decode cX7_line 39 = .ok (.iaload, 1) := by decide +kernel
theorem dX7_line_40 : decode cX7_line 40 = .ok (.goto 5, 3) := by decide +kernel
theorem dX7_line_43 : decode cX7_line 43 = .ok (.bipush (-2), 2) := by decide +kernel
theorem dX7_line_45 : decode cX7_line 45 = .ok (.ireturn, 1) := by decide +kernel
theorem dX7_waitsFor_0 : decode cX7_waitsFor 0 = .ok (.iload_n 1, 1) := by decide +kernel
theorem dX7_waitsFor_1 : decode cX7_waitsFor 1 = .ok (.invokestatic 105, 3) := by decide +kernel
theorem dX7_waitsFor_4 : decode cX7_waitsFor 4 = .ok (.ifCond .eq 14, 3) := by decide +kernel
theorem dX7_waitsFor_7 : decode cX7_waitsFor 7 = .ok (.aload_n 0, 1) := by decide +kernel
theorem dX7_waitsFor_8 : decode cX7_waitsFor 8 = .ok (.getfield 12, 3) := by decide +kernel
theorem dX7_waitsFor_11 : decode cX7_waitsFor 11 = .ok (.iload_n 1, 1) := by decide +kernel
theorem dX7_waitsFor_12 : decode cX7_waitsFor 12 = .ok (.invokevirtual 163, 3) := by decide +kernel
theorem dX7_waitsFor_15 : decode cX7_waitsFor 15 = .ok (.goto 4, 3) := by decide +kernel
theorem dX7_waitsFor_18 : decode cX7_waitsFor 18 = .ok (.iconst (-1), 1) := by decide +kernel
theorem dX7_waitsFor_19 : decode cX7_waitsFor 19 = .ok (.ireturn, 1) := by decide +kernel
theorem dX7_ring_0 : decode cX7_ring 0 = .ok (.iload_n 1, 1) := by decide +kernel
theorem dX7_ring_1 : decode cX7_ring 1 = .ok (.ifCond .lt 8, 3) := by decide +kernel
theorem dX7_ring_4 : decode cX7_ring 4 = .ok (.iload_n 1, 1) := by decide +kernel
theorem dX7_ring_5 : decode cX7_ring 5 = .ok (.iconst 2, 1) := by decide +kernel
theorem dX7_ring_6 : decode cX7_ring 6 = .ok (.if_icmp .le 5, 3) := by decide +kernel
theorem dX7_ring_9 : decode cX7_ring 9 = .ok (.iconst (-1), 1) := by decide +kernel
theorem dX7_ring_10 : decode cX7_ring 10 = .ok (.ireturn, 1) := by decide +kernel
theorem dX7_ring_11 : decode cX7_ring 11 = .ok (.aload_n 0, 1) := by decide +kernel
theorem dX7_ring_12 : decode cX7_ring 12 = .ok (.getfield 12, 3) := by decide +kernel
theorem dX7_ring_15 : decode cX7_ring 15 = .ok (.invokevirtual 122, 3) := by decide +kernel
theorem dX7_ring_18 : decode cX7_ring 18 = .ok (.istore_n 2, 1) := by decide +kernel
theorem dX7_ring_19 : decode cX7_ring 19 = .ok (.iload_n 1, 1) := by decide +kernel
theorem dX7_ring_20 : decode cX7_ring 20 = .ok (.ifCond .ne 5, 3) := by decide +kernel
theorem dX7_ring_23 : decode cX7_ring 23 = .ok (.iload_n 2, 1) := by decide +kernel
theorem dX7_ring_24 : decode cX7_ring 24 = .ok (.ireturn, 1) := by decide +kernel
theorem dX7_ring_25 : decode cX7_ring 25 = .ok (.aload_n 0, 1) := by decide +kernel
theorem dX7_ring_26 : decode cX7_ring 26 = .ok (.getfield 12, 3) := by decide +kernel
theorem dX7_ring_29 : decode cX7_ring 29 = .ok (.iload_n 2, 1) := by decide +kernel
theorem dX7_ring_30 : decode cX7_ring 30 = .ok (.invokevirtual 125, 3) := by decide +kernel
theorem dX7_ring_33 : decode cX7_ring 33 = .ok (.istore_n 3, 1) := by decide +kernel
theorem dX7_ring_34 : decode cX7_ring 34 = .ok (.iload_n 3, 1) := by decide +kernel
theorem dX7_ring_35 : decode cX7_ring 35 = .ok (.ifCond .ge 6, 3) := by decide +kernel
theorem dX7_ring_38 : decode cX7_ring 38 = .ok (.bipush (-2), 2) := by decide +kernel
theorem dX7_ring_40 : decode cX7_ring 40 = .ok (.ireturn, 1) := by decide +kernel
theorem dX7_ring_41 : decode cX7_ring 41 = .ok (.iload_n 1, 1) := by decide +kernel
theorem dX7_ring_42 : decode cX7_ring 42 = .ok (.iconst 1, 1) := by decide +kernel
theorem dX7_ring_43 : decode cX7_ring 43 = .ok (.if_icmp .ne 7, 3) := by decide +kernel
theorem dX7_ring_46 : decode cX7_ring 46 = .ok (.iload_n 3, 1) := by decide +kernel
theorem dX7_ring_47 : decode cX7_ring 47 = .ok (.goto 11, 3) := by decide +kernel
theorem dX7_ring_50 : decode cX7_ring 50 = .ok (.aload_n 0, 1) := by decide +kernel
theorem dX7_ring_51 : decode cX7_ring 51 = .ok (.getfield 12, 3) := by decide +kernel
theorem dX7_ring_54 : decode cX7_ring 54 = .ok (.iload_n 3, 1) := by decide +kernel
theorem dX7_ring_55 : decode cX7_ring 55 = .ok (.invokevirtual 166, 3) := by decide +kernel
theorem dX7_ring_58 : decode cX7_ring 58 = .ok (.ireturn, 1) := by decide +kernel
theorem dX7_count_0 : decode cX7_count 0 = .ok (.iload_n 1, 1) := by decide +kernel
theorem dX7_count_1 : decode cX7_count 1 = .ok (.tableswitch 99 0 6 #[43, 51, 59, 67, 75, 83, 91], 43) := by decide +kernel
theorem dX7_count_44 : decode cX7_count 44 = .ok (.aload_n 0, 1) := by decide +kernel
theorem dX7_count_45 : decode cX7_count 45 = .ok (.getfield 12, 3) := by decide +kernel
theorem dX7_count_48 : decode cX7_count 48 = .ok (.getfield 169, 3) := by decide +kernel
theorem dX7_count_51 : decode cX7_count 51 = .ok (.ireturn, 1) := by decide +kernel
theorem dX7_count_52 : decode cX7_count 52 = .ok (.aload_n 0, 1) := by decide +kernel
theorem dX7_count_53 : decode cX7_count 53 = .ok (.getfield 12, 3) := by decide +kernel
theorem dX7_count_56 : decode cX7_count 56 = .ok (.getfield 156, 3) := by decide +kernel
theorem dX7_count_59 : decode cX7_count 59 = .ok (.ireturn, 1) := by decide +kernel
theorem dX7_count_60 : decode cX7_count 60 = .ok (.aload_n 0, 1) := by decide +kernel
theorem dX7_count_61 : decode cX7_count 61 = .ok (.getfield 12, 3) := by decide +kernel
theorem dX7_count_64 : decode cX7_count 64 = .ok (.invokevirtual 172, 3) := by decide +kernel
theorem dX7_count_67 : decode cX7_count 67 = .ok (.ireturn, 1) := by decide +kernel
theorem dX7_count_68 : decode cX7_count 68 = .ok (.aload_n 0, 1) := by decide +kernel
theorem dX7_count_69 : decode cX7_count 69 = .ok (.getfield 12, 3) := by decide +kernel
theorem dX7_count_72 : decode cX7_count 72 = .ok (.getfield 175, 3) := by decide +kernel
theorem dX7_count_75 : decode cX7_count 75 = .ok (.ireturn, 1) := by decide +kernel
theorem dX7_count_76 : decode cX7_count 76 = .ok (.aload_n 0, 1) := by decide +kernel
theorem dX7_count_77 : decode cX7_count 77 = .ok (.getfield 52, 3) := by decide +kernel
theorem dX7_count_80 : decode cX7_count 80 = .ok (.getfield 178, 3) := by decide +kernel
theorem dX7_count_83 : decode cX7_count 83 = .ok (.ireturn, 1) := by decide +kernel
theorem dX7_count_84 : decode cX7_count 84 = .ok (.aload_n 0, 1) := by decide +kernel
theorem dX7_count_85 : decode cX7_count 85 = .ok (.getfield 59, 3) := by decide +kernel
theorem dX7_count_88 : decode cX7_count 88 = .ok (.getfield 181, 3) := by decide +kernel
theorem dX7_count_91 : decode cX7_count 91 = .ok (.ireturn, 1) := by decide +kernel
theorem dX7_count_92 : decode cX7_count 92 = .ok (.aload_n 0, 1) := by decide +kernel
theorem dX7_count_93 : decode cX7_count 93 = .ok (.getfield 12, 3) := by decide +kernel
theorem dX7_count_96 : decode cX7_count 96 = .ok (.getfield 182, 3) := by decide +kernel
theorem dX7_count_99 : decode cX7_count 99 = .ok (.ireturn, 1) := by decide +kernel
theorem dX7_count_100 : decode cX7_count 100 = .ok (.iconst (-1), 1) := by decide +kernel
theorem dX7_count_101 : decode cX7_count 101 = .ok (.ireturn, 1) := by decide +kernel
theorem dX7_would_0 : decode cX7_would 0 = .ok (.aload_n 0, 1) := by decide +kernel
theorem dX7_would_1 : decode cX7_would 1 = .ok (.getfield 12, 3) := by decide +kernel
theorem dX7_would_4 : decode cX7_would 4 = .ok (.iload_n 1, 1) := by decide +kernel
theorem dX7_would_5 : decode cX7_would 5 = .ok (.iload_n 2, 1) := by decide +kernel
theorem dX7_would_6 : decode cX7_would 6 = .ok (.iload_n 3, 1) := by decide +kernel
theorem dX7_would_7 : decode cX7_would 7 = .ok (.invokevirtual 185, 3) := by decide +kernel
theorem dX7_would_10 : decode cX7_would 10 = .ok (.ifCond .ne 5, 3) := by decide +kernel
theorem dX7_would_13 : decode cX7_would 13 = .ok (.iconst (-1), 1) := by decide +kernel
theorem dX7_would_14 : decode cX7_would 14 = .ok (.ireturn, 1) := by decide +kernel
theorem dX7_would_15 : decode cX7_would 15 = .ok (.aload_n 0, 1) := by decide +kernel
theorem dX7_would_16 : decode cX7_would 16 = .ok (.getfield 12, 3) := by decide +kernel
theorem dX7_would_19 : decode cX7_would 19 = .ok (.iload_n 1, 1) := by decide +kernel
theorem dX7_would_20 : decode cX7_would 20 = .ok (.invokevirtual 111, 3) := by decide +kernel
theorem dX7_would_23 : decode cX7_would 23 = .ok (.ifCond .eq 6, 3) := by decide +kernel
theorem dX7_would_26 : decode cX7_would 26 = .ok (.bipush (-5), 2) := by decide +kernel
theorem dX7_would_28 : decode cX7_would 28 = .ok (.ireturn, 1) := by decide +kernel
theorem dX7_would_29 : decode cX7_would 29 = .ok (.aload_n 0, 1) := by decide +kernel
theorem dX7_would_30 : decode cX7_would 30 = .ok (.getfield 12, 3) := by decide +kernel
theorem dX7_would_33 : decode cX7_would 33 = .ok (.iload_n 1, 1) := by decide +kernel
theorem dX7_would_34 : decode cX7_would 34 = .ok (.iload_n 2, 1) := by decide +kernel
theorem dX7_would_35 : decode cX7_would 35 = .ok (.iload_n 3, 1) := by decide +kernel
theorem dX7_would_36 : decode cX7_would 36 = .ok (.invokevirtual 189, 3) := by decide +kernel
theorem dX7_would_39 : decode cX7_would 39 = .ok (.ifCond .ne 5, 3) := by decide +kernel
theorem dX7_would_42 : decode cX7_would 42 = .ok (.iconst 1, 1) := by decide +kernel
theorem dX7_would_43 : decode cX7_would 43 = .ok (.ireturn, 1) := by decide +kernel
theorem dX7_would_44 : decode cX7_would 44 = .ok (.aload_n 0, 1) := by decide +kernel
theorem dX7_would_45 : decode cX7_would 45 = .ok (.getfield 18, 3) := by decide +kernel
theorem dX7_would_48 : decode cX7_would 48 = .ok (.aload_n 0, 1) := by decide +kernel
theorem dX7_would_49 : decode cX7_would 49 = .ok (.getfield 12, 3) := by decide +kernel
theorem dX7_would_52 : decode cX7_would 52 = .ok (.invokevirtual 192, 3) := by decide +kernel
theorem dX7_would_55 : decode cX7_would 55 = .ok (.aload_n 0, 1) := by decide +kernel
theorem dX7_would_56 : decode cX7_would 56 = .ok (.getfield 18, 3) := by decide +kernel
theorem dX7_would_59 : decode cX7_would 59 = .ok (.iload_n 1, 1) := by decide +kernel
theorem dX7_would_60 : decode cX7_would 60 = .ok (.iload_n 2, 1) := by decide +kernel
theorem dX7_would_61 : decode cX7_would 61 = .ok (.iload_n 3, 1) := by decide +kernel
theorem dX7_would_62 : decode cX7_would 62 = .ok (.invokevirtual 196, 3) := by decide +kernel
theorem dX7_would_65 : decode cX7_would 65 = .ok (.aload_n 0, 1) := by decide +kernel
theorem dX7_would_66 : decode cX7_would 66 = .ok (.getfield 18, 3) := by decide +kernel
theorem dX7_would_69 : decode cX7_would 69 = .ok (.invokevirtual 122, 3) := by decide +kernel
theorem dX7_would_72 : decode cX7_would 72 = .ok (.iload_n 1, 1) := by decide +kernel
theorem dX7_would_73 : decode cX7_would 73 = .ok (.invokestatic 200, 3) := by decide +kernel
theorem dX7_would_76 : decode cX7_would 76 = .ok (.ifCond .eq 7, 3) := by decide +kernel
theorem dX7_would_79 : decode cX7_would 79 = .ok (.iconst 2, 1) := by decide +kernel
theorem dX7_would_80 : decode cX7_would 80 = .ok (.goto 4, 3) := by decide +kernel
theorem dX7_would_83 : decode cX7_would 83 = .ok (.iconst 0, 1) := by decide +kernel
theorem dX7_would_84 : decode cX7_would 84 = .ok (.ireturn, 1) := by decide +kernel
theorem dX7_needs_0 : decode cX7_needs 0 = .ok (.aload_n 0, 1) := by decide +kernel
theorem dX7_needs_1 : decode cX7_needs 1 = .ok (.getfield 12, 3) := by decide +kernel
theorem dX7_needs_4 : decode cX7_needs 4 = .ok (.iload_n 1, 1) := by decide +kernel
theorem dX7_needs_5 : decode cX7_needs 5 = .ok (.iload_n 2, 1) := by decide +kernel
theorem dX7_needs_6 : decode cX7_needs 6 = .ok (.iload_n 3, 1) := by decide +kernel
theorem dX7_needs_7 : decode cX7_needs 7 = .ok (.invokevirtual 185, 3) := by decide +kernel
theorem dX7_needs_10 : decode cX7_needs 10 = .ok (.ifCond .ne 5, 3) := by decide +kernel
theorem dX7_needs_13 : decode cX7_needs 13 = .ok (.iconst (-1), 1) := by decide +kernel
theorem dX7_needs_14 : decode cX7_needs 14 = .ok (.ireturn, 1) := by decide +kernel
theorem dX7_needs_15 : decode cX7_needs 15 = .ok (.aload_n 0, 1) := by decide +kernel
theorem dX7_needs_16 : decode cX7_needs 16 = .ok (.getfield 12, 3) := by decide +kernel
theorem dX7_needs_19 : decode cX7_needs 19 = .ok (.iload_n 1, 1) := by decide +kernel
theorem dX7_needs_20 : decode cX7_needs 20 = .ok (.invokevirtual 111, 3) := by decide +kernel
theorem dX7_needs_23 : decode cX7_needs 23 = .ok (.ifCond .eq 6, 3) := by decide +kernel
theorem dX7_needs_26 : decode cX7_needs 26 = .ok (.bipush (-5), 2) := by decide +kernel
theorem dX7_needs_28 : decode cX7_needs 28 = .ok (.ireturn, 1) := by decide +kernel
theorem dX7_needs_29 : decode cX7_needs 29 = .ok (.aload_n 0, 1) := by decide +kernel
theorem dX7_needs_30 : decode cX7_needs 30 = .ok (.getfield 12, 3) := by decide +kernel
theorem dX7_needs_33 : decode cX7_needs 33 = .ok (.iload_n 1, 1) := by decide +kernel
theorem dX7_needs_34 : decode cX7_needs 34 = .ok (.iload_n 2, 1) := by decide +kernel
theorem dX7_needs_35 : decode cX7_needs 35 = .ok (.iload_n 3, 1) := by decide +kernel
theorem dX7_needs_36 : decode cX7_needs 36 = .ok (.invokevirtual 189, 3) := by decide +kernel
theorem dX7_needs_39 : decode cX7_needs 39 = .ok (.ireturn, 1) := by decide +kernel
theorem dX7_strongest_0 : decode cX7_strongest 0 = .ok (.iload_n 1, 1) := by decide +kernel
theorem dX7_strongest_1 : decode cX7_strongest 1 = .ok (.invokestatic 105, 3) := by decide +kernel
theorem dX7_strongest_4 : decode cX7_strongest 4 = .ok (.ifCond .eq 14, 3) := by decide +kernel
theorem dX7_strongest_7 : decode cX7_strongest 7 = .ok (.aload_n 0, 1) := by decide +kernel
theorem dX7_strongest_8 : decode cX7_strongest 8 = .ok (.getfield 12, 3) := by decide +kernel
theorem dX7_strongest_11 : decode cX7_strongest 11 = .ok (.iload_n 2, 1) := by decide +kernel
theorem dX7_strongest_12 : decode cX7_strongest 12 = .ok (.invokevirtual 74, 3) := by decide +kernel
theorem dX7_strongest_15 : decode cX7_strongest 15 = .ok (.ifCond .ne 5, 3) := by decide +kernel
theorem dX7_strongest_18 : decode cX7_strongest 18 = .ok (.iconst (-1), 1) := by decide +kernel
theorem dX7_strongest_19 : decode cX7_strongest 19 = .ok (.ireturn, 1) := by decide +kernel
theorem dX7_strongest_20 : decode cX7_strongest 20 = .ok (.aload_n 0, 1) := by decide +kernel
theorem dX7_strongest_21 : decode cX7_strongest 21 = .ok (.getfield 12, 3) := by decide +kernel
theorem dX7_strongest_24 : decode cX7_strongest 24 = .ok (.iload_n 1, 1) := by decide +kernel
theorem dX7_strongest_25 : decode cX7_strongest 25 = .ok (.invokevirtual 111, 3) := by decide +kernel
theorem dX7_strongest_28 : decode cX7_strongest 28 = .ok (.ifCond .eq 6, 3) := by decide +kernel
theorem dX7_strongest_31 : decode cX7_strongest 31 = .ok (.bipush (-5), 2) := by decide +kernel
theorem dX7_strongest_33 : decode cX7_strongest 33 = .ok (.ireturn, 1) := by decide +kernel
theorem dX7_strongest_34 : decode cX7_strongest 34 = .ok (.getstatic 203, 3) := by decide +kernel
theorem dX7_strongest_37 : decode cX7_strongest 37 = .ok (.arraylength, 1) := by decide +kernel
theorem dX7_strongest_38 : decode cX7_strongest 38 = .ok (.iconst 1, 1) := by decide +kernel
theorem dX7_strongest_39 : decode cX7_strongest 39 = .ok (.isub, 1) := by decide +kernel
theorem dX7_strongest_40 : decode cX7_strongest 40 = .ok (.istore_n 3, 1) := by decide +kernel
theorem dX7_strongest_41 : decode cX7_strongest 41 = .ok (.iload_n 3, 1) := by decide +kernel
theorem dX7_strongest_42 : decode cX7_strongest 42 = .ok (.ifCond .lt 32, 3) := by decide +kernel
theorem dX7_strongest_45 : decode cX7_strongest 45 = .ok (.aload_n 0, 1) := by decide +kernel
theorem dX7_strongest_46 : decode cX7_strongest 46 = .ok (.getfield 12, 3) := by decide +kernel
theorem dX7_strongest_49 : decode cX7_strongest 49 = .ok (.iload_n 1, 1) := by decide +kernel
theorem dX7_strongest_50 : decode cX7_strongest 50 = .ok (.iload_n 2, 1) := by decide +kernel
theorem dX7_strongest_51 : decode cX7_strongest 51 = .ok (.getstatic 203, 3) := by decide +kernel
theorem dX7_strongest_54 : decode cX7_strongest 54 = .ok (.iload_n 3, 1) := by decide +kernel
theorem dX7_strongest_55 : decode cX7_strongest 55 = .ok (.iaload, 1) := by decide +kernel
theorem dX7_strongest_56 : decode cX7_strongest 56 = .ok (.invokevirtual 189, 3) := by decide +kernel
theorem dX7_strongest_59 : decode cX7_strongest 59 = .ok (.ifCond .ne 9, 3) := by decide +kernel
theorem dX7_strongest_62 : decode cX7_strongest 62 = .ok (.getstatic 203, 3) := by decide +kernel
theorem dX7_strongest_65 : decode cX7_strongest 65 = .ok (.iload_n 3, 1) := by decide +kernel
theorem dX7_strongest_66 : decode cX7_strongest 66 = .ok (.iaload, 1) := by decide +kernel
theorem dX7_strongest_67 : decode cX7_strongest 67 = .ok (.ireturn, 1) := by decide +kernel
theorem dX7_strongest_68 : decode cX7_strongest 68 = .ok (.iinc 3 (-1), 3) := by decide +kernel
theorem dX7_strongest_71 : decode cX7_strongest 71 = .ok (.goto (-30), 3) := by decide +kernel
theorem dX7_strongest_74 : decode cX7_strongest 74 = .ok (.bipush (-2), 2) := by decide +kernel
theorem dX7_strongest_76 : decode cX7_strongest 76 = .ok (.ireturn, 1) := by decide +kernel
theorem dX7_plan_0 : decode cX7_plan 0 = .ok (.iload_n 1, 1) := by decide +kernel
theorem dX7_plan_1 : decode cX7_plan 1 = .ok (.iconst (-1), 1) := by decide +kernel
theorem dX7_plan_2 : decode cX7_plan 2 = .ok (.if_icmp .ne 13, 3) := by decide +kernel
theorem dX7_plan_5 : decode cX7_plan 5 = .ok (.aload_n 0, 1) := by decide +kernel
theorem dX7_plan_6 : decode cX7_plan 6 = .ok (.getfield 12, 3) := by decide +kernel
theorem dX7_plan_9 : decode cX7_plan 9 = .ok (.iconst 0, 1) := by decide +kernel
theorem dX7_plan_10 : decode cX7_plan 10 = .ok (.putfield 175, 3) := by decide +kernel
theorem dX7_plan_13 : decode cX7_plan 13 = .ok (.iconst 0, 1) := by decide +kernel
theorem dX7_plan_14 : decode cX7_plan 14 = .ok (.ireturn, 1) := by decide +kernel
theorem dX7_plan_15 : decode cX7_plan 15 = .ok (.aload_n 0, 1) := by decide +kernel
theorem dX7_plan_16 : decode cX7_plan 16 = .ok (.getfield 12, 3) := by decide +kernel
theorem dX7_plan_19 : decode cX7_plan 19 = .ok (.iload_n 1, 1) := by decide +kernel
theorem dX7_plan_20 : decode cX7_plan 20 = .ok (.iload_n 2, 1) := by decide +kernel
theorem dX7_plan_21 : decode cX7_plan 21 = .ok (.iload_n 3, 1) := by decide +kernel
theorem dX7_plan_22 : decode cX7_plan 22 = .ok (.invokevirtual 206, 3) := by decide +kernel
theorem dX7_plan_25 : decode cX7_plan 25 = .ok (.ireturn, 1) := by decide +kernel
theorem dX7_plays_0 : decode cX7_plays 0 = .ok (.iload_n 1, 1) := by decide +kernel
theorem dX7_plays_1 : decode cX7_plays 1 = .ok (.ifCond .lt 8, 3) := by decide +kernel
theorem dX7_plays_4 : decode cX7_plays 4 = .ok (.iload_n 1, 1) := by decide +kernel
theorem dX7_plays_5 : decode cX7_plays 5 = .ok (.iconst 2, 1) := by decide +kernel
theorem dX7_plays_6 : decode cX7_plays 6 = .ok (.if_icmp .le 5, 3) := by decide +kernel
theorem dX7_plays_9 : decode cX7_plays 9 = .ok (.iconst (-1), 1) := by decide +kernel
theorem dX7_plays_10 : decode cX7_plays 10 = .ok (.ireturn, 1) := by decide +kernel
theorem dX7_plays_11 : decode cX7_plays 11 = .ok (.aload_n 0, 1) := by decide +kernel
theorem dX7_plays_12 : decode cX7_plays 12 = .ok (.getfield 18, 3) := by decide +kernel
theorem dX7_plays_15 : decode cX7_plays 15 = .ok (.aload_n 0, 1) := by decide +kernel
theorem dX7_plays_16 : decode cX7_plays 16 = .ok (.getfield 12, 3) := by decide +kernel
theorem dX7_plays_19 : decode cX7_plays 19 = .ok (.invokevirtual 192, 3) := by decide +kernel
theorem dX7_plays_22 : decode cX7_plays 22 = .ok (.aload_n 0, 1) := by decide +kernel
theorem dX7_plays_23 : decode cX7_plays 23 = .ok (.getfield 18, 3) := by decide +kernel
theorem dX7_plays_26 : decode cX7_plays 26 = .ok (.iconst 0, 1) := by decide +kernel
theorem dX7_plays_27 : decode cX7_plays 27 = .ok (.putfield 182, 3) := by decide +kernel
theorem dX7_plays_30 : decode cX7_plays 30 = .ok (.aload_n 0, 1) := by decide +kernel
theorem dX7_plays_31 : decode cX7_plays 31 = .ok (.getfield 31, 3) := by decide +kernel
theorem dX7_plays_34 : decode cX7_plays 34 = .ok (.aload_n 0, 1) := by decide +kernel
theorem dX7_plays_35 : decode cX7_plays 35 = .ok (.getfield 18, 3) := by decide +kernel
theorem dX7_plays_38 : decode cX7_plays 38 = .ok (.invokevirtual 209, 3) := by decide +kernel
theorem dX7_plays_41 : decode cX7_plays 41 = .ok (.iconst 0, 1) := by decide +kernel
theorem dX7_plays_42 : decode cX7_plays 42 = .ok (.istore_n 2, 1) := by decide +kernel
theorem dX7_plays_43 : decode cX7_plays 43 = .ok (.iload_n 2, 1) := by decide +kernel
theorem dX7_plays_44 : decode cX7_plays 44 = .ok (.bipush 40, 2) := by decide +kernel
theorem dX7_plays_46 : decode cX7_plays 46 = .ok (.if_icmp .ge 30, 3) := by decide +kernel
theorem dX7_plays_49 : decode cX7_plays 49 = .ok (.aload_n 0, 1) := by decide +kernel
theorem dX7_plays_50 : decode cX7_plays 50 = .ok (.getfield 31, 3) := by decide +kernel
theorem dX7_plays_53 : decode cX7_plays 53 = .ok (.getfield 212, 3) := by decide +kernel
theorem dX7_plays_56 : decode cX7_plays 56 = .ok (.ifCond .eq 20, 3) := by decide +kernel
theorem dX7_plays_59 : decode cX7_plays 59 = .ok (.aload_n 0, 1) := by decide +kernel
theorem dX7_plays_60 : decode cX7_plays 60 = .ok (.getfield 31, 3) := by decide +kernel
theorem dX7_plays_63 : decode cX7_plays 63 = .ok (.aload_n 0, 1) := by decide +kernel
theorem dX7_plays_64 : decode cX7_plays 64 = .ok (.getfield 18, 3) := by decide +kernel
theorem dX7_plays_67 : decode cX7_plays 67 = .ok (.invokevirtual 215, 3) := by decide +kernel
theorem dX7_plays_70 : decode cX7_plays 70 = .ok (.iinc 2 1, 3) := by decide +kernel
theorem dX7_plays_73 : decode cX7_plays 73 = .ok (.goto (-30), 3) := by decide +kernel
theorem dX7_plays_76 : decode cX7_plays 76 = .ok (.iload_n 1, 1) := by decide +kernel
theorem dX7_plays_77 : decode cX7_plays 77 = .ok (.lookupswitch 58 #[(0, 27), (1, 50)], 27) := by decide +kernel
theorem dX7_plays_104 : decode cX7_plays 104 = .ok (.aload_n 0, 1) := by decide +kernel
theorem dX7_plays_105 : decode cX7_plays 105 = .ok (.getfield 31, 3) := by decide +kernel
theorem dX7_plays_108 : decode cX7_plays 108 = .ok (.getfield 212, 3) := by decide +kernel
theorem dX7_plays_111 : decode cX7_plays 111 = .ok (.ifCond .ne 13, 3) := by decide +kernel
theorem dX7_plays_114 : decode cX7_plays 114 = .ok (.aload_n 0, 1) := by decide +kernel
theorem dX7_plays_115 : decode cX7_plays 115 = .ok (.getfield 31, 3) := by decide +kernel
theorem dX7_plays_118 : decode cX7_plays 118 = .ok (.getfield 218, 3) := by decide +kernel
theorem dX7_plays_121 : decode cX7_plays 121 = .ok (.goto 5, 3) := by decide +kernel
theorem dX7_plays_124 : decode cX7_plays 124 = .ok (.bipush 41, 2) := by decide +kernel
theorem dX7_plays_126 : decode cX7_plays 126 = .ok (.ireturn, 1) := by decide +kernel
theorem dX7_plays_127 : decode cX7_plays 127 = .ok (.aload_n 0, 1) := by decide +kernel
theorem dX7_plays_128 : decode cX7_plays 128 = .ok (.getfield 31, 3) := by decide +kernel
theorem dX7_plays_131 : decode cX7_plays 131 = .ok (.getfield 221, 3) := by decide +kernel
theorem dX7_plays_134 : decode cX7_plays 134 = .ok (.ireturn, 1) := by decide +kernel
theorem dX7_plays_135 : decode cX7_plays 135 = .ok (.aload_n 0, 1) := by decide +kernel
theorem dX7_plays_136 : decode cX7_plays 136 = .ok (.getfield 18, 3) := by decide +kernel
theorem dX7_plays_139 : decode cX7_plays 139 = .ok (.getfield 182, 3) := by decide +kernel
theorem dX7_plays_142 : decode cX7_plays 142 = .ok (.ireturn, 1) := by decide +kernel
theorem dX7_lots_0 : decode cX7_lots 0 = .ok (.iload_n 1, 1) := by decide +kernel
theorem dX7_lots_1 : decode cX7_lots 1 = .ok (.iconst 1, 1) := by decide +kernel
theorem dX7_lots_2 : decode cX7_lots 2 = .ok (.if_icmp .lt 18, 3) := by decide +kernel
theorem dX7_lots_5 : decode cX7_lots 5 = .ok (.iload_n 1, 1) := by decide +kernel
theorem dX7_lots_6 : decode cX7_lots 6 = .ok (.bipush 60, 2) := by decide +kernel
theorem dX7_lots_8 : decode cX7_lots 8 = .ok (.if_icmp .gt 12, 3) := by decide +kernel
theorem dX7_lots_11 : decode cX7_lots 11 = .ok (.iload_n 3, 1) := by decide +kernel
theorem dX7_lots_12 : decode cX7_lots 12 = .ok (.ifCond .lt 8, 3) := by decide +kernel
theorem dX7_lots_15 : decode cX7_lots 15 = .ok (.iload_n 3, 1) := by decide +kernel
theorem dX7_lots_16 : decode cX7_lots 16 = .ok (.iconst 1, 1) := by decide +kernel
theorem dX7_lots_17 : decode cX7_lots 17 = .ok (.if_icmp .le 5, 3) := by decide +kernel
theorem dX7_lots_20 : decode cX7_lots 20 = .ok (.iconst (-1), 1) := by decide +kernel
theorem dX7_lots_21 : decode cX7_lots 21 = .ok (.ireturn, 1) := by decide +kernel
theorem dX7_lots_22 : decode cX7_lots 22 = .ok (.aload_n 0, 1) := by decide +kernel
theorem dX7_lots_23 : decode cX7_lots 23 = .ok (.getfield 12, 3) := by decide +kernel
theorem dX7_lots_26 : decode cX7_lots 26 = .ok (.getfield 169, 3) := by decide +kernel
theorem dX7_lots_29 : decode cX7_lots 29 = .ok (.ifCond .ne 6, 3) := by decide +kernel
theorem dX7_lots_32 : decode cX7_lots 32 = .ok (.bipush (-5), 2) := by decide +kernel
theorem dX7_lots_34 : decode cX7_lots 34 = .ok (.ireturn, 1) := by decide +kernel
theorem dX7_lots_35 : decode cX7_lots 35 = .ok (.aload_n 0, 1) := by decide +kernel
theorem dX7_lots_36 : decode cX7_lots 36 = .ok (.getfield 18, 3) := by decide +kernel
theorem dX7_lots_39 : decode cX7_lots 39 = .ok (.aload_n 0, 1) := by decide +kernel
theorem dX7_lots_40 : decode cX7_lots 40 = .ok (.getfield 12, 3) := by decide +kernel
theorem dX7_lots_43 : decode cX7_lots 43 = .ok (.invokevirtual 192, 3) := by decide +kernel
theorem dX7_lots_46 : decode cX7_lots 46 = .ok (.aload_n 0, 1) := by decide +kernel
theorem dX7_lots_47 : decode cX7_lots 47 = .ok (.getfield 38, 3) := by decide +kernel
theorem dX7_lots_50 : decode cX7_lots 50 = .ok (.iload_n 2, 1) := by decide +kernel
theorem dX7_lots_51 : decode cX7_lots 51 = .ok (.putfield 224, 3) := by decide +kernel
theorem dX7_lots_54 : decode cX7_lots 54 = .ok (.iconst 0, 1) := by decide +kernel
theorem dX7_lots_55 : decode cX7_lots 55 = .ok (.istore 4, 2) := by decide +kernel
theorem dX7_lots_57 : decode cX7_lots 57 = .ok (.iconst 0, 1) := by decide +kernel
theorem dX7_lots_58 : decode cX7_lots 58 = .ok (.istore 5, 2) := by decide +kernel
theorem dX7_lots_60 : decode cX7_lots 60 = .ok (.iload 5, 2) := by decide +kernel
theorem dX7_lots_62 : decode cX7_lots 62 = .ok (.iload_n 1, 1) := by decide +kernel
theorem dX7_lots_63 : decode cX7_lots 63 = .ok (.if_icmp .ge 20, 3) := by decide +kernel
theorem dX7_lots_66 : decode cX7_lots 66 = .ok (.aload_n 0, 1) := by decide +kernel
theorem dX7_lots_67 : decode cX7_lots 67 = .ok (.invokevirtual 227, 3) := by decide +kernel
theorem dX7_lots_70 : decode cX7_lots 70 = .ok (.iconst 1, 1) := by decide +kernel
theorem dX7_lots_71 : decode cX7_lots 71 = .ok (.if_icmp .ne 6, 3) := by decide +kernel
theorem dX7_lots_74 : decode cX7_lots 74 = .ok (.iinc 4 1, 3) := by decide +kernel
theorem dX7_lots_77 : decode cX7_lots 77 = .ok (.iinc 5 1, 3) := by decide +kernel
theorem dX7_lots_80 : decode cX7_lots 80 = .ok (.goto (-20), 3) := by decide +kernel
theorem dX7_lots_83 : decode cX7_lots 83 = .ok (.iload_n 3, 1) := by decide +kernel
theorem dX7_lots_84 : decode cX7_lots 84 = .ok (.ifCond .ne 8, 3) := by decide +kernel
theorem dX7_lots_87 : decode cX7_lots 87 = .ok (.iload 4, 2) := by decide +kernel
theorem dX7_lots_89 : decode cX7_lots 89 = .ok (.goto 10, 3) := by decide +kernel
theorem dX7_lots_92 : decode cX7_lots 92 = .ok (.aload_n 0, 1) := by decide +kernel
theorem dX7_lots_93 : decode cX7_lots 93 = .ok (.getfield 18, 3) := by decide +kernel
theorem dX7_lots_96 : decode cX7_lots 96 = .ok (.getfield 156, 3) := by decide +kernel
theorem dX7_lots_99 : decode cX7_lots 99 = .ok (.ireturn, 1) := by decide +kernel
theorem dX7_askByLot_0 : decode cX7_askByLot 0 = .ok (.aload_n 0, 1) := by decide +kernel
theorem dX7_askByLot_1 : decode cX7_askByLot 1 = .ok (.getfield 38, 3) := by decide +kernel
theorem dX7_askByLot_4 : decode cX7_askByLot 4 = .ok (.bipush 6, 2) := by decide +kernel
theorem dX7_askByLot_6 : decode cX7_askByLot 6 = .ok (.invokevirtual 230, 3) := by decide +kernel
theorem dX7_askByLot_9 : decode cX7_askByLot 9 = .ok (.istore_n 1, 1) := by decide +kernel
theorem dX7_askByLot_10 : decode cX7_askByLot 10 = .ok (.aload_n 0, 1) := by decide +kernel
theorem dX7_askByLot_11 : decode cX7_askByLot 11 = .ok (.getfield 18, 3) := by decide +kernel
theorem dX7_askByLot_14 : decode cX7_askByLot 14 = .ok (.iload_n 1, 1) := by decide +kernel
theorem dX7_askByLot_15 : decode cX7_askByLot 15 = .ok (.invokevirtual 111, 3) := by decide +kernel
theorem dX7_askByLot_18 : decode cX7_askByLot 18 = .ok (.ifCond .eq 6, 3) := by decide +kernel
theorem dX7_askByLot_21 : decode cX7_askByLot 21 = .ok (.bipush (-5), 2) := by decide +kernel
theorem dX7_askByLot_23 : decode cX7_askByLot 23 = .ok (.ireturn, 1) := by decide +kernel
theorem dX7_askByLot_24 : decode cX7_askByLot 24 = .ok (.aload_n 0, 1) := by decide +kernel
theorem dX7_askByLot_25 : decode cX7_askByLot 25 = .ok (.getfield 38, 3) := by decide +kernel
theorem dX7_askByLot_28 : decode cX7_askByLot 28 = .ok (.aload_n 0, 1) := by decide +kernel
theorem dX7_askByLot_29 : decode cX7_askByLot 29 = .ok (.getfield 18, 3) := by decide +kernel
theorem dX7_askByLot_32 : decode cX7_askByLot 32 = .ok (.getfield 169, 3) := by decide +kernel
theorem dX7_askByLot_35 : decode cX7_askByLot 35 = .ok (.invokevirtual 230, 3) := by decide +kernel
theorem dX7_askByLot_38 : decode cX7_askByLot 38 = .ok (.istore_n 2, 1) := by decide +kernel
theorem dX7_askByLot_39 : decode cX7_askByLot 39 = .ok (.aload_n 0, 1) := by decide +kernel
theorem dX7_askByLot_40 : decode cX7_askByLot 40 = .ok (.getfield 18, 3) := by decide +kernel
theorem dX7_askByLot_43 : decode cX7_askByLot 43 = .ok (.iload_n 1, 1) := by decide +kernel
theorem dX7_askByLot_44 : decode cX7_askByLot 44 = .ok (.iload_n 2, 1) := by decide +kernel
theorem dX7_askByLot_45 : decode cX7_askByLot 45 = .ok (.getstatic 203, 3) := by decide +kernel
theorem dX7_askByLot_48 : decode cX7_askByLot 48 = .ok (.aload_n 0, 1) := by decide +kernel
theorem dX7_askByLot_49 : decode cX7_askByLot 49 = .ok (.getfield 38, 3) := by decide +kernel
theorem dX7_askByLot_52 : decode cX7_askByLot 52 = .ok (.getstatic 203, 3) := by decide +kernel
theorem dX7_askByLot_55 : decode cX7_askByLot 55 = .ok (.arraylength, 1) := by decide +kernel
theorem dX7_askByLot_56 : decode cX7_askByLot 56 = .ok (.invokevirtual 230, 3) := by decide +kernel
theorem dX7_askByLot_59 : decode cX7_askByLot 59 = .ok (.iaload, 1) := by decide +kernel
theorem dX7_askByLot_60 : decode cX7_askByLot 60 = .ok (.invokevirtual 98, 3) := by decide +kernel
theorem dX7_askByLot_63 : decode cX7_askByLot 63 = .ok (.ireturn, 1) := by decide +kernel
theorem dX7_weighs_0 : decode cX7_weighs 0 = .ok (.aload_n 0, 1) := by decide +kernel
theorem dX7_weighs_1 : decode cX7_weighs 1 = .ok (.iload_n 1, 1) := by decide +kernel
theorem dX7_weighs_2 : decode cX7_weighs 2 = .ok (.invokevirtual 233, 3) := by decide +kernel
theorem dX7_weighs_5 : decode cX7_weighs 5 = .ok (.istore_n 2, 1) := by decide +kernel
theorem dX7_weighs_6 : decode cX7_weighs 6 = .ok (.iload_n 2, 1) := by decide +kernel
theorem dX7_weighs_7 : decode cX7_weighs 7 = .ok (.ifCond .eq 5, 3) := by decide +kernel
theorem dX7_weighs_10 : decode cX7_weighs 10 = .ok (.iload_n 2, 1) := by decide +kernel
theorem dX7_weighs_11 : decode cX7_weighs 11 = .ok (.ireturn, 1) := by decide +kernel
theorem dX7_weighs_12 : decode cX7_weighs 12 = .ok (.aload_n 0, 1) := by decide +kernel
theorem dX7_weighs_13 : decode cX7_weighs 13 = .ok (.getfield 45, 3) := by decide +kernel
theorem dX7_weighs_16 : decode cX7_weighs 16 = .ok (.iload_n 1, 1) := by decide +kernel
theorem dX7_weighs_17 : decode cX7_weighs 17 = .ok (.invokevirtual 236, 3) := by decide +kernel
theorem dX7_weighs_20 : decode cX7_weighs 20 = .ok (.aload_n 0, 1) := by decide +kernel
theorem dX7_weighs_21 : decode cX7_weighs 21 = .ok (.getfield 12, 3) := by decide +kernel
theorem dX7_weighs_24 : decode cX7_weighs 24 = .ok (.aload_n 0, 1) := by decide +kernel
theorem dX7_weighs_25 : decode cX7_weighs 25 = .ok (.getfield 45, 3) := by decide +kernel
theorem dX7_weighs_28 : decode cX7_weighs 28 = .ok (.iload_n 1, 1) := by decide +kernel
theorem dX7_weighs_29 : decode cX7_weighs 29 = .ok (.iload_n 1, 1) := by decide +kernel
theorem dX7_weighs_30 : decode cX7_weighs 30 = .ok (.iconst 0, 1) := by decide +kernel
theorem dX7_weighs_31 : decode cX7_weighs 31 = .ok (.invokestatic 239, 3) := by decide +kernel
theorem dX7_weighs_34 : decode cX7_weighs 34 = .ok (.istore_n 3, 1) := by decide +kernel
theorem dX7_weighs_35 : decode cX7_weighs 35 = .ok (.aload_n 0, 1) := by decide +kernel
theorem dX7_weighs_36 : decode cX7_weighs 36 = .ok (.getfield 45, 3) := by decide +kernel
theorem dX7_weighs_39 : decode cX7_weighs 39 = .ok (.iload_n 1, 1) := by decide +kernel
theorem dX7_weighs_40 : decode cX7_weighs 40 = .ok (.invokevirtual 243, 3) := by decide +kernel
theorem dX7_weighs_43 : decode cX7_weighs 43 = .ok (.iload_n 3, 1) := by decide +kernel
theorem dX7_weighs_44 : decode cX7_weighs 44 = .ok (.ireturn, 1) := by decide +kernel
theorem dX7_weighInside_0 : decode cX7_weighInside 0 = .ok (.iload 4, 2) := by decide +kernel
theorem dX7_weighInside_2 : decode cX7_weighInside 2 = .ok (.bipush 12, 2) := by decide +kernel
theorem dX7_weighInside_4 : decode cX7_weighInside 4 = .ok (.if_icmp .lt 6, 3) := by decide +kernel
theorem dX7_weighInside_7 : decode cX7_weighInside 7 = .ok (.bipush (-11), 2) := by decide +kernel
theorem dX7_weighInside_9 : decode cX7_weighInside 9 = .ok (.ireturn, 1) := by decide +kernel
theorem dX7_weighInside_10 : decode cX7_weighInside 10 = .ok (.aload_n 0, 1) := by decide +kernel
theorem dX7_weighInside_11 : decode cX7_weighInside 11 = .ok (.iload_n 3, 1) := by decide +kernel
theorem dX7_weighInside_12 : decode cX7_weighInside 12 = .ok (.invokevirtual 92, 3) := by decide +kernel
theorem dX7_weighInside_15 : decode cX7_weighInside 15 = .ok (.istore 5, 2) := by decide +kernel
theorem dX7_weighInside_17 : decode cX7_weighInside 17 = .ok (.iload_n 3, 1) := by decide +kernel
theorem dX7_weighInside_18 : decode cX7_weighInside 18 = .ok (.iconst 1, 1) := by decide +kernel
theorem dX7_weighInside_19 : decode cX7_weighInside 19 = .ok (.iadd, 1) := by decide +kernel
theorem dX7_weighInside_20 : decode cX7_weighInside 20 = .ok (.istore 6, 2) := by decide +kernel
theorem dX7_weighInside_22 : decode cX7_weighInside 22 = .ok (.iload 6, 2) := by decide +kernel
theorem dX7_weighInside_24 : decode cX7_weighInside 24 = .ok (.aload_n 0, 1) := by decide +kernel
theorem dX7_weighInside_25 : decode cX7_weighInside 25 = .ok (.getfield 169, 3) := by decide +kernel
theorem dX7_weighInside_28 : decode cX7_weighInside 28 = .ok (.if_icmp .ge 86, 3) := by decide +kernel
theorem dX7_weighInside_31 : decode cX7_weighInside 31 = .ok (.aload_n 0, 1) := by decide +kernel
theorem dX7_weighInside_32 : decode cX7_weighInside 32 = .ok (.getfield 78, 3) := by decide +kernel
theorem dX7_weighInside_35 : decode cX7_weighInside 35 = .ok (.iload 6, 2) := by decide +kernel
theorem dX7_weighInside_37 : decode cX7_weighInside 37 = .ok (.iaload, 1) := by decide +kernel
theorem dX7_weighInside_38 : decode cX7_weighInside 38 = .ok (.iload_n 3, 1) := by decide +kernel
theorem dX7_weighInside_39 : decode cX7_weighInside 39 = .ok (.if_icmp .eq 6, 3) := by decide +kernel
theorem dX7_weighInside_42 : decode cX7_weighInside 42 = .ok (.goto 66, 3) := by decide +kernel
theorem dX7_weighInside_45 : decode cX7_weighInside 45 = .ok (.aload_n 0, 1) := by decide +kernel
theorem dX7_weighInside_46 : decode cX7_weighInside 46 = .ok (.iload 6, 2) := by decide +kernel
theorem dX7_weighInside_48 : decode cX7_weighInside 48 = .ok (.invokevirtual 246, 3) := by decide +kernel
theorem dX7_weighInside_51 : decode cX7_weighInside 51 = .ok (.ifCond .eq 6, 3) := by decide +kernel
theorem dX7_weighInside_54 : decode cX7_weighInside 54 = .ok (.bipush (-11), 2) := by decide +kernel
theorem dX7_weighInside_56 : decode cX7_weighInside 56 = .ok (.ireturn, 1) := by decide +kernel
theorem dX7_weighInside_57 : decode cX7_weighInside 57 = .ok (.aload_n 1, 1) := by decide +kernel
theorem dX7_weighInside_58 : decode cX7_weighInside 58 = .ok (.iload 6, 2) := by decide +kernel
theorem dX7_weighInside_60 : decode cX7_weighInside 60 = .ok (.invokevirtual 236, 3) := by decide +kernel
theorem dX7_weighInside_63 : decode cX7_weighInside 63 = .ok (.aload_n 1, 1) := by decide +kernel
theorem dX7_weighInside_64 : decode cX7_weighInside 64 = .ok (.iload_n 2, 1) := by decide +kernel
theorem dX7_weighInside_65 : decode cX7_weighInside 65 = .ok (.invokevirtual 236, 3) := by decide +kernel
theorem dX7_weighInside_68 : decode cX7_weighInside 68 = .ok (.aload_n 0, 1) := by decide +kernel
theorem dX7_weighInside_69 : decode cX7_weighInside 69 = .ok (.aload_n 1, 1) := by decide +kernel
theorem dX7_weighInside_70 : decode cX7_weighInside 70 = .ok (.iload_n 2, 1) := by decide +kernel
theorem dX7_weighInside_71 : decode cX7_weighInside 71 = .ok (.iload 6, 2) := by decide +kernel
theorem dX7_weighInside_73 : decode cX7_weighInside 73 = .ok (.iload 4, 2) := by decide +kernel
theorem dX7_weighInside_75 : decode cX7_weighInside 75 = .ok (.iconst 1, 1) := by decide +kernel
theorem dX7_weighInside_76 : decode cX7_weighInside 76 = .ok (.iadd, 1) := by decide +kernel
theorem dX7_weighInside_77 : decode cX7_weighInside 77 = .ok (.invokestatic 239, 3) := by decide +kernel
theorem dX7_weighInside_80 : decode cX7_weighInside 80 = .ok (.istore 7, 2) := by decide +kernel
theorem dX7_weighInside_82 : decode cX7_weighInside 82 = .ok (.aload_n 1, 1) := by decide +kernel
theorem dX7_weighInside_83 : decode cX7_weighInside 83 = .ok (.iload_n 2, 1) := by decide +kernel
theorem dX7_weighInside_84 : decode cX7_weighInside 84 = .ok (.invokevirtual 243, 3) := by decide +kernel
theorem dX7_weighInside_87 : decode cX7_weighInside 87 = .ok (.aload_n 1, 1) := by decide +kernel
theorem dX7_weighInside_88 : decode cX7_weighInside 88 = .ok (.iload 6, 2) := by decide +kernel
theorem dX7_weighInside_90 : decode cX7_weighInside 90 = .ok (.invokevirtual 243, 3) := by decide +kernel
theorem dX7_weighInside_93 : decode cX7_weighInside 93 = .ok (.iload 7, 2) := by decide +kernel
theorem dX7_weighInside_95 : decode cX7_weighInside 95 = .ok (.ifCond .ge 6, 3) := by decide +kernel
theorem dX7_weighInside_98 : decode cX7_weighInside 98 = .ok (.bipush (-11), 2) := by decide +kernel
theorem dX7_weighInside_100 : decode cX7_weighInside 100 = .ok (.ireturn, 1) := by decide +kernel
theorem dX7_weighInside_101 : decode cX7_weighInside 101 = .ok (.iload 5, 2) := by decide +kernel
theorem dX7_weighInside_103 : decode cX7_weighInside 103 = .ok (.iload 7, 2) := by decide +kernel
theorem dX7_weighInside_105 : decode cX7_weighInside 105 = .ok (.iadd, 1) := by decide +kernel
theorem dX7_weighInside_106 : decode cX7_weighInside 106 = .ok (.istore 5, 2) := by decide +kernel
theorem dX7_weighInside_108 : decode cX7_weighInside 108 = .ok (.iinc 6 1, 3) := by decide +kernel
theorem dX7_weighInside_111 : decode cX7_weighInside 111 = .ok (.goto (-89), 3) := by decide +kernel
theorem dX7_weighInside_114 : decode cX7_weighInside 114 = .ok (.iload 5, 2) := by decide +kernel
theorem dX7_weighInside_116 : decode cX7_weighInside 116 = .ok (.ireturn, 1) := by decide +kernel
theorem dX7_plunges_0 : decode cX7_plunges 0 = .ok (.iload_n 2, 1) := by decide +kernel
theorem dX7_plunges_1 : decode cX7_plunges 1 = .ok (.iconst 1, 1) := by decide +kernel
theorem dX7_plunges_2 : decode cX7_plunges 2 = .ok (.if_icmp .lt 18, 3) := by decide +kernel
theorem dX7_plunges_5 : decode cX7_plunges 5 = .ok (.iload_n 2, 1) := by decide +kernel
theorem dX7_plunges_6 : decode cX7_plunges 6 = .ok (.bipush 30, 2) := by decide +kernel
theorem dX7_plunges_8 : decode cX7_plunges 8 = .ok (.if_icmp .gt 12, 3) := by decide +kernel
theorem dX7_plunges_11 : decode cX7_plunges 11 = .ok (.iload_n 3, 1) := by decide +kernel
theorem dX7_plunges_12 : decode cX7_plunges 12 = .ok (.ifCond .lt 8, 3) := by decide +kernel
theorem dX7_plunges_15 : decode cX7_plunges 15 = .ok (.iload_n 3, 1) := by decide +kernel
theorem dX7_plunges_16 : decode cX7_plunges 16 = .ok (.iload_n 2, 1) := by decide +kernel
theorem dX7_plunges_17 : decode cX7_plunges 17 = .ok (.if_icmp .le 5, 3) := by decide +kernel
theorem dX7_plunges_20 : decode cX7_plunges 20 = .ok (.iconst (-1), 1) := by decide +kernel
theorem dX7_plunges_21 : decode cX7_plunges 21 = .ok (.ireturn, 1) := by decide +kernel
theorem dX7_plunges_22 : decode cX7_plunges 22 = .ok (.aload_n 0, 1) := by decide +kernel
theorem dX7_plunges_23 : decode cX7_plunges 23 = .ok (.iload_n 1, 1) := by decide +kernel
theorem dX7_plunges_24 : decode cX7_plunges 24 = .ok (.invokevirtual 233, 3) := by decide +kernel
theorem dX7_plunges_27 : decode cX7_plunges 27 = .ok (.istore 4, 2) := by decide +kernel
theorem dX7_plunges_29 : decode cX7_plunges 29 = .ok (.iload 4, 2) := by decide +kernel
theorem dX7_plunges_31 : decode cX7_plunges 31 = .ok (.ifCond .eq 6, 3) := by decide +kernel
theorem dX7_plunges_34 : decode cX7_plunges 34 = .ok (.iload 4, 2) := by decide +kernel
theorem dX7_plunges_36 : decode cX7_plunges 36 = .ok (.ireturn, 1) := by decide +kernel
theorem dX7_plunges_37 : decode cX7_plunges 37 = .ok (.iload_n 3, 1) := by decide +kernel
theorem dX7_plunges_38 : decode cX7_plunges 38 = .ok (.ifCond .ne 7, 3) := by decide +kernel
theorem dX7_plunges_41 : decode cX7_plunges 41 = .ok (.iload_n 2, 1) := by decide +kernel
theorem dX7_plunges_42 : decode cX7_plunges 42 = .ok (.goto 4, 3) := by decide +kernel
theorem dX7_plunges_45 : decode cX7_plunges 45 = .ok (.iload_n 3, 1) := by decide +kernel
theorem dX7_plunges_46 : decode cX7_plunges 46 = .ok (.istore 5, 2) := by decide +kernel
theorem dX7_plunges_48 : decode cX7_plunges 48 = .ok (.iconst 0, 1) := by decide +kernel
theorem dX7_plunges_49 : decode cX7_plunges 49 = .ok (.istore 6, 2) := by decide +kernel
theorem dX7_plunges_51 : decode cX7_plunges 51 = .ok (.iload 6, 2) := by decide +kernel
theorem dX7_plunges_53 : decode cX7_plunges 53 = .ok (.iload 5, 2) := by decide +kernel
theorem dX7_plunges_55 : decode cX7_plunges 55 = .ok (.if_icmp .ge 17, 3) := by decide +kernel
theorem dX7_plunges_58 : decode cX7_plunges 58 = .ok (.aload_n 0, 1) := by decide +kernel
theorem dX7_plunges_59 : decode cX7_plunges 59 = .ok (.getfield 45, 3) := by decide +kernel
theorem dX7_plunges_62 : decode cX7_plunges 62 = .ok (.iload_n 1, 1) := by decide +kernel
theorem dX7_plunges_63 : decode cX7_plunges 63 = .ok (.invokevirtual 236, 3) := by decide +kernel
theorem dX7_plunges_66 : decode cX7_plunges 66 = .ok (.iinc 6 1, 3) := by decide +kernel
theorem dX7_plunges_69 : decode cX7_plunges 69 = .ok (.goto (-18), 3) := by decide +kernel
theorem dX7_plunges_72 : decode cX7_plunges 72 = .ok (.iconst 0, 1) := by decide +kernel
theorem dX7_plunges_73 : decode cX7_plunges 73 = .ok (.istore 6, 2) := by decide +kernel
theorem dX7_plunges_75 : decode cX7_plunges 75 = .ok (.iload 6, 2) := by decide +kernel
theorem dX7_plunges_77 : decode cX7_plunges 77 = .ok (.iload 5, 2) := by decide +kernel
theorem dX7_plunges_79 : decode cX7_plunges 79 = .ok (.if_icmp .ge 17, 3) := by decide +kernel
theorem dX7_plunges_82 : decode cX7_plunges 82 = .ok (.aload_n 0, 1) := by decide +kernel
theorem dX7_plunges_83 : decode cX7_plunges 83 = .ok (.getfield 45, 3) := by decide +kernel
theorem dX7_plunges_86 : decode cX7_plunges 86 = .ok (.iload_n 1, 1) := by decide +kernel
theorem dX7_plunges_87 : decode cX7_plunges 87 = .ok (.invokevirtual 243, 3) := by decide +kernel
theorem dX7_plunges_90 : decode cX7_plunges 90 = .ok (.iinc 6 1, 3) := by decide +kernel
theorem dX7_plunges_93 : decode cX7_plunges 93 = .ok (.goto (-18), 3) := by decide +kernel
theorem dX7_plunges_96 : decode cX7_plunges 96 = .ok (.iload 5, 2) := by decide +kernel
theorem dX7_plunges_98 : decode cX7_plunges 98 = .ok (.ireturn, 1) := by decide +kernel
theorem dX7_bell_0 : decode cX7_bell 0 = .ok (.iload_n 2, 1) := by decide +kernel
theorem dX7_bell_1 : decode cX7_bell 1 = .ok (.ifCond .lt 8, 3) := by decide +kernel
theorem dX7_bell_4 : decode cX7_bell 4 = .ok (.iload_n 2, 1) := by decide +kernel
theorem dX7_bell_5 : decode cX7_bell 5 = .ok (.iconst 3, 1) := by decide +kernel
theorem dX7_bell_6 : decode cX7_bell 6 = .ok (.if_icmp .le 5, 3) := by decide +kernel
theorem dX7_bell_9 : decode cX7_bell 9 = .ok (.iconst (-1), 1) := by decide +kernel
theorem dX7_bell_10 : decode cX7_bell 10 = .ok (.ireturn, 1) := by decide +kernel
theorem dX7_bell_11 : decode cX7_bell 11 = .ok (.aload_n 0, 1) := by decide +kernel
theorem dX7_bell_12 : decode cX7_bell 12 = .ok (.iload_n 1, 1) := by decide +kernel
theorem dX7_bell_13 : decode cX7_bell 13 = .ok (.invokevirtual 233, 3) := by decide +kernel
theorem dX7_bell_16 : decode cX7_bell 16 = .ok (.istore_n 3, 1) := by decide +kernel
theorem dX7_bell_17 : decode cX7_bell 17 = .ok (.iload_n 3, 1) := by decide +kernel
theorem dX7_bell_18 : decode cX7_bell 18 = .ok (.ifCond .eq 5, 3) := by decide +kernel
theorem dX7_bell_21 : decode cX7_bell 21 = .ok (.iload_n 3, 1) := by decide +kernel
theorem dX7_bell_22 : decode cX7_bell 22 = .ok (.ireturn, 1) := by decide +kernel
theorem dX7_bell_23 : decode cX7_bell 23 = .ok (.iload_n 2, 1) := by decide +kernel
theorem dX7_bell_24 : decode cX7_bell 24 = .ok (.iconst 1, 1) := by decide +kernel
theorem dX7_bell_25 : decode cX7_bell 25 = .ok (.if_icmp .le 6, 3) := by decide +kernel
theorem dX7_bell_28 : decode cX7_bell 28 = .ok (.bipush (-12), 2) := by decide +kernel
theorem dX7_bell_30 : decode cX7_bell 30 = .ok (.ireturn, 1) := by decide +kernel
theorem dX7_bell_31 : decode cX7_bell 31 = .ok (.aload_n 0, 1) := by decide +kernel
theorem dX7_bell_32 : decode cX7_bell 32 = .ok (.getfield 45, 3) := by decide +kernel
theorem dX7_bell_35 : decode cX7_bell 35 = .ok (.iload_n 1, 1) := by decide +kernel
theorem dX7_bell_36 : decode cX7_bell 36 = .ok (.invokevirtual 236, 3) := by decide +kernel
theorem dX7_bell_39 : decode cX7_bell 39 = .ok (.aload_n 0, 1) := by decide +kernel
theorem dX7_bell_40 : decode cX7_bell 40 = .ok (.getfield 45, 3) := by decide +kernel
theorem dX7_bell_43 : decode cX7_bell 43 = .ok (.iload_n 1, 1) := by decide +kernel
theorem dX7_bell_44 : decode cX7_bell 44 = .ok (.invokevirtual 243, 3) := by decide +kernel
theorem dX7_bell_47 : decode cX7_bell 47 = .ok (.iconst 1, 1) := by decide +kernel
theorem dX7_bell_48 : decode cX7_bell 48 = .ok (.ireturn, 1) := by decide +kernel
theorem dX7_gate_0 : decode cX7_gate 0 = .ok (.iload_n 2, 1) := by decide +kernel
theorem dX7_gate_1 : decode cX7_gate 1 = .ok (.ifCond .lt 8, 3) := by decide +kernel
theorem dX7_gate_4 : decode cX7_gate 4 = .ok (.iload_n 2, 1) := by decide +kernel
theorem dX7_gate_5 : decode cX7_gate 5 = .ok (.iconst 2, 1) := by decide +kernel
theorem dX7_gate_6 : decode cX7_gate 6 = .ok (.if_icmp .le 5, 3) := by decide +kernel
theorem dX7_gate_9 : decode cX7_gate 9 = .ok (.iconst (-1), 1) := by decide +kernel
theorem dX7_gate_10 : decode cX7_gate 10 = .ok (.ireturn, 1) := by decide +kernel
theorem dX7_gate_11 : decode cX7_gate 11 = .ok (.aload_n 0, 1) := by decide +kernel
theorem dX7_gate_12 : decode cX7_gate 12 = .ok (.iload_n 1, 1) := by decide +kernel
theorem dX7_gate_13 : decode cX7_gate 13 = .ok (.invokevirtual 233, 3) := by decide +kernel
theorem dX7_gate_16 : decode cX7_gate 16 = .ok (.istore_n 3, 1) := by decide +kernel
theorem dX7_gate_17 : decode cX7_gate 17 = .ok (.iload_n 3, 1) := by decide +kernel
theorem dX7_gate_18 : decode cX7_gate 18 = .ok (.ifCond .eq 5, 3) := by decide +kernel
theorem dX7_gate_21 : decode cX7_gate 21 = .ok (.iload_n 3, 1) := by decide +kernel
theorem dX7_gate_22 : decode cX7_gate 22 = .ok (.ireturn, 1) := by decide +kernel
theorem dX7_gate_23 : decode cX7_gate 23 = .ok (.iload_n 2, 1) := by decide +kernel
theorem dX7_gate_24 : decode cX7_gate 24 = .ok (.lookupswitch 48 #[(0, 28), (1, 38)], 28) := by decide +kernel
theorem dX7_gate_52 : decode cX7_gate 52 = .ok (.aload_n 0, 1) := by decide +kernel
theorem dX7_gate_53 : decode cX7_gate 53 = .ok (.getfield 45, 3) := by decide +kernel
theorem dX7_gate_56 : decode cX7_gate 56 = .ok (.getfield 249, 3) := by decide +kernel
theorem dX7_gate_59 : decode cX7_gate 59 = .ok (.iload_n 1, 1) := by decide +kernel
theorem dX7_gate_60 : decode cX7_gate 60 = .ok (.iaload, 1) := by decide +kernel
theorem dX7_gate_61 : decode cX7_gate 61 = .ok (.ireturn, 1) := by decide +kernel
theorem dX7_gate_62 : decode cX7_gate 62 = .ok (.aload_n 0, 1) := by decide +kernel
theorem dX7_gate_63 : decode cX7_gate 63 = .ok (.getfield 45, 3) := by decide +kernel
theorem dX7_gate_66 : decode cX7_gate 66 = .ok (.getfield 252, 3) := by decide +kernel
theorem dX7_gate_69 : decode cX7_gate 69 = .ok (.iload_n 1, 1) := by decide +kernel
theorem dX7_gate_70 : decode cX7_gate 70 = .ok (.iaload, 1) := by decide +kernel
theorem dX7_gate_71 : decode cX7_gate 71 = .ok (.ireturn, 1) := by decide +kernel
theorem dX7_gate_72 : decode cX7_gate 72 = .ok (.aload_n 0, 1) := by decide +kernel
theorem dX7_gate_73 : decode cX7_gate 73 = .ok (.getfield 45, 3) := by decide +kernel
theorem dX7_gate_76 : decode cX7_gate 76 = .ok (.getfield 255, 3) := by decide +kernel
theorem dX7_gate_79 : decode cX7_gate 79 = .ok (.iload_n 1, 1) := by decide +kernel
theorem dX7_gate_80 : decode cX7_gate 80 = .ok (.iaload, 1) := by decide +kernel
theorem dX7_gate_81 : decode cX7_gate 81 = .ok (.ireturn, 1) := by decide +kernel
theorem dX7_gateRefusal_0 : decode cX7_gateRefusal 0 = .ok (.aload_n 0, 1) := by decide +kernel
theorem dX7_gateRefusal_1 : decode cX7_gateRefusal 1 = .ok (.getfield 12, 3) := by decide +kernel
theorem dX7_gateRefusal_4 : decode cX7_gateRefusal 4 = .ok (.iload_n 1, 1) := by decide +kernel
theorem dX7_gateRefusal_5 : decode cX7_gateRefusal 5 = .ok (.invokevirtual 74, 3) := by decide +kernel
theorem dX7_gateRefusal_8 : decode cX7_gateRefusal 8 = .ok (.ifCond .ne 5, 3) := by decide +kernel
theorem dX7_gateRefusal_11 : decode cX7_gateRefusal 11 = .ok (.iconst (-1), 1) := by decide +kernel
theorem dX7_gateRefusal_12 : decode cX7_gateRefusal 12 = .ok (.ireturn, 1) := by decide +kernel
theorem dX7_gateRefusal_13 : decode cX7_gateRefusal 13 = .ok (.aload_n 0, 1) := by decide +kernel
theorem dX7_gateRefusal_14 : decode cX7_gateRefusal 14 = .ok (.getfield 12, 3) := by decide +kernel
theorem dX7_gateRefusal_17 : decode cX7_gateRefusal 17 = .ok (.iload_n 1, 1) := by decide +kernel
theorem dX7_gateRefusal_18 : decode cX7_gateRefusal 18 = .ok (.invokevirtual 246, 3) := by decide +kernel
theorem dX7_gateRefusal_21 : decode cX7_gateRefusal 21 = .ok (.ifCond .eq 8, 3) := by decide +kernel
theorem dX7_gateRefusal_24 : decode cX7_gateRefusal 24 = .ok (.bipush (-11), 2) := by decide +kernel
theorem dX7_gateRefusal_26 : decode cX7_gateRefusal 26 = .ok (.goto 4, 3) := by decide +kernel
theorem dX7_gateRefusal_29 : decode cX7_gateRefusal 29 = .ok (.iconst 0, 1) := by decide +kernel
theorem dX7_gateRefusal_30 : decode cX7_gateRefusal 30 = .ok (.ireturn, 1) := by decide +kernel
theorem dX7_feed_0 : decode cX7_feed 0 = .ok (.iload_n 1, 1) := by decide +kernel
theorem dX7_feed_1 : decode cX7_feed 1 = .ok (.iconst 1, 1) := by decide +kernel
theorem dX7_feed_2 : decode cX7_feed 2 = .ok (.if_icmp .lt 9, 3) := by decide +kernel
theorem dX7_feed_5 : decode cX7_feed 5 = .ok (.iload_n 1, 1) := by decide +kernel
theorem dX7_feed_6 : decode cX7_feed 6 = .ok (.bipush 127, 2) := by decide +kernel
theorem dX7_feed_8 : decode cX7_feed 8 = .ok (.if_icmp .le 5, 3) := by decide +kernel
theorem dX7_feed_11 : decode cX7_feed 11 = .ok (.iconst (-1), 1) := by decide +kernel
theorem dX7_feed_12 : decode cX7_feed 12 = .ok (.ireturn, 1) := by decide +kernel
theorem dX7_feed_13 : decode cX7_feed 13 = .ok (.aload_n 0, 1) := by decide +kernel
theorem dX7_feed_14 : decode cX7_feed 14 = .ok (.getfield 52, 3) := by decide +kernel
theorem dX7_feed_17 : decode cX7_feed 17 = .ok (.getfield 178, 3) := by decide +kernel
theorem dX7_feed_20 : decode cX7_feed 20 = .ok (.bipush 120, 2) := by decide +kernel
theorem dX7_feed_22 : decode cX7_feed 22 = .ok (.if_icmp .lt 6, 3) := by decide +kernel
theorem dX7_feed_25 : decode cX7_feed 25 = .ok (.bipush (-3), 2) := by decide +kernel
theorem dX7_feed_27 : decode cX7_feed 27 = .ok (.ireturn, 1) := by decide +kernel
theorem dX7_feed_28 : decode cX7_feed 28 = .ok (.aload_n 0, 1) := by decide +kernel
theorem dX7_feed_29 : decode cX7_feed 29 = .ok (.getfield 52, 3) := by decide +kernel
theorem dX7_feed_32 : decode cX7_feed 32 = .ok (.iload_n 1, 1) := by decide +kernel
theorem dX7_feed_33 : decode cX7_feed 33 = .ok (.invokevirtual 258, 3) := by decide +kernel
theorem dX7_feed_36 : decode cX7_feed 36 = .ok (.aload_n 0, 1) := by decide +kernel
theorem dX7_feed_37 : decode cX7_feed 37 = .ok (.getfield 52, 3) := by decide +kernel
theorem dX7_feed_40 : decode cX7_feed 40 = .ok (.getfield 178, 3) := by decide +kernel
theorem dX7_feed_43 : decode cX7_feed 43 = .ok (.ireturn, 1) := by decide +kernel
theorem dX7_reads_0 : decode cX7_reads 0 = .ok (.aload_n 0, 1) := by decide +kernel
theorem dX7_reads_1 : decode cX7_reads 1 = .ok (.getfield 52, 3) := by decide +kernel
theorem dX7_reads_4 : decode cX7_reads 4 = .ok (.invokevirtual 261, 3) := by decide +kernel
theorem dX7_reads_7 : decode cX7_reads 7 = .ok (.istore_n 1, 1) := by decide +kernel
theorem dX7_reads_8 : decode cX7_reads 8 = .ok (.aload_n 0, 1) := by decide +kernel
theorem dX7_reads_9 : decode cX7_reads 9 = .ok (.getfield 52, 3) := by decide +kernel
theorem dX7_reads_12 : decode cX7_reads 12 = .ok (.iconst 0, 1) := by decide +kernel
theorem dX7_reads_13 : decode cX7_reads 13 = .ok (.putfield 178, 3) := by decide +kernel
theorem dX7_reads_16 : decode cX7_reads 16 = .ok (.iload_n 1, 1) := by decide +kernel
theorem dX7_reads_17 : decode cX7_reads 17 = .ok (.ifCond .ge 5, 3) := by decide +kernel
theorem dX7_reads_20 : decode cX7_reads 20 = .ok (.iload_n 1, 1) := by decide +kernel
theorem dX7_reads_21 : decode cX7_reads 21 = .ok (.ireturn, 1) := by decide +kernel
theorem dX7_reads_22 : decode cX7_reads 22 = .ok (.aload_n 0, 1) := by decide +kernel
theorem dX7_reads_23 : decode cX7_reads 23 = .ok (.getfield 18, 3) := by decide +kernel
theorem dX7_reads_26 : decode cX7_reads 26 = .ok (.aload_n 0, 1) := by decide +kernel
theorem dX7_reads_27 : decode cX7_reads 27 = .ok (.getfield 12, 3) := by decide +kernel
theorem dX7_reads_30 : decode cX7_reads 30 = .ok (.invokevirtual 192, 3) := by decide +kernel
theorem dX7_reads_33 : decode cX7_reads 33 = .ok (.aload_n 0, 1) := by decide +kernel
theorem dX7_reads_34 : decode cX7_reads 34 = .ok (.getfield 18, 3) := by decide +kernel
theorem dX7_reads_37 : decode cX7_reads 37 = .ok (.iconst 0, 1) := by decide +kernel
theorem dX7_reads_38 : decode cX7_reads 38 = .ok (.putfield 182, 3) := by decide +kernel
theorem dX7_reads_41 : decode cX7_reads 41 = .ok (.iconst 0, 1) := by decide +kernel
theorem dX7_reads_42 : decode cX7_reads 42 = .ok (.istore_n 2, 1) := by decide +kernel
theorem dX7_reads_43 : decode cX7_reads 43 = .ok (.iload_n 2, 1) := by decide +kernel
theorem dX7_reads_44 : decode cX7_reads 44 = .ok (.iload_n 1, 1) := by decide +kernel
theorem dX7_reads_45 : decode cX7_reads 45 = .ok (.if_icmp .ge 38, 3) := by decide +kernel
theorem dX7_reads_48 : decode cX7_reads 48 = .ok (.aload_n 0, 1) := by decide +kernel
theorem dX7_reads_49 : decode cX7_reads 49 = .ok (.getfield 52, 3) := by decide +kernel
theorem dX7_reads_52 : decode cX7_reads 52 = .ok (.iload_n 2, 1) := by decide +kernel
theorem dX7_reads_53 : decode cX7_reads 53 = .ok (.aload_n 0, 1) := by decide +kernel
theorem dX7_reads_54 : decode cX7_reads 54 = .ok (.getfield 18, 3) := by decide +kernel
theorem dX7_reads_57 : decode cX7_reads 57 = .ok (.invokevirtual 264, 3) := by decide +kernel
theorem dX7_reads_60 : decode cX7_reads 60 = .ok (.ifCond .ge 17, 3) := by decide +kernel
theorem dX7_reads_63 : decode cX7_reads 63 = .ok (.sipush (-2000), 3) := by decide +kernel
theorem dX7_reads_66 : decode cX7_reads 66 = .ok (.aload_n 0, 1) := by decide +kernel
theorem dX7_reads_67 : decode cX7_reads 67 = .ok (.getfield 52, 3) := by decide +kernel
theorem dX7_reads_70 : decode cX7_reads 70 = .ok (.getfield 268, 3) := by decide +kernel
theorem dX7_reads_73 : decode cX7_reads 73 = .ok (.iload_n 2, 1) := by decide +kernel
theorem dX7_reads_74 : decode cX7_reads 74 = .ok (.iaload, 1) := by decide +kernel
theorem dX7_reads_75 : decode cX7_reads 75 = .ok (.isub, 1) := by decide +kernel
theorem dX7_reads_76 : decode cX7_reads 76 = .ok (.ireturn, 1) := by decide +kernel
theorem dX7_reads_77 : decode cX7_reads 77 = .ok (.iinc 2 1, 3) := by decide +kernel
theorem dX7_reads_80 : decode cX7_reads 80 = .ok (.goto (-37), 3) := by decide +kernel
theorem dX7_reads_83 : decode cX7_reads 83 = .ok (.aload_n 0, 1) := by decide +kernel
theorem dX7_reads_84 : decode cX7_reads 84 = .ok (.getfield 12, 3) := by decide +kernel
theorem dX7_reads_87 : decode cX7_reads 87 = .ok (.aload_n 0, 1) := by decide +kernel
theorem dX7_reads_88 : decode cX7_reads 88 = .ok (.getfield 18, 3) := by decide +kernel
theorem dX7_reads_91 : decode cX7_reads 91 = .ok (.invokevirtual 192, 3) := by decide +kernel
theorem dX7_reads_94 : decode cX7_reads 94 = .ok (.aload_n 0, 1) := by decide +kernel
theorem dX7_reads_95 : decode cX7_reads 95 = .ok (.getfield 12, 3) := by decide +kernel
theorem dX7_reads_98 : decode cX7_reads 98 = .ok (.dup, 1) := by decide +kernel
theorem dX7_reads_99 : decode cX7_reads 99 = .ok (.getfield 182, 3) := by decide +kernel
theorem dX7_reads_102 : decode cX7_reads 102 = .ok (.aload_n 0, 1) := by decide +kernel
theorem dX7_reads_103 : decode cX7_reads 103 = .ok (.getfield 18, 3) := by decide +kernel
theorem dX7_reads_106 : decode cX7_reads 106 = .ok (.getfield 182, 3) := by decide +kernel
theorem dX7_reads_109 : decode cX7_reads 109 = .ok (.iadd, 1) := by decide +kernel
theorem dX7_reads_110 : decode cX7_reads 110 = .ok (.putfield 182, 3) := by decide +kernel
theorem dX7_reads_113 : decode cX7_reads 113 = .ok (.iload_n 1, 1) := by decide +kernel
theorem dX7_reads_114 : decode cX7_reads 114 = .ok (.ireturn, 1) := by decide +kernel
theorem dX7_spells_0 : decode cX7_spells 0 = .ok (.aload_n 0, 1) := by decide +kernel
theorem dX7_spells_1 : decode cX7_spells 1 = .ok (.getfield 59, 3) := by decide +kernel
theorem dX7_spells_4 : decode cX7_spells 4 = .ok (.iconst 0, 1) := by decide +kernel
theorem dX7_spells_5 : decode cX7_spells 5 = .ok (.putfield 181, 3) := by decide +kernel
theorem dX7_spells_8 : decode cX7_spells 8 = .ok (.iconst 0, 1) := by decide +kernel
theorem dX7_spells_9 : decode cX7_spells 9 = .ok (.istore_n 1, 1) := by decide +kernel
theorem dX7_spells_10 : decode cX7_spells 10 = .ok (.iload_n 1, 1) := by decide +kernel
theorem dX7_spells_11 : decode cX7_spells 11 = .ok (.aload_n 0, 1) := by decide +kernel
theorem dX7_spells_12 : decode cX7_spells 12 = .ok (.getfield 12, 3) := by decide +kernel
theorem dX7_spells_15 : decode cX7_spells 15 = .ok (.getfield 169, 3) := by decide +kernel
theorem dX7_spells_18 : decode cX7_spells 18 = .ok (.if_icmp .ge 60, 3) := by decide +kernel
theorem dX7_spells_21 : decode cX7_spells 21 = .ok (.iconst 0, 1) := by decide +kernel
theorem dX7_spells_22 : decode cX7_spells 22 = .ok (.istore_n 2, 1) := by decide +kernel
theorem dX7_spells_23 : decode cX7_spells 23 = .ok (.iload_n 2, 1) := by decide +kernel
theorem dX7_spells_24 : decode cX7_spells 24 = .ok (.bipush 6, 2) := by decide +kernel
theorem dX7_spells_26 : decode cX7_spells 26 = .ok (.if_icmp .ge 46, 3) := by decide +kernel
theorem dX7_spells_29 : decode cX7_spells 29 = .ok (.iconst 1, 1) := by decide +kernel
theorem dX7_spells_30 : decode cX7_spells 30 = .ok (.istore_n 3, 1) := by decide +kernel
theorem dX7_spells_31 : decode cX7_spells 31 = .ok (.iload_n 3, 1) := by decide +kernel
theorem dX7_spells_32 : decode cX7_spells 32 = .ok (.iconst 5, 1) := by decide +kernel
theorem dX7_spells_33 : decode cX7_spells 33 = .ok (.if_icmp .gt 33, 3) := by decide +kernel
theorem dX7_spells_36 : decode cX7_spells 36 = .ok (.aload_n 0, 1) := by decide +kernel
theorem dX7_spells_37 : decode cX7_spells 37 = .ok (.getfield 59, 3) := by decide +kernel
theorem dX7_spells_40 : decode cX7_spells 40 = .ok (.iload_n 1, 1) := by decide +kernel
theorem dX7_spells_41 : decode cX7_spells 41 = .ok (.iload_n 2, 1) := by decide +kernel
theorem dX7_spells_42 : decode cX7_spells 42 = .ok (.iload_n 3, 1) := by decide +kernel
theorem dX7_spells_43 : decode cX7_spells 43 = .ok (.aload_n 0, 1) := by decide +kernel
theorem dX7_spells_44 : decode cX7_spells 44 = .ok (.getfield 12, 3) := by decide +kernel
theorem dX7_spells_47 : decode cX7_spells 47 = .ok (.getfield 131, 3) := by decide +kernel
theorem dX7_spells_50 : decode cX7_spells 50 = .ok (.iload_n 2, 1) := by decide +kernel
theorem dX7_spells_51 : decode cX7_spells 51 = .ok (.iload_n 1, 1) := by decide +kernel
theorem dX7_spells_52 : decode cX7_spells 52 = .ok (.iload_n 3, 1) := by decide +kernel
theorem dX7_spells_53 : decode cX7_spells 53 = .ok (.invokestatic 134, 3) := by decide +kernel
theorem dX7_spells_56 : decode cX7_spells 56 = .ok (.iaload, 1) := by decide +kernel
theorem dX7_spells_57 : decode cX7_spells 57 = .ok (.invokevirtual 270, 3) := by decide +kernel
theorem dX7_spells_60 : decode cX7_spells 60 = .ok (.iinc 3 1, 3) := by decide +kernel
theorem dX7_spells_63 : decode cX7_spells 63 = .ok (.goto (-32), 3) := by decide +kernel
theorem dX7_spells_66 : decode cX7_spells 66 = .ok (.iinc 2 1, 3) := by decide +kernel
theorem dX7_spells_69 : decode cX7_spells 69 = .ok (.goto (-46), 3) := by decide +kernel
theorem dX7_spells_72 : decode cX7_spells 72 = .ok (.iinc 1 1, 3) := by decide +kernel
theorem dX7_spells_75 : decode cX7_spells 75 = .ok (.goto (-65), 3) := by decide +kernel
theorem dX7_spells_78 : decode cX7_spells 78 = .ok (.aload_n 0, 1) := by decide +kernel
theorem dX7_spells_79 : decode cX7_spells 79 = .ok (.getfield 59, 3) := by decide +kernel
theorem dX7_spells_82 : decode cX7_spells 82 = .ok (.getfield 181, 3) := by decide +kernel
theorem dX7_spells_85 : decode cX7_spells 85 = .ok (.ireturn, 1) := by decide +kernel
theorem dX7_paper_0 : decode cX7_paper 0 = .ok (.iload_n 1, 1) := by decide +kernel
theorem dX7_paper_1 : decode cX7_paper 1 = .ok (.ifCond .ge 5, 3) := by decide +kernel
theorem dX7_paper_4 : decode cX7_paper 4 = .ok (.iconst (-1), 1) := by decide +kernel
theorem dX7_paper_5 : decode cX7_paper 5 = .ok (.ireturn, 1) := by decide +kernel
theorem dX7_paper_6 : decode cX7_paper 6 = .ok (.iload_n 1, 1) := by decide +kernel
theorem dX7_paper_7 : decode cX7_paper 7 = .ok (.aload_n 0, 1) := by decide +kernel
theorem dX7_paper_8 : decode cX7_paper 8 = .ok (.getfield 59, 3) := by decide +kernel
theorem dX7_paper_11 : decode cX7_paper 11 = .ok (.getfield 181, 3) := by decide +kernel
theorem dX7_paper_14 : decode cX7_paper 14 = .ok (.if_icmp .ge 15, 3) := by decide +kernel
theorem dX7_paper_17 : decode cX7_paper 17 = .ok (.aload_n 0, 1) := by decide +kernel
theorem dX7_paper_18 : decode cX7_paper 18 = .ok (.getfield 59, 3) := by decide +kernel
theorem dX7_paper_21 : decode cX7_paper 21 = .ok (.getfield 274, 3) := by decide +kernel
theorem dX7_paper_24 : decode cX7_paper 24 = .ok (.iload_n 1, 1) := by decide +kernel
theorem dX7_paper_25 : decode cX7_paper 25 = .ok (.baload, 1) := by decide +kernel
theorem dX7_paper_26 : decode cX7_paper 26 = .ok (.goto 5, 3) := by decide +kernel
theorem dX7_paper_29 : decode cX7_paper 29 = .ok (.bipush (-2), 2) := by decide +kernel
theorem dX7_paper_31 : decode cX7_paper 31 = .ok (.ireturn, 1) := by decide +kernel
theorem dX7_list_0 : decode cX7_list 0 = .ok (.iload_n 1, 1) := by decide +kernel
theorem dX7_list_1 : decode cX7_list 1 = .ok (.invokestatic 278, 3) := by decide +kernel
theorem dX7_list_4 : decode cX7_list 4 = .ok (.ifCond .eq 9, 3) := by decide +kernel
theorem dX7_list_7 : decode cX7_list 7 = .ok (.iload_n 2, 1) := by decide +kernel
theorem dX7_list_8 : decode cX7_list 8 = .ok (.bipush 36, 2) := by decide +kernel
theorem dX7_list_10 : decode cX7_list 10 = .ok (.if_icmp .le 5, 3) := by decide +kernel
theorem dX7_list_13 : decode cX7_list 13 = .ok (.iconst (-1), 1) := by decide +kernel
theorem dX7_list_14 : decode cX7_list 14 = .ok (.ireturn, 1) := by decide +kernel
theorem dX7_list_15 : decode cX7_list 15 = .ok (.iload_n 2, 1) := by decide +kernel
theorem dX7_list_16 : decode cX7_list 16 = .ok (.ifCond .ge 6, 3) := by decide +kernel
theorem dX7_list_19 : decode cX7_list 19 = .ok (.bipush (-14), 2) := by decide +kernel
theorem dX7_list_21 : decode cX7_list 21 = .ok (.ireturn, 1) := by decide +kernel
theorem dX7_list_22 : decode cX7_list 22 = .ok (.aload_n 0, 1) := by decide +kernel
theorem dX7_list_23 : decode cX7_list 23 = .ok (.getfield 66, 3) := by decide +kernel
theorem dX7_list_26 : decode cX7_list 26 = .ok (.iload_n 1, 1) := by decide +kernel
theorem dX7_list_27 : decode cX7_list 27 = .ok (.iload_n 2, 1) := by decide +kernel
theorem dX7_list_28 : decode cX7_list 28 = .ok (.invokevirtual 281, 3) := by decide +kernel
theorem dX7_list_31 : decode cX7_list 31 = .ok (.iconst 1, 1) := by decide +kernel
theorem dX7_list_32 : decode cX7_list 32 = .ok (.ireturn, 1) := by decide +kernel
theorem dX7_set_0 : decode cX7_set 0 = .ok (.iload_n 1, 1) := by decide +kernel
theorem dX7_set_1 : decode cX7_set 1 = .ok (.invokestatic 278, 3) := by decide +kernel
theorem dX7_set_4 : decode cX7_set 4 = .ok (.ifCond .ne 5, 3) := by decide +kernel
theorem dX7_set_7 : decode cX7_set 7 = .ok (.iconst (-1), 1) := by decide +kernel
theorem dX7_set_8 : decode cX7_set 8 = .ok (.ireturn, 1) := by decide +kernel
theorem dX7_set_9 : decode cX7_set 9 = .ok (.aload_n 0, 1) := by decide +kernel
theorem dX7_set_10 : decode cX7_set 10 = .ok (.getfield 66, 3) := by decide +kernel
theorem dX7_set_13 : decode cX7_set 13 = .ok (.iload_n 1, 1) := by decide +kernel
theorem dX7_set_14 : decode cX7_set 14 = .ok (.invokevirtual 285, 3) := by decide +kernel
theorem dX7_set_17 : decode cX7_set 17 = .ok (.ifCond .ne 6, 3) := by decide +kernel
theorem dX7_set_20 : decode cX7_set 20 = .ok (.bipush (-11), 2) := by decide +kernel
theorem dX7_set_22 : decode cX7_set 22 = .ok (.ireturn, 1) := by decide +kernel
theorem dX7_set_23 : decode cX7_set 23 = .ok (.aload_n 0, 1) := by decide +kernel
theorem dX7_set_24 : decode cX7_set 24 = .ok (.getfield 66, 3) := by decide +kernel
theorem dX7_set_27 : decode cX7_set 27 = .ok (.iload_n 1, 1) := by decide +kernel
theorem dX7_set_28 : decode cX7_set 28 = .ok (.iload_n 2, 1) := by decide +kernel
theorem dX7_set_29 : decode cX7_set 29 = .ok (.invokevirtual 288, 3) := by decide +kernel
theorem dX7_set_32 : decode cX7_set 32 = .ok (.ifCond .ne 6, 3) := by decide +kernel
theorem dX7_set_35 : decode cX7_set 35 = .ok (.bipush (-13), 2) := by decide +kernel
theorem dX7_set_37 : decode cX7_set 37 = .ok (.ireturn, 1) := by decide +kernel
theorem dX7_set_38 : decode cX7_set 38 = .ok (.aload_n 0, 1) := by decide +kernel
theorem dX7_set_39 : decode cX7_set 39 = .ok (.getfield 66, 3) := by decide +kernel
theorem dX7_set_42 : decode cX7_set 42 = .ok (.getfield 291, 3) := by decide +kernel
theorem dX7_set_45 : decode cX7_set 45 = .ok (.iload_n 1, 1) := by decide +kernel
theorem dX7_set_46 : decode cX7_set 46 = .ok (.iload_n 2, 1) := by decide +kernel
theorem dX7_set_47 : decode cX7_set 47 = .ok (.invokestatic 294, 3) := by decide +kernel
theorem dX7_set_50 : decode cX7_set 50 = .ok (.iload_n 3, 1) := by decide +kernel
theorem dX7_set_51 : decode cX7_set 51 = .ok (.iastore, 1) := by decide +kernel
theorem dX7_set_52 : decode cX7_set 52 = .ok (.iconst 1, 1) := by decide +kernel
theorem dX7_set_53 : decode cX7_set 53 = .ok (.ireturn, 1) := by decide +kernel
theorem dX7_get_0 : decode cX7_get 0 = .ok (.iload_n 1, 1) := by decide +kernel
theorem dX7_get_1 : decode cX7_get 1 = .ok (.invokestatic 278, 3) := by decide +kernel
theorem dX7_get_4 : decode cX7_get 4 = .ok (.ifCond .eq 15, 3) := by decide +kernel
theorem dX7_get_7 : decode cX7_get 7 = .ok (.aload_n 0, 1) := by decide +kernel
theorem dX7_get_8 : decode cX7_get 8 = .ok (.getfield 66, 3) := by decide +kernel
theorem dX7_get_11 : decode cX7_get 11 = .ok (.iload_n 1, 1) := by decide +kernel
theorem dX7_get_12 : decode cX7_get 12 = .ok (.iload_n 2, 1) := by decide +kernel
theorem dX7_get_13 : decode cX7_get 13 = .ok (.invokevirtual 288, 3) := by decide +kernel
theorem dX7_get_16 : decode cX7_get 16 = .ok (.ifCond .ne 7, 3) := by decide +kernel
theorem dX7_get_19 : decode cX7_get 19 = .ok (.ldc2_w 296, 3) := by decide +kernel
theorem dX7_get_22 : decode cX7_get 22 = .ok (.lreturn, 1) := by decide +kernel
theorem dX7_get_23 : decode cX7_get 23 = .ok (.aload_n 0, 1) := by decide +kernel
theorem dX7_get_24 : decode cX7_get 24 = .ok (.getfield 66, 3) := by decide +kernel
theorem dX7_get_27 : decode cX7_get 27 = .ok (.getfield 291, 3) := by decide +kernel
theorem dX7_get_30 : decode cX7_get 30 = .ok (.iload_n 1, 1) := by decide +kernel
theorem dX7_get_31 : decode cX7_get 31 = .ok (.iload_n 2, 1) := by decide +kernel
theorem dX7_get_32 : decode cX7_get 32 = .ok (.invokestatic 294, 3) := by decide +kernel
theorem dX7_get_35 : decode cX7_get 35 = .ok (.iaload, 1) := by decide +kernel
theorem dX7_get_36 : decode cX7_get 36 = .ok (.i2l, 1) := by decide +kernel
theorem dX7_get_37 : decode cX7_get 37 = .ok (.lreturn, 1) := by decide +kernel
theorem dX7_does_0 : decode cX7_does 0 = .ok (.iload_n 1, 1) := by decide +kernel
theorem dX7_does_1 : decode cX7_does 1 = .ok (.invokestatic 278, 3) := by decide +kernel
theorem dX7_does_4 : decode cX7_does 4 = .ok (.ifCond .eq 7, 3) := by decide +kernel
theorem dX7_does_7 : decode cX7_does 7 = .ok (.iload_n 2, 1) := by decide +kernel
theorem dX7_does_8 : decode cX7_does 8 = .ok (.ifCond .ge 5, 3) := by decide +kernel
theorem dX7_does_11 : decode cX7_does 11 = .ok (.iconst (-1), 1) := by decide +kernel
theorem dX7_does_12 : decode cX7_does 12 = .ok (.ireturn, 1) := by decide +kernel
theorem dX7_does_13 : decode cX7_does 13 = .ok (.aload_n 0, 1) := by decide +kernel
theorem dX7_does_14 : decode cX7_does 14 = .ok (.getfield 66, 3) := by decide +kernel
theorem dX7_does_17 : decode cX7_does 17 = .ok (.iload_n 1, 1) := by decide +kernel
theorem dX7_does_18 : decode cX7_does 18 = .ok (.invokevirtual 285, 3) := by decide +kernel
theorem dX7_does_21 : decode cX7_does 21 = .ok (.ifCond .ne 6, 3) := by decide +kernel
theorem dX7_does_24 : decode cX7_does 24 = .ok (.bipush (-11), 2) := by decide +kernel
theorem dX7_does_26 : decode cX7_does 26 = .ok (.ireturn, 1) := by decide +kernel
theorem dX7_does_27 : decode cX7_does 27 = .ok (.iconst 0, 1) := by decide +kernel
theorem dX7_does_28 : decode cX7_does 28 = .ok (.istore_n 3, 1) := by decide +kernel
theorem dX7_does_29 : decode cX7_does 29 = .ok (.iload_n 2, 1) := by decide +kernel
theorem dX7_does_30 : decode cX7_does 30 = .ok (.istore 4, 2) := by decide +kernel
theorem dX7_does_32 : decode cX7_does 32 = .ok (.iload 4, 2) := by decide +kernel
theorem dX7_does_34 : decode cX7_does 34 = .ok (.aload_n 0, 1) := by decide +kernel
theorem dX7_does_35 : decode cX7_does 35 = .ok (.getfield 66, 3) := by decide +kernel
theorem dX7_does_38 : decode cX7_does 38 = .ok (.getfield 298, 3) := by decide +kernel
theorem dX7_does_41 : decode cX7_does 41 = .ok (.iload_n 1, 1) := by decide +kernel
theorem dX7_does_42 : decode cX7_does 42 = .ok (.iaload, 1) := by decide +kernel
theorem dX7_does_43 : decode cX7_does 43 = .ok (.iconst 3, 1) := by decide +kernel
theorem dX7_does_44 : decode cX7_does 44 = .ok (.isub, 1) := by decide +kernel
theorem dX7_does_45 : decode cX7_does 45 = .ok (.if_icmp .gt 64, 3) := by decide +kernel
theorem dX7_does_48 : decode cX7_does 48 = .ok (.iload_n 1, 1) := by decide +kernel
theorem dX7_does_49 : decode cX7_does 49 = .ok (.iload 4, 2) := by decide +kernel
theorem dX7_does_51 : decode cX7_does 51 = .ok (.invokestatic 294, 3) := by decide +kernel
theorem dX7_does_54 : decode cX7_does 54 = .ok (.istore 5, 2) := by decide +kernel
theorem dX7_does_56 : decode cX7_does 56 = .ok (.aload_n 0, 1) := by decide +kernel
theorem dX7_does_57 : decode cX7_does 57 = .ok (.getfield 12, 3) := by decide +kernel
theorem dX7_does_60 : decode cX7_does 60 = .ok (.aload_n 0, 1) := by decide +kernel
theorem dX7_does_61 : decode cX7_does 61 = .ok (.getfield 66, 3) := by decide +kernel
theorem dX7_does_64 : decode cX7_does 64 = .ok (.getfield 291, 3) := by decide +kernel
theorem dX7_does_67 : decode cX7_does 67 = .ok (.iload 5, 2) := by decide +kernel
theorem dX7_does_69 : decode cX7_does 69 = .ok (.iaload, 1) := by decide +kernel
theorem dX7_does_70 : decode cX7_does 70 = .ok (.aload_n 0, 1) := by decide +kernel
theorem dX7_does_71 : decode cX7_does 71 = .ok (.getfield 66, 3) := by decide +kernel
theorem dX7_does_74 : decode cX7_does 74 = .ok (.getfield 291, 3) := by decide +kernel
theorem dX7_does_77 : decode cX7_does 77 = .ok (.iload 5, 2) := by decide +kernel
theorem dX7_does_79 : decode cX7_does 79 = .ok (.iconst 1, 1) := by decide +kernel
theorem dX7_does_80 : decode cX7_does 80 = .ok (.iadd, 1) := by decide +kernel
theorem dX7_does_81 : decode cX7_does 81 = .ok (.iaload, 1) := by decide +kernel
theorem dX7_does_82 : decode cX7_does 82 = .ok (.aload_n 0, 1) := by decide +kernel
theorem dX7_does_83 : decode cX7_does 83 = .ok (.getfield 66, 3) := by decide +kernel
theorem dX7_does_86 : decode cX7_does 86 = .ok (.getfield 291, 3) := by decide +kernel
theorem dX7_does_89 : decode cX7_does 89 = .ok (.iload 5, 2) := by decide +kernel
theorem dX7_does_91 : decode cX7_does 91 = .ok (.iconst 2, 1) := by decide +kernel
theorem dX7_does_92 : decode cX7_does 92 = .ok (.iadd, 1) := by decide +kernel
theorem dX7_does_93 : decode cX7_does 93 = .ok (.iaload, 1) := by decide +kernel
theorem dX7_does_94 : decode cX7_does 94 = .ok (.invokevirtual 98, 3) := by decide +kernel
theorem dX7_does_97 : decode cX7_does 97 = .ok (.ifCond .lt 6, 3) := by decide +kernel
theorem dX7_does_100 : decode cX7_does 100 = .ok (.iinc 3 1, 3) := by decide +kernel
theorem dX7_does_103 : decode cX7_does 103 = .ok (.iinc 4 3, 3) := by decide +kernel
theorem dX7_does_106 : decode cX7_does 106 = .ok (.goto (-74), 3) := by decide +kernel
theorem dX7_does_109 : decode cX7_does 109 = .ok (.iload_n 3, 1) := by decide +kernel
theorem dX7_does_110 : decode cX7_does 110 = .ok (.ireturn, 1) := by decide +kernel
theorem dX7_into_0 : decode cX7_into 0 = .ok (.aload_n 0, 1) := by decide +kernel
theorem dX7_into_1 : decode cX7_into 1 = .ok (.getfield 12, 3) := by decide +kernel
theorem dX7_into_4 : decode cX7_into 4 = .ok (.iload_n 1, 1) := by decide +kernel
theorem dX7_into_5 : decode cX7_into 5 = .ok (.invokevirtual 74, 3) := by decide +kernel
theorem dX7_into_8 : decode cX7_into 8 = .ok (.ifCond .eq 10, 3) := by decide +kernel
theorem dX7_into_11 : decode cX7_into 11 = .ok (.iload_n 2, 1) := by decide +kernel
theorem dX7_into_12 : decode cX7_into 12 = .ok (.invokestatic 278, 3) := by decide +kernel
theorem dX7_into_15 : decode cX7_into 15 = .ok (.ifCond .ne 5, 3) := by decide +kernel
theorem dX7_into_18 : decode cX7_into 18 = .ok (.iconst (-1), 1) := by decide +kernel
theorem dX7_into_19 : decode cX7_into 19 = .ok (.ireturn, 1) := by decide +kernel
theorem dX7_into_20 : decode cX7_into 20 = .ok (.aload_n 0, 1) := by decide +kernel
theorem dX7_into_21 : decode cX7_into 21 = .ok (.getfield 66, 3) := by decide +kernel
theorem dX7_into_24 : decode cX7_into 24 = .ok (.iload_n 2, 1) := by decide +kernel
theorem dX7_into_25 : decode cX7_into 25 = .ok (.invokevirtual 285, 3) := by decide +kernel
theorem dX7_into_28 : decode cX7_into 28 = .ok (.ifCond .ne 6, 3) := by decide +kernel
theorem dX7_into_31 : decode cX7_into 31 = .ok (.bipush (-11), 2) := by decide +kernel
theorem dX7_into_33 : decode cX7_into 33 = .ok (.ireturn, 1) := by decide +kernel
theorem dX7_into_34 : decode cX7_into 34 = .ok (.iload_n 3, 1) := by decide +kernel
theorem dX7_into_35 : decode cX7_into 35 = .ok (.ifCond .ge 6, 3) := by decide +kernel
theorem dX7_into_38 : decode cX7_into 38 = .ok (.bipush (-13), 2) := by decide +kernel
theorem dX7_into_40 : decode cX7_into 40 = .ok (.ireturn, 1) := by decide +kernel
theorem dX7_into_41 : decode cX7_into 41 = .ok (.iconst 0, 1) := by decide +kernel
theorem dX7_into_42 : decode cX7_into 42 = .ok (.iload_n 1, 1) := by decide +kernel
theorem dX7_into_43 : decode cX7_into 43 = .ok (.iconst 1, 1) := by decide +kernel
theorem dX7_into_44 : decode cX7_into 44 = .ok (.invokestatic 134, 3) := by decide +kernel
theorem dX7_into_47 : decode cX7_into 47 = .ok (.istore 4, 2) := by decide +kernel
theorem dX7_into_49 : decode cX7_into 49 = .ok (.iconst 0, 1) := by decide +kernel
theorem dX7_into_50 : decode cX7_into 50 = .ok (.istore 5, 2) := by decide +kernel
theorem dX7_into_52 : decode cX7_into 52 = .ok (.iload 5, 2) := by decide +kernel
theorem dX7_into_54 : decode cX7_into 54 = .ok (.bipush 30, 2) := by decide +kernel
theorem dX7_into_56 : decode cX7_into 56 = .ok (.if_icmp .ge 53, 3) := by decide +kernel
theorem dX7_into_59 : decode cX7_into 59 = .ok (.aload_n 0, 1) := by decide +kernel
theorem dX7_into_60 : decode cX7_into 60 = .ok (.getfield 66, 3) := by decide +kernel
theorem dX7_into_63 : decode cX7_into 63 = .ok (.iload_n 2, 1) := by decide +kernel
theorem dX7_into_64 : decode cX7_into 64 = .ok (.iload_n 3, 1) := by decide +kernel
theorem dX7_into_65 : decode cX7_into 65 = .ok (.iload 5, 2) := by decide +kernel
theorem dX7_into_67 : decode cX7_into 67 = .ok (.iadd, 1) := by decide +kernel
theorem dX7_into_68 : decode cX7_into 68 = .ok (.invokevirtual 288, 3) := by decide +kernel
theorem dX7_into_71 : decode cX7_into 71 = .ok (.ifCond .eq 38, 3) := by decide +kernel
theorem dX7_into_74 : decode cX7_into 74 = .ok (.aload_n 0, 1) := by decide +kernel
theorem dX7_into_75 : decode cX7_into 75 = .ok (.getfield 66, 3) := by decide +kernel
theorem dX7_into_78 : decode cX7_into 78 = .ok (.getfield 291, 3) := by decide +kernel
theorem dX7_into_81 : decode cX7_into 81 = .ok (.iload_n 2, 1) := by decide +kernel
theorem dX7_into_82 : decode cX7_into 82 = .ok (.iload_n 3, 1) := by decide +kernel
theorem dX7_into_83 : decode cX7_into 83 = .ok (.iload 5, 2) := by decide +kernel
theorem dX7_into_85 : decode cX7_into 85 = .ok (.iadd, 1) := by decide +kernel
theorem dX7_into_86 : decode cX7_into 86 = .ok (.invokestatic 294, 3) := by decide +kernel
theorem dX7_into_89 : decode cX7_into 89 = .ok (.aload_n 0, 1) := by decide +kernel
theorem dX7_into_90 : decode cX7_into 90 = .ok (.getfield 12, 3) := by decide +kernel
theorem dX7_into_93 : decode cX7_into 93 = .ok (.getfield 131, 3) := by decide +kernel
theorem dX7_into_96 : decode cX7_into 96 = .ok (.iload 4, 2) := by decide +kernel
theorem dX7_into_98 : decode cX7_into 98 = .ok (.iload 5, 2) := by decide +kernel
theorem dX7_into_100 : decode cX7_into 100 = .ok (.iadd, 1) := by decide +kernel
theorem dX7_into_101 : decode cX7_into 101 = .ok (.iaload, 1) := by decide +kernel
theorem dX7_into_102 : decode cX7_into 102 = .ok (.iastore, 1) := by decide +kernel
theorem dX7_into_103 : decode cX7_into 103 = .ok (.iinc 5 1, 3) := by decide +kernel
theorem dX7_into_106 : decode cX7_into 106 = .ok (.goto (-54), 3) := by decide +kernel
theorem dX7_into_109 : decode cX7_into 109 = .ok (.iload 5, 2) := by decide +kernel
theorem dX7_into_111 : decode cX7_into 111 = .ok (.ireturn, 1) := by decide +kernel
theorem dX7_image_0 : decode cX7_image 0 = .ok (.aload_n 0, 1) := by decide +kernel
theorem dX7_image_1 : decode cX7_image 1 = .ok (.getfield 21, 3) := by decide +kernel
theorem dX7_image_4 : decode cX7_image 4 = .ok (.aload_n 0, 1) := by decide +kernel
theorem dX7_image_5 : decode cX7_image 5 = .ok (.getfield 12, 3) := by decide +kernel
theorem dX7_image_8 : decode cX7_image 8 = .ok (.invokevirtual 192, 3) := by decide +kernel
theorem dX7_image_11 : decode cX7_image 11 = .ok (.aload_n 0, 1) := by decide +kernel
theorem dX7_image_12 : decode cX7_image 12 = .ok (.iconst 1, 1) := by decide +kernel
theorem dX7_image_13 : decode cX7_image 13 = .ok (.putfield 24, 3) := by decide +kernel
theorem dX7_image_16 : decode cX7_image 16 = .ok (.aload_n 0, 1) := by decide +kernel
theorem dX7_image_17 : decode cX7_image 17 = .ok (.getfield 12, 3) := by decide +kernel
theorem dX7_image_20 : decode cX7_image 20 = .ok (.getfield 169, 3) := by decide +kernel
theorem dX7_image_23 : decode cX7_image 23 = .ok (.ireturn, 1) := by decide +kernel
theorem dX7_back_0 : decode cX7_back 0 = .ok (.aload_n 0, 1) := by decide +kernel
theorem dX7_back_1 : decode cX7_back 1 = .ok (.getfield 24, 3) := by decide +kernel
theorem dX7_back_4 : decode cX7_back 4 = .ok (.ifCond .ne 6, 3) := by decide +kernel
theorem dX7_back_7 : decode cX7_back 7 = .ok (.bipush (-5), 2) := by decide +kernel
theorem dX7_back_9 : decode cX7_back 9 = .ok (.ireturn, 1) := by decide +kernel
theorem dX7_back_10 : decode cX7_back 10 = .ok (.aload_n 0, 1) := by decide +kernel
theorem dX7_back_11 : decode cX7_back 11 = .ok (.getfield 12, 3) := by decide +kernel
theorem dX7_back_14 : decode cX7_back 14 = .ok (.aload_n 0, 1) := by decide +kernel
theorem dX7_back_15 : decode cX7_back 15 = .ok (.getfield 21, 3) := by decide +kernel
theorem dX7_back_18 : decode cX7_back 18 = .ok (.invokevirtual 192, 3) := by decide +kernel
theorem dX7_back_21 : decode cX7_back 21 = .ok (.aload_n 0, 1) := by decide +kernel
theorem dX7_back_22 : decode cX7_back 22 = .ok (.getfield 45, 3) := by decide +kernel
theorem dX7_back_25 : decode cX7_back 25 = .ok (.aload_n 0, 1) := by decide +kernel
theorem dX7_back_26 : decode cX7_back 26 = .ok (.getfield 12, 3) := by decide +kernel
theorem dX7_back_29 : decode cX7_back 29 = .ok (.getfield 169, 3) := by decide +kernel
theorem dX7_back_32 : decode cX7_back 32 = .ok (.invokevirtual 301, 3) := by decide +kernel
theorem dX7_back_35 : decode cX7_back 35 = .ok (.aload_n 0, 1) := by decide +kernel
theorem dX7_back_36 : decode cX7_back 36 = .ok (.getfield 12, 3) := by decide +kernel
theorem dX7_back_39 : decode cX7_back 39 = .ok (.getfield 169, 3) := by decide +kernel
theorem dX7_back_42 : decode cX7_back 42 = .ok (.ireturn, 1) := by decide +kernel
theorem dX7_isOwner_0 : decode cX7_isOwner 0 = .ok (.iload_n 0, 1) := by decide +kernel
theorem dX7_isOwner_1 : decode cX7_isOwner 1 = .ok (.ifCond .lt 13, 3) := by decide +kernel
theorem dX7_isOwner_4 : decode cX7_isOwner 4 = .ok (.iload_n 0, 1) := by decide +kernel
theorem dX7_isOwner_5 : decode cX7_isOwner 5 = .ok (.bipush 6, 2) := by decide +kernel
theorem dX7_isOwner_7 : decode cX7_isOwner 7 = .ok (.if_icmp .ge 7, 3) := by decide +kernel
theorem dX7_isOwner_10 : decode cX7_isOwner 10 = .ok (.iconst 1, 1) := by decide +kernel
theorem dX7_isOwner_11 : decode cX7_isOwner 11 = .ok (.goto 4, 3) := by decide +kernel
theorem dX7_isOwner_14 : decode cX7_isOwner 14 = .ok (.iconst 0, 1) := by decide +kernel
theorem dX7_isOwner_15 : decode cX7_isOwner 15 = .ok (.ireturn, 1) := by decide +kernel
theorem dX7_isMode_0 : decode cX7_isMode 0 = .ok (.iload_n 0, 1) := by decide +kernel
theorem dX7_isMode_1 : decode cX7_isMode 1 = .ok (.iconst 1, 1) := by decide +kernel
theorem dX7_isMode_2 : decode cX7_isMode 2 = .ok (.if_icmp .lt 12, 3) := by decide +kernel
theorem dX7_isMode_5 : decode cX7_isMode 5 = .ok (.iload_n 0, 1) := by decide +kernel
theorem dX7_isMode_6 : decode cX7_isMode 6 = .ok (.iconst 5, 1) := by decide +kernel
theorem dX7_isMode_7 : decode cX7_isMode 7 = .ok (.if_icmp .gt 7, 3) := by decide +kernel
theorem dX7_isMode_10 : decode cX7_isMode 10 = .ok (.iconst 1, 1) := by decide +kernel
theorem dX7_isMode_11 : decode cX7_isMode 11 = .ok (.goto 4, 3) := by decide +kernel
theorem dX7_isMode_14 : decode cX7_isMode 14 = .ok (.iconst 0, 1) := by decide +kernel
theorem dX7_isMode_15 : decode cX7_isMode 15 = .ok (.ireturn, 1) := by decide +kernel
theorem dX7_hasBit_0 : decode cX7_hasBit 0 = .ok (.iload_n 0, 1) := by decide +kernel
theorem dX7_hasBit_1 : decode cX7_hasBit 1 = .ok (.iload_n 1, 1) := by decide +kernel
theorem dX7_hasBit_2 : decode cX7_hasBit 2 = .ok (.ishr, 1) := by decide +kernel
theorem dX7_hasBit_3 : decode cX7_hasBit 3 = .ok (.iconst 1, 1) := by decide +kernel
theorem dX7_hasBit_4 : decode cX7_hasBit 4 = .ok (.iand, 1) := by decide +kernel
theorem dX7_hasBit_5 : decode cX7_hasBit 5 = .ok (.ifCond .eq 7, 3) := by decide +kernel
theorem dX7_hasBit_8 : decode cX7_hasBit 8 = .ok (.iconst 1, 1) := by decide +kernel
theorem dX7_hasBit_9 : decode cX7_hasBit 9 = .ok (.goto 4, 3) := by decide +kernel
theorem dX7_hasBit_12 : decode cX7_hasBit 12 = .ok (.iconst 0, 1) := by decide +kernel
theorem dX7_hasBit_13 : decode cX7_hasBit 13 = .ok (.ireturn, 1) := by decide +kernel
theorem dX8_in_0 : decode cX8_in 0 = .ok (.iload_n 0, 1) := by decide +kernel
theorem dX8_in_1 : decode cX8_in 1 = .ok (.iload_n 1, 1) := by decide +kernel
theorem dX8_in_2 : decode cX8_in 2 = .ok (.if_icmp .lt 12, 3) := by decide +kernel
theorem dX8_in_5 : decode cX8_in 5 = .ok (.iload_n 0, 1) := by decide +kernel
theorem dX8_in_6 : decode cX8_in 6 = .ok (.iload_n 2, 1) := by decide +kernel
theorem dX8_in_7 : decode cX8_in 7 = .ok (.if_icmp .gt 7, 3) := by decide +kernel
theorem dX8_in_10 : decode cX8_in 10 = .ok (.iconst 1, 1) := by decide +kernel
theorem dX8_in_11 : decode cX8_in 11 = .ok (.goto 4, 3) := by decide +kernel
theorem dX8_in_14 : decode cX8_in 14 = .ok (.iconst 0, 1) := by decide +kernel
theorem dX8_in_15 : decode cX8_in 15 = .ok (.ireturn, 1) := by decide +kernel
theorem dX8_has_0 : decode cX8_has 0 = .ok (.iload_n 0, 1) := by decide +kernel
theorem dX8_has_1 : decode cX8_has 1 = .ok (.iload_n 1, 1) := by decide +kernel
theorem dX8_has_2 : decode cX8_has 2 = .ok (.ishr, 1) := by decide +kernel
theorem dX8_has_3 : decode cX8_has 3 = .ok (.iconst 1, 1) := by decide +kernel
theorem dX8_has_4 : decode cX8_has 4 = .ok (.iand, 1) := by decide +kernel
theorem dX8_has_5 : decode cX8_has 5 = .ok (.iconst 1, 1) := by decide +kernel
theorem dX8_has_6 : decode cX8_has 6 = .ok (.if_icmp .ne 7, 3) := by decide +kernel
theorem dX8_has_9 : decode cX8_has 9 = .ok (.iconst 1, 1) := by decide +kernel
theorem dX8_has_10 : decode cX8_has 10 = .ok (.goto 4, 3) := by decide +kernel
theorem dX8_has_13 : decode cX8_has 13 = .ok (.iconst 0, 1) := by decide +kernel
theorem dX8_has_14 : decode cX8_has 14 = .ok (.ireturn, 1) := by decide +kernel
theorem dX8_bits_0 : decode cX8_bits 0 = .ok (.iconst 0, 1) := by decide +kernel
theorem dX8_bits_1 : decode cX8_bits 1 = .ok (.istore_n 1, 1) := by decide +kernel
theorem dX8_bits_2 : decode cX8_bits 2 = .ok (.iload_n 0, 1) := by decide +kernel
theorem dX8_bits_3 : decode cX8_bits 3 = .ok (.istore_n 2, 1) := by decide +kernel
theorem dX8_bits_4 : decode cX8_bits 4 = .ok (.iload_n 2, 1) := by decide +kernel
theorem dX8_bits_5 : decode cX8_bits 5 = .ok (.ifCond .eq 15, 3) := by decide +kernel
theorem dX8_bits_8 : decode cX8_bits 8 = .ok (.iinc 1 1, 3) := by decide +kernel
theorem dX8_bits_11 : decode cX8_bits 11 = .ok (.iload_n 2, 1) := by decide +kernel
theorem dX8_bits_12 : decode cX8_bits 12 = .ok (.iload_n 2, 1) := by decide +kernel
theorem dX8_bits_13 : decode cX8_bits 13 = .ok (.iconst 1, 1) := by decide +kernel
theorem dX8_bits_14 : decode cX8_bits 14 = .ok (.isub, 1) := by decide +kernel
theorem dX8_bits_15 : decode cX8_bits 15 = .ok (.iand, 1) := by decide +kernel
theorem dX8_bits_16 : decode cX8_bits 16 = .ok (.istore_n 2, 1) := by decide +kernel
theorem dX8_bits_17 : decode cX8_bits 17 = .ok (.goto (-13), 3) := by decide +kernel
theorem dX8_bits_20 : decode cX8_bits 20 = .ok (.iload_n 1, 1) := by decide +kernel
theorem dX8_bits_21 : decode cX8_bits 21 = .ok (.ireturn, 1) := by decide +kernel
theorem dX8_init_0 : decode cX8_init 0 = .ok (.aload_n 0, 1) := by decide +kernel
theorem dX8_init_1 : decode cX8_init 1 = .ok (.invokespecial 9, 3) := by decide +kernel
theorem dX8_init_4 : decode cX8_init 4 = .ok (.aload_n 0, 1) := by decide +kernel
theorem dX8_init_5 : decode cX8_init 5 = .ok (.sipush 441, 3) := by decide +kernel
theorem dX8_init_8 : decode cX8_init 8 = .ok (.newarray .int, 2) := by decide +kernel
theorem dX8_init_10 : decode cX8_init 10 = .ok (.putfield 15, 3) := by decide +kernel
theorem dX8_init_13 : decode cX8_init 13 = .ok (.aload_n 0, 1) := by decide +kernel
theorem dX8_init_14 : decode cX8_init 14 = .ok (.sipush 441, 3) := by decide +kernel
theorem dX8_init_17 : decode cX8_init 17 = .ok (.newarray .int, 2) := by decide +kernel
theorem dX8_init_19 : decode cX8_init 19 = .ok (.putfield 19, 3) := by decide +kernel
theorem dX8_init_22 : decode cX8_init 22 = .ok (.aload_n 0, 1) := by decide +kernel
theorem dX8_init_23 : decode cX8_init 23 = .ok (.sipush 441, 3) := by decide +kernel
theorem dX8_init_26 : decode cX8_init 26 = .ok (.newarray .int, 2) := by decide +kernel
theorem dX8_init_28 : decode cX8_init 28 = .ok (.putfield 22, 3) := by decide +kernel
theorem dX8_init_31 : decode cX8_init 31 = .ok (.aload_n 0, 1) := by decide +kernel
theorem dX8_init_32 : decode cX8_init 32 = .ok (.bipush 12, 2) := by decide +kernel
theorem dX8_init_34 : decode cX8_init 34 = .ok (.newarray .int, 2) := by decide +kernel
theorem dX8_init_36 : decode cX8_init 36 = .ok (.putfield 25, 3) := by decide +kernel
theorem dX8_init_39 : decode cX8_init 39 = .ok (.aload_n 0, 1) := by decide +kernel
theorem dX8_init_40 : decode cX8_init 40 = .ok (.bipush 12, 2) := by decide +kernel
theorem dX8_init_42 : decode cX8_init 42 = .ok (.newarray .int, 2) := by decide +kernel
theorem dX8_init_44 : decode cX8_init 44 = .ok (.putfield 28, 3) := by decide +kernel
theorem dX8_init_47 : decode cX8_init 47 = .ok (.aload_n 0, 1) := by decide +kernel
theorem dX8_init_48 : decode cX8_init 48 = .ok (.bipush 12, 2) := by decide +kernel
theorem dX8_init_50 : decode cX8_init 50 = .ok (.newarray .int, 2) := by decide +kernel
theorem dX8_init_52 : decode cX8_init 52 = .ok (.putfield 31, 3) := by decide +kernel
theorem dX8_init_55 : decode cX8_init 55 = .ok (.aload_n 0, 1) := by decide +kernel
theorem dX8_init_56 : decode cX8_init 56 = .ok (.bipush 6, 2) := by decide +kernel
theorem dX8_init_58 : decode cX8_init 58 = .ok (.newarray .int, 2) := by decide +kernel
theorem dX8_init_60 : decode cX8_init 60 = .ok (.putfield 34, 3) := by decide +kernel
theorem dX8_init_63 : decode cX8_init 63 = .ok (.aload_n 0, 1) := by decide +kernel
theorem dX8_init_64 : decode cX8_init 64 = .ok (.bipush 120, 2) := by decide +kernel
theorem dX8_init_66 : decode cX8_init 66 = .ok (.newarray .int, 2) := by decide +kernel
theorem dX8_init_68 : decode cX8_init 68 = .ok (.putfield 37, 3) := by decide +kernel
theorem dX8_init_71 : decode cX8_init 71 = .ok (.aload_n 0, 1) := by decide +kernel
theorem dX8_init_72 : decode cX8_init 72 = .ok (.sipush 6000, 3) := by decide +kernel
theorem dX8_init_75 : decode cX8_init 75 = .ok (.newarray .int, 2) := by decide +kernel
theorem dX8_init_77 : decode cX8_init 77 = .ok (.putfield 40, 3) := by decide +kernel
theorem dX8_init_80 : decode cX8_init 80 = .ok (.aload_n 0, 1) := by decide +kernel
theorem dX8_init_81 : decode cX8_init 81 = .ok (.iconst 3, 1) := by decide +kernel
theorem dX8_init_82 : decode cX8_init 82 = .ok (.newarray .int, 2) := by decide +kernel
theorem dX8_init_84 : decode cX8_init 84 = .ok (.dup, 1) := by decide +kernel
theorem dX8_init_85 : decode cX8_init 85 = .ok (.iconst 0, 1) := by decide +kernel
theorem dX8_init_86 : decode cX8_init 86 = .ok (.iconst (-1), 1) := by decide +kernel
theorem dX8_init_87 : decode cX8_init 87 = .ok (.iastore, 1) := by decide +kernel
theorem dX8_init_88 : decode cX8_init 88 = .ok (.dup, 1) := by decide +kernel
theorem dX8_init_89 : decode cX8_init 89 = .ok (.iconst 1, 1) := by decide +kernel
theorem dX8_init_90 : decode cX8_init 90 = .ok (.iconst (-1), 1) := by decide +kernel
theorem dX8_init_91 : decode cX8_init 91 = .ok (.iastore, 1) := by decide +kernel
theorem dX8_init_92 : decode cX8_init 92 = .ok (.dup, 1) := by decide +kernel
theorem dX8_init_93 : decode cX8_init 93 = .ok (.iconst 2, 1) := by decide +kernel
theorem dX8_init_94 : decode cX8_init 94 = .ok (.iconst (-1), 1) := by decide +kernel
theorem dX8_init_95 : decode cX8_init 95 = .ok (.iastore, 1) := by decide +kernel
theorem dX8_init_96 : decode cX8_init 96 = .ok (.putfield 43, 3) := by decide +kernel
theorem dX8_init_99 : decode cX8_init 99 = .ok (.aload_n 0, 1) := by decide +kernel
theorem dX8_init_100 : decode cX8_init 100 = .ok (.bipush 108, 2) := by decide +kernel
theorem dX8_init_102 : decode cX8_init 102 = .ok (.newarray .int, 2) := by decide +kernel
theorem dX8_init_104 : decode cX8_init 104 = .ok (.putfield 46, 3) := by decide +kernel
theorem dX8_init_107 : decode cX8_init 107 = .ok (.aload_n 0, 1) := by decide +kernel
theorem dX8_init_108 : decode cX8_init 108 = .ok (.sipush 441, 3) := by decide +kernel
theorem dX8_init_111 : decode cX8_init 111 = .ok (.newarray .int, 2) := by decide +kernel
theorem dX8_init_113 : decode cX8_init 113 = .ok (.putfield 49, 3) := by decide +kernel
theorem dX8_init_116 : decode cX8_init 116 = .ok (.return_, 1) := by decide +kernel
theorem dX8_copies_0 : decode cX8_copies 0 = .ok (.iconst 0, 1) := by decide +kernel
theorem dX8_copies_1 : decode cX8_copies 1 = .ok (.istore_n 2, 1) := by decide +kernel
theorem dX8_copies_2 : decode cX8_copies 2 = .ok (.iload_n 2, 1) := by decide +kernel
theorem dX8_copies_3 : decode cX8_copies 3 = .ok (.sipush 441, 3) := by decide +kernel
theorem dX8_copies_6 : decode cX8_copies 6 = .ok (.if_icmp .ge 15, 3) := by decide +kernel
theorem dX8_copies_9 : decode cX8_copies 9 = .ok (.aload_n 1, 1) := by decide +kernel
theorem dX8_copies_10 : decode cX8_copies 10 = .ok (.iload_n 2, 1) := by decide +kernel
theorem dX8_copies_11 : decode cX8_copies 11 = .ok (.aload_n 0, 1) := by decide +kernel
theorem dX8_copies_12 : decode cX8_copies 12 = .ok (.iload_n 2, 1) := by decide +kernel
theorem dX8_copies_13 : decode cX8_copies 13 = .ok (.iaload, 1) := by decide +kernel
theorem dX8_copies_14 : decode cX8_copies 14 = .ok (.iastore, 1) := by decide +kernel
theorem dX8_copies_15 : decode cX8_copies 15 = .ok (.iinc 2 1, 3) := by decide +kernel
theorem dX8_copies_18 : decode cX8_copies 18 = .ok (.goto (-16), 3) := by decide +kernel
theorem dX8_copies_21 : decode cX8_copies 21 = .ok (.return_, 1) := by decide +kernel
theorem dX8_laysAside_0 : decode cX8_laysAside 0 = .ok (.aload_n 0, 1) := by decide +kernel
theorem dX8_laysAside_1 : decode cX8_laysAside 1 = .ok (.getfield 15, 3) := by decide +kernel
theorem dX8_laysAside_4 : decode cX8_laysAside 4 = .ok (.aload_n 0, 1) := by decide +kernel
theorem dX8_laysAside_5 : decode cX8_laysAside 5 = .ok (.getfield 19, 3) := by decide +kernel
theorem dX8_laysAside_8 : decode cX8_laysAside 8 = .ok (.invokestatic 52, 3) := by decide +kernel
theorem dX8_laysAside_11 : decode cX8_laysAside 11 = .ok (.aload_n 0, 1) := by decide +kernel
theorem dX8_laysAside_12 : decode cX8_laysAside 12 = .ok (.aload_n 0, 1) := by decide +kernel
theorem dX8_laysAside_13 : decode cX8_laysAside 13 = .ok (.getfield 56, 3) := by decide +kernel
theorem dX8_laysAside_16 : decode cX8_laysAside 16 = .ok (.putfield 59, 3) := by decide +kernel
theorem dX8_laysAside_19 : decode cX8_laysAside 19 = .ok (.return_, 1) := by decide +kernel
theorem dX8_laysBack_0 : decode cX8_laysBack 0 = .ok (.aload_n 0, 1) := by decide +kernel
theorem dX8_laysBack_1 : decode cX8_laysBack 1 = .ok (.getfield 19, 3) := by decide +kernel
theorem dX8_laysBack_4 : decode cX8_laysBack 4 = .ok (.aload_n 0, 1) := by decide +kernel
theorem dX8_laysBack_5 : decode cX8_laysBack 5 = .ok (.getfield 15, 3) := by decide +kernel
theorem dX8_laysBack_8 : decode cX8_laysBack 8 = .ok (.invokestatic 52, 3) := by decide +kernel
theorem dX8_laysBack_11 : decode cX8_laysBack 11 = .ok (.aload_n 0, 1) := by decide +kernel
theorem dX8_laysBack_12 : decode cX8_laysBack 12 = .ok (.aload_n 0, 1) := by decide +kernel
theorem dX8_laysBack_13 : decode cX8_laysBack 13 = .ok (.getfield 59, 3) := by decide +kernel
theorem dX8_laysBack_16 : decode cX8_laysBack 16 = .ok (.putfield 56, 3) := by decide +kernel
theorem dX8_laysBack_19 : decode cX8_laysBack 19 = .ok (.return_, 1) := by decide +kernel
theorem dX8_isThing_0 : decode cX8_isThing 0 = .ok (.iload_n 1, 1) := by decide +kernel
theorem dX8_isThing_1 : decode cX8_isThing 1 = .ok (.iconst 0, 1) := by decide +kernel
theorem dX8_isThing_2 : decode cX8_isThing 2 = .ok (.aload_n 0, 1) := by decide +kernel
theorem dX8_isThing_3 : decode cX8_isThing 3 = .ok (.getfield 15, 3) := by decide +kernel
theorem dX8_isThing_6 : decode cX8_isThing 6 = .ok (.iconst 0, 1) := by decide +kernel
theorem dX8_isThing_7 : decode cX8_isThing 7 = .ok (.iaload, 1) := by decide +kernel
theorem dX8_isThing_8 : decode cX8_isThing 8 = .ok (.iconst 1, 1) := by decide +kernel
theorem dX8_isThing_9 : decode cX8_isThing 9 = .ok (.isub, 1) := by decide +kernel
theorem dX8_isThing_10 : decode cX8_isThing 10 = .ok (.invokestatic 62, 3) := by decide +kernel
theorem dX8_isThing_13 : decode cX8_isThing 13 = .ok (.ireturn, 1) := by decide +kernel
theorem dX8_isOwner_0 : decode cX8_isOwner 0 = .ok (.iload_n 0, 1) := by decide +kernel
theorem dX8_isOwner_1 : decode cX8_isOwner 1 = .ok (.iconst 0, 1) := by decide +kernel
theorem dX8_isOwner_2 : decode cX8_isOwner 2 = .ok (.iconst 5, 1) := by decide +kernel
theorem dX8_isOwner_3 : decode cX8_isOwner 3 = .ok (.invokestatic 62, 3) := by decide +kernel
theorem dX8_isOwner_6 : decode cX8_isOwner 6 = .ok (.ireturn, 1) := by decide +kernel
theorem dX8_isAsked_0 : decode cX8_isAsked 0 = .ok (.iload_n 0, 1) := by decide +kernel
theorem dX8_isAsked_1 : decode cX8_isAsked 1 = .ok (.iconst 2, 1) := by decide +kernel
theorem dX8_isAsked_2 : decode cX8_isAsked 2 = .ok (.if_icmp .eq 13, 3) := by decide +kernel
theorem dX8_isAsked_5 : decode cX8_isAsked 5 = .ok (.iload_n 0, 1) := by decide +kernel
theorem dX8_isAsked_6 : decode cX8_isAsked 6 = .ok (.iconst 4, 1) := by decide +kernel
theorem dX8_isAsked_7 : decode cX8_isAsked 7 = .ok (.if_icmp .eq 8, 3) := by decide +kernel
theorem dX8_isAsked_10 : decode cX8_isAsked 10 = .ok (.iload_n 0, 1) := by decide +kernel
theorem dX8_isAsked_11 : decode cX8_isAsked 11 = .ok (.iconst 5, 1) := by decide +kernel
theorem dX8_isAsked_12 : decode cX8_isAsked 12 = .ok (.if_icmp .ne 7, 3) := by decide +kernel
theorem dX8_isAsked_15 : decode cX8_isAsked 15 = .ok (.iconst 1, 1) := by decide +kernel
theorem dX8_isAsked_16 : decode cX8_isAsked 16 = .ok (.goto 4, 3) := by decide +kernel
theorem dX8_isAsked_19 : decode cX8_isAsked 19 = .ok (.iconst 0, 1) := by decide +kernel
theorem dX8_isAsked_20 : decode cX8_isAsked 20 = .ok (.ireturn, 1) := by decide +kernel
theorem dX8_isAsk_0 : decode cX8_isAsk 0 = .ok (.iload_n 1, 1) := by decide +kernel
theorem dX8_isAsk_1 : decode cX8_isAsk 1 = .ok (.invokestatic 66, 3) := by decide +kernel
theorem dX8_isAsk_4 : decode cX8_isAsk 4 = .ok (.ifCond .eq 22, 3) := by decide +kernel
theorem dX8_isAsk_7 : decode cX8_isAsk 7 = .ok (.aload_n 0, 1) := by decide +kernel
theorem dX8_isAsk_8 : decode cX8_isAsk 8 = .ok (.iload_n 2, 1) := by decide +kernel
theorem dX8_isAsk_9 : decode cX8_isAsk 9 = .ok (.invokevirtual 70, 3) := by decide +kernel
theorem dX8_isAsk_12 : decode cX8_isAsk 12 = .ok (.ifCond .eq 14, 3) := by decide +kernel
theorem dX8_isAsk_15 : decode cX8_isAsk 15 = .ok (.iload_n 3, 1) := by decide +kernel
theorem dX8_isAsk_16 : decode cX8_isAsk 16 = .ok (.invokestatic 73, 3) := by decide +kernel
theorem dX8_isAsk_19 : decode cX8_isAsk 19 = .ok (.ifCond .eq 7, 3) := by decide +kernel
theorem dX8_isAsk_22 : decode cX8_isAsk 22 = .ok (.iconst 1, 1) := by decide +kernel
theorem dX8_isAsk_23 : decode cX8_isAsk 23 = .ok (.goto 4, 3) := by decide +kernel
theorem dX8_isAsk_26 : decode cX8_isAsk 26 = .ok (.iconst 0, 1) := by decide +kernel
theorem dX8_isAsk_27 : decode cX8_isAsk 27 = .ok (.ireturn, 1) := by decide +kernel
theorem dX8_at_0 : decode cX8_at 0 = .ok (.bipush 81, 2) := by decide +kernel
theorem dX8_at_2 : decode cX8_at 2 = .ok (.iload_n 0, 1) := by decide +kernel
theorem dX8_at_3 : decode cX8_at 3 = .ok (.bipush 12, 2) := by decide +kernel
theorem dX8_at_5 : decode cX8_at 5 = .ok (.imul, 1) := by decide +kernel
theorem dX8_at_6 : decode cX8_at 6 = .ok (.iload_n 1, 1) := by decide +kernel
theorem dX8_at_7 : decode cX8_at 7 = .ok (.iadd, 1) := by decide +kernel
theorem dX8_at_8 : decode cX8_at 8 = .ok (.iconst 5, 1) := by decide +kernel
theorem dX8_at_9 : decode cX8_at 9 = .ok (.imul, 1) := by decide +kernel
theorem dX8_at_10 : decode cX8_at 10 = .ok (.iadd, 1) := by decide +kernel
theorem dX8_at_11 : decode cX8_at 11 = .ok (.iload_n 2, 1) := by decide +kernel
theorem dX8_at_12 : decode cX8_at 12 = .ok (.iadd, 1) := by decide +kernel
theorem dX8_at_13 : decode cX8_at 13 = .ok (.iconst 1, 1) := by decide +kernel
theorem dX8_at_14 : decode cX8_at 14 = .ok (.isub, 1) := by decide +kernel
theorem dX8_at_15 : decode cX8_at 15 = .ok (.ireturn, 1) := by decide +kernel
theorem dX8_together_0 : decode cX8_together 0 = .ok (.iload_n 0, 1) := by decide +kernel
theorem dX8_together_1 : decode cX8_together 1 = .ok (.iconst 1, 1) := by decide +kernel
theorem dX8_together_2 : decode cX8_together 2 = .ok (.if_icmp .ne 8, 3) := by decide +kernel
theorem dX8_together_5 : decode cX8_together 5 = .ok (.bipush 30, 2) := by decide +kernel
theorem dX8_together_7 : decode cX8_together 7 = .ok (.goto 34, 3) := by decide +kernel
theorem dX8_together_10 : decode cX8_together 10 = .ok (.iload_n 0, 1) := by decide +kernel
theorem dX8_together_11 : decode cX8_together 11 = .ok (.iconst 2, 1) := by decide +kernel
theorem dX8_together_12 : decode cX8_together 12 = .ok (.if_icmp .ne 8, 3) := by decide +kernel
theorem dX8_together_15 : decode cX8_together 15 = .ok (.bipush 22, 2) := by decide +kernel
theorem dX8_together_17 : decode cX8_together 17 = .ok (.goto 24, 3) := by decide +kernel
theorem dX8_together_20 : decode cX8_together 20 = .ok (.iload_n 0, 1) := by decide +kernel
theorem dX8_together_21 : decode cX8_together 21 = .ok (.iconst 3, 1) := by decide +kernel
theorem dX8_together_22 : decode cX8_together 22 = .ok (.if_icmp .ne 8, 3) := by decide +kernel
theorem dX8_together_25 : decode cX8_together 25 = .ok (.bipush 10, 2) := by decide +kernel
theorem dX8_together_27 : decode cX8_together 27 = .ok (.goto 14, 3) := by decide +kernel
theorem dX8_together_30 : decode cX8_together 30 = .ok (.iload_n 0, 1) := by decide +kernel
theorem dX8_together_31 : decode cX8_together 31 = .ok (.iconst 4, 1) := by decide +kernel
theorem dX8_together_32 : decode cX8_together 32 = .ok (.if_icmp .ne 8, 3) := by decide +kernel
theorem dX8_together_35 : decode cX8_together 35 = .ok (.bipush 6, 2) := by decide +kernel
theorem dX8_together_37 : decode cX8_together 37 = .ok (.goto 4, 3) := by decide +kernel
theorem dX8_together_40 : decode cX8_together 40 = .ok (.iconst 0, 1) := by decide +kernel
theorem dX8_together_41 : decode cX8_together 41 = .ok (.ireturn, 1) := by decide +kernel
theorem dX8_goTogether_0 : decode cX8_goTogether 0 = .ok (.iload_n 0, 1) := by decide +kernel
theorem dX8_goTogether_1 : decode cX8_goTogether 1 = .ok (.invokestatic 76, 3) := by decide +kernel
theorem dX8_goTogether_4 : decode cX8_goTogether 4 = .ok (.iload_n 1, 1) := by decide +kernel
theorem dX8_goTogether_5 : decode cX8_goTogether 5 = .ok (.invokestatic 80, 3) := by decide +kernel
theorem dX8_goTogether_8 : decode cX8_goTogether 8 = .ok (.ireturn, 1) := by decide +kernel
theorem dX8_thing_0 : decode cX8_thing 0 = .ok (.iload_n 1, 1) := by decide +kernel
theorem dX8_thing_1 : decode cX8_thing 1 = .ok (.iconst (-1), 1) := by decide +kernel
theorem dX8_thing_2 : decode cX8_thing 2 = .ok (.if_icmp .eq 11, 3) := by decide +kernel
theorem dX8_thing_5 : decode cX8_thing 5 = .ok (.aload_n 0, 1) := by decide +kernel
theorem dX8_thing_6 : decode cX8_thing 6 = .ok (.iload_n 1, 1) := by decide +kernel
theorem dX8_thing_7 : decode cX8_thing 7 = .ok (.invokevirtual 70, 3) := by decide +kernel
theorem dX8_thing_10 : decode cX8_thing 10 = .ok (.ifCond .eq 12, 3) := by decide +kernel
theorem dX8_thing_13 : decode cX8_thing 13 = .ok (.iload_n 2, 1) := by decide +kernel
theorem dX8_thing_14 : decode cX8_thing 14 = .ok (.iconst 0, 1) := by decide +kernel
theorem dX8_thing_15 : decode cX8_thing 15 = .ok (.iconst 1, 1) := by decide +kernel
theorem dX8_thing_16 : decode cX8_thing 16 = .ok (.invokestatic 62, 3) := by decide +kernel
theorem dX8_thing_19 : decode cX8_thing 19 = .ok (.ifCond .ne 5, 3) := by decide +kernel
theorem dX8_thing_22 : decode cX8_thing 22 = .ok (.iconst (-1), 1) := by decide +kernel
theorem dX8_thing_23 : decode cX8_thing 23 = .ok (.ireturn, 1) := by decide +kernel
theorem dX8_thing_24 : decode cX8_thing 24 = .ok (.aload_n 0, 1) := by decide +kernel
theorem dX8_thing_25 : decode cX8_thing 25 = .ok (.getfield 15, 3) := by decide +kernel
theorem dX8_thing_28 : decode cX8_thing 28 = .ok (.iconst 0, 1) := by decide +kernel
theorem dX8_thing_29 : decode cX8_thing 29 = .ok (.iaload, 1) := by decide +kernel
theorem dX8_thing_30 : decode cX8_thing 30 = .ok (.bipush 12, 2) := by decide +kernel
theorem dX8_thing_32 : decode cX8_thing 32 = .ok (.if_icmp .ne 6, 3) := by decide +kernel
theorem dX8_thing_35 : decode cX8_thing 35 = .ok (.bipush (-3), 2) := by decide +kernel
theorem dX8_thing_37 : decode cX8_thing 37 = .ok (.ireturn, 1) := by decide +kernel
theorem dX8_thing_38 : decode cX8_thing 38 = .ok (.aload_n 0, 1) := by decide +kernel
theorem dX8_thing_39 : decode cX8_thing 39 = .ok (.getfield 15, 3) := by decide +kernel
theorem dX8_thing_42 : decode cX8_thing 42 = .ok (.iconst 0, 1) := by decide +kernel
theorem dX8_thing_43 : decode cX8_thing 43 = .ok (.iaload, 1) := by decide +kernel
theorem dX8_thing_44 : decode cX8_thing 44 = .ok (.istore_n 3, 1) := by decide +kernel
theorem dX8_thing_45 : decode cX8_thing 45 = .ok (.aload_n 0, 1) := by decide +kernel
theorem dX8_thing_46 : decode cX8_thing 46 = .ok (.getfield 15, 3) := by decide +kernel
theorem dX8_thing_49 : decode cX8_thing 49 = .ok (.iconst 1, 1) := by decide +kernel
theorem dX8_thing_50 : decode cX8_thing 50 = .ok (.iload_n 3, 1) := by decide +kernel
theorem dX8_thing_51 : decode cX8_thing 51 = .ok (.iadd, 1) := by decide +kernel
theorem dX8_thing_52 : decode cX8_thing 52 = .ok (.iload_n 1, 1) := by decide +kernel
theorem dX8_thing_53 : decode cX8_thing 53 = .ok (.iastore, 1) := by decide +kernel
theorem dX8_thing_54 : decode cX8_thing 54 = .ok (.aload_n 0, 1) := by decide +kernel
theorem dX8_thing_55 : decode cX8_thing 55 = .ok (.getfield 15, 3) := by decide +kernel
theorem dX8_thing_58 : decode cX8_thing 58 = .ok (.bipush 13, 2) := by decide +kernel
theorem dX8_thing_60 : decode cX8_thing 60 = .ok (.iload_n 3, 1) := by decide +kernel
theorem dX8_thing_61 : decode cX8_thing 61 = .ok (.iadd, 1) := by decide +kernel
theorem dX8_thing_62 : decode cX8_thing 62 = .ok (.iload_n 2, 1) := by decide +kernel
theorem dX8_thing_63 : decode cX8_thing 63 = .ok (.iastore, 1) := by decide +kernel
theorem dX8_thing_64 : decode cX8_thing 64 = .ok (.aload_n 0, 1) := by decide +kernel
theorem dX8_thing_65 : decode cX8_thing 65 = .ok (.getfield 25, 3) := by decide +kernel
theorem dX8_thing_68 : decode cX8_thing 68 = .ok (.iload_n 3, 1) := by decide +kernel
theorem dX8_thing_69 : decode cX8_thing 69 = .ok (.iconst 0, 1) := by decide +kernel
theorem dX8_thing_70 : decode cX8_thing 70 = .ok (.iastore, 1) := by decide +kernel
theorem dX8_thing_71 : decode cX8_thing 71 = .ok (.aload_n 0, 1) := by decide +kernel
theorem dX8_thing_72 : decode cX8_thing 72 = .ok (.getfield 28, 3) := by decide +kernel
theorem dX8_thing_75 : decode cX8_thing 75 = .ok (.iload_n 3, 1) := by decide +kernel
theorem dX8_thing_76 : decode cX8_thing 76 = .ok (.iconst 0, 1) := by decide +kernel
theorem dX8_thing_77 : decode cX8_thing 77 = .ok (.iastore, 1) := by decide +kernel
theorem dX8_thing_78 : decode cX8_thing 78 = .ok (.iconst 0, 1) := by decide +kernel
theorem dX8_thing_79 : decode cX8_thing 79 = .ok (.istore 4, 2) := by decide +kernel
theorem dX8_thing_81 : decode cX8_thing 81 = .ok (.iload 4, 2) := by decide +kernel
theorem dX8_thing_83 : decode cX8_thing 83 = .ok (.bipush 6, 2) := by decide +kernel
theorem dX8_thing_85 : decode cX8_thing 85 = .ok (.if_icmp .ge 38, 3) := by decide +kernel
theorem dX8_thing_88 : decode cX8_thing 88 = .ok (.iconst 1, 1) := by decide +kernel
theorem dX8_thing_89 : decode cX8_thing 89 = .ok (.istore 5, 2) := by decide +kernel
theorem dX8_thing_91 : decode cX8_thing 91 = .ok (.iload 5, 2) := by decide +kernel
theorem dX8_thing_93 : decode cX8_thing 93 = .ok (.iconst 5, 1) := by decide +kernel
theorem dX8_thing_94 : decode cX8_thing 94 = .ok (.if_icmp .gt 23, 3) := by decide +kernel
theorem dX8_thing_97 : decode cX8_thing 97 = .ok (.aload_n 0, 1) := by decide +kernel
theorem dX8_thing_98 : decode cX8_thing 98 = .ok (.getfield 15, 3) := by decide +kernel
theorem dX8_thing_101 : decode cX8_thing 101 = .ok (.iload 4, 2) := by decide +kernel
theorem dX8_thing_103 : decode cX8_thing 103 = .ok (.iload_n 3, 1) := by decide +kernel
theorem dX8_thing_104 : decode cX8_thing 104 = .ok (.iload 5, 2) := by decide +kernel
theorem dX8_thing_106 : decode cX8_thing 106 = .ok (.invokestatic 84, 3) := by decide +kernel
theorem dX8_thing_109 : decode cX8_thing 109 = .ok (.iconst 0, 1) := by decide +kernel
theorem dX8_thing_110 : decode cX8_thing 110 = .ok (.iastore, 1) := by decide +kernel
theorem dX8_thing_111 : decode cX8_thing 111 = .ok (.iinc 5 1, 3) := by decide +kernel
theorem dX8_thing_114 : decode cX8_thing 114 = .ok (.goto (-23), 3) := by decide +kernel
theorem dX8_thing_117 : decode cX8_thing 117 = .ok (.iinc 4 1, 3) := by decide +kernel
theorem dX8_thing_120 : decode cX8_thing 120 = .ok (.goto (-39), 3) := by decide +kernel
theorem dX8_thing_123 : decode cX8_thing 123 = .ok (.aload_n 0, 1) := by decide +kernel
theorem dX8_thing_124 : decode cX8_thing 124 = .ok (.getfield 15, 3) := by decide +kernel
theorem dX8_thing_127 : decode cX8_thing 127 = .ok (.iconst 0, 1) := by decide +kernel
theorem dX8_thing_128 : decode cX8_thing 128 = .ok (.dup2, 1) := by decide +kernel
theorem dX8_thing_129 : decode cX8_thing 129 = .ok (.iaload, 1) := by decide +kernel
theorem dX8_thing_130 : decode cX8_thing 130 = .ok (.iconst 1, 1) := by decide +kernel
theorem dX8_thing_131 : decode cX8_thing 131 = .ok (.iadd, 1) := by decide +kernel
theorem dX8_thing_132 : decode cX8_thing 132 = .ok (.iastore, 1) := by decide +kernel
theorem dX8_thing_133 : decode cX8_thing 133 = .ok (.iload_n 3, 1) := by decide +kernel
theorem dX8_thing_134 : decode cX8_thing 134 = .ok (.ireturn, 1) := by decide +kernel
theorem dX8_wholes_0 : decode cX8_wholes 0 = .ok (.iconst 0, 1) := by decide +kernel
theorem dX8_wholes_1 : decode cX8_wholes 1 = .ok (.istore_n 2, 1) := by decide +kernel
theorem dX8_wholes_2 : decode cX8_wholes 2 = .ok (.aload_n 0, 1) := by decide +kernel
theorem dX8_wholes_3 : decode cX8_wholes 3 = .ok (.getfield 15, 3) := by decide +kernel
theorem dX8_wholes_6 : decode cX8_wholes 6 = .ok (.iconst 1, 1) := by decide +kernel
theorem dX8_wholes_7 : decode cX8_wholes 7 = .ok (.iload_n 1, 1) := by decide +kernel
theorem dX8_wholes_8 : decode cX8_wholes 8 = .ok (.iadd, 1) := by decide +kernel
theorem dX8_wholes_9 : decode cX8_wholes 9 = .ok (.iaload, 1) := by decide +kernel
theorem dX8_wholes_10 : decode cX8_wholes 10 = .ok (.istore_n 3, 1) := by decide +kernel
theorem dX8_wholes_11 : decode cX8_wholes 11 = .ok (.iload_n 3, 1) := by decide +kernel
theorem dX8_wholes_12 : decode cX8_wholes 12 = .ok (.iconst (-1), 1) := by decide +kernel
theorem dX8_wholes_13 : decode cX8_wholes 13 = .ok (.if_icmp .eq 18, 3) := by decide +kernel
theorem dX8_wholes_16 : decode cX8_wholes 16 = .ok (.iinc 2 1, 3) := by decide +kernel
theorem dX8_wholes_19 : decode cX8_wholes 19 = .ok (.aload_n 0, 1) := by decide +kernel
theorem dX8_wholes_20 : decode cX8_wholes 20 = .ok (.getfield 15, 3) := by decide +kernel
theorem dX8_wholes_23 : decode cX8_wholes 23 = .ok (.iconst 1, 1) := by decide +kernel
theorem dX8_wholes_24 : decode cX8_wholes 24 = .ok (.iload_n 3, 1) := by decide +kernel
theorem dX8_wholes_25 : decode cX8_wholes 25 = .ok (.iadd, 1) := by decide +kernel
theorem dX8_wholes_26 : decode cX8_wholes 26 = .ok (.iaload, 1) := by decide +kernel
theorem dX8_wholes_27 : decode cX8_wholes 27 = .ok (.istore_n 3, 1) := by decide +kernel
theorem dX8_wholes_28 : decode cX8_wholes 28 = .ok (.goto (-17), 3) := by decide +kernel
theorem dX8_wholes_31 : decode cX8_wholes 31 = .ok (.iload_n 2, 1) := by decide +kernel
theorem dX8_wholes_32 : decode cX8_wholes 32 = .ok (.ireturn, 1) := by decide +kernel
theorem dX8_partsOf_0 : decode cX8_partsOf 0 = .ok (.iconst 0, 1) := by decide +kernel
theorem dX8_partsOf_1 : decode cX8_partsOf 1 = .ok (.istore_n 2, 1) := by decide +kernel
theorem dX8_partsOf_2 : decode cX8_partsOf 2 = .ok (.iconst 0, 1) := by decide +kernel
theorem dX8_partsOf_3 : decode cX8_partsOf 3 = .ok (.istore_n 3, 1) := by decide +kernel
theorem dX8_partsOf_4 : decode cX8_partsOf 4 = .ok (.iload_n 3, 1) := by decide +kernel
theorem dX8_partsOf_5 : decode cX8_partsOf 5 = .ok (.aload_n 0, 1) := by decide +kernel
theorem dX8_partsOf_6 : decode cX8_partsOf 6 = .ok (.getfield 15, 3) := by decide +kernel
theorem dX8_partsOf_9 : decode cX8_partsOf 9 = .ok (.iconst 0, 1) := by decide +kernel
theorem dX8_partsOf_10 : decode cX8_partsOf 10 = .ok (.iaload, 1) := by decide +kernel
theorem dX8_partsOf_11 : decode cX8_partsOf 11 = .ok (.if_icmp .ge 31, 3) := by decide +kernel
theorem dX8_partsOf_14 : decode cX8_partsOf 14 = .ok (.iload_n 2, 1) := by decide +kernel
theorem dX8_partsOf_15 : decode cX8_partsOf 15 = .ok (.aload_n 0, 1) := by decide +kernel
theorem dX8_partsOf_16 : decode cX8_partsOf 16 = .ok (.getfield 15, 3) := by decide +kernel
theorem dX8_partsOf_19 : decode cX8_partsOf 19 = .ok (.iconst 1, 1) := by decide +kernel
theorem dX8_partsOf_20 : decode cX8_partsOf 20 = .ok (.iload_n 3, 1) := by decide +kernel
theorem dX8_partsOf_21 : decode cX8_partsOf 21 = .ok (.iadd, 1) := by decide +kernel
theorem dX8_partsOf_22 : decode cX8_partsOf 22 = .ok (.iaload, 1) := by decide +kernel
theorem dX8_partsOf_23 : decode cX8_partsOf 23 = .ok (.iload_n 1, 1) := by decide +kernel
theorem dX8_partsOf_24 : decode cX8_partsOf 24 = .ok (.if_icmp .ne 9, 3) := by decide +kernel
theorem dX8_partsOf_27 : decode cX8_partsOf 27 = .ok (.iconst 1, 1) := by decide +kernel
theorem dX8_partsOf_28 : decode cX8_partsOf 28 = .ok (.iload_n 3, 1) := by decide +kernel
theorem dX8_partsOf_29 : decode cX8_partsOf 29 = .ok (.ishl, 1) := by decide +kernel
theorem dX8_partsOf_30 : decode cX8_partsOf 30 = .ok (.goto 4, 3) := by decide +kernel
theorem dX8_partsOf_33 : decode cX8_partsOf 33 = .ok (.iconst 0, 1) := by decide +kernel
theorem dX8_partsOf_34 : decode cX8_partsOf 34 = .ok (.ior, 1) := by decide +kernel
theorem dX8_partsOf_35 : decode cX8_partsOf 35 = .ok (.istore_n 2, 1) := by decide +kernel
theorem dX8_partsOf_36 : decode cX8_partsOf 36 = .ok (.iinc 3 1, 3) := by decide +kernel
theorem dX8_partsOf_39 : decode cX8_partsOf 39 = .ok (.goto (-35), 3) := by decide +kernel
theorem dX8_partsOf_42 : decode cX8_partsOf 42 = .ok (.iload_n 2, 1) := by decide +kernel
theorem dX8_partsOf_43 : decode cX8_partsOf 43 = .ok (.ireturn, 1) := by decide +kernel
theorem dX8_countsAt_0 : decode cX8_countsAt 0 = .ok (.iconst 0, 1) := by decide +kernel
theorem dX8_countsAt_1 : decode cX8_countsAt 1 = .ok (.istore_n 2, 1) := by decide +kernel
theorem dX8_countsAt_2 : decode cX8_countsAt 2 = .ok (.iconst 0, 1) := by decide +kernel
theorem dX8_countsAt_3 : decode cX8_countsAt 3 = .ok (.istore_n 3, 1) := by decide +kernel
theorem dX8_countsAt_4 : decode cX8_countsAt 4 = .ok (.iload_n 3, 1) := by decide +kernel
theorem dX8_countsAt_5 : decode cX8_countsAt 5 = .ok (.bipush 6, 2) := by decide +kernel
theorem dX8_countsAt_7 : decode cX8_countsAt 7 = .ok (.if_icmp .ge 39, 3) := by decide +kernel
theorem dX8_countsAt_10 : decode cX8_countsAt 10 = .ok (.iconst 1, 1) := by decide +kernel
theorem dX8_countsAt_11 : decode cX8_countsAt 11 = .ok (.istore 4, 2) := by decide +kernel
theorem dX8_countsAt_13 : decode cX8_countsAt 13 = .ok (.iload 4, 2) := by decide +kernel
theorem dX8_countsAt_15 : decode cX8_countsAt 15 = .ok (.iconst 5, 1) := by decide +kernel
theorem dX8_countsAt_16 : decode cX8_countsAt 16 = .ok (.if_icmp .gt 24, 3) := by decide +kernel
theorem dX8_countsAt_19 : decode cX8_countsAt 19 = .ok (.iload_n 2, 1) := by decide +kernel
theorem dX8_countsAt_20 : decode cX8_countsAt 20 = .ok (.aload_n 0, 1) := by decide +kernel
theorem dX8_countsAt_21 : decode cX8_countsAt 21 = .ok (.getfield 15, 3) := by decide +kernel
theorem dX8_countsAt_24 : decode cX8_countsAt 24 = .ok (.iload_n 3, 1) := by decide +kernel
theorem dX8_countsAt_25 : decode cX8_countsAt 25 = .ok (.iload_n 1, 1) := by decide +kernel
theorem dX8_countsAt_26 : decode cX8_countsAt 26 = .ok (.iload 4, 2) := by decide +kernel
theorem dX8_countsAt_28 : decode cX8_countsAt 28 = .ok (.invokestatic 84, 3) := by decide +kernel
theorem dX8_countsAt_31 : decode cX8_countsAt 31 = .ok (.iaload, 1) := by decide +kernel
theorem dX8_countsAt_32 : decode cX8_countsAt 32 = .ok (.iadd, 1) := by decide +kernel
theorem dX8_countsAt_33 : decode cX8_countsAt 33 = .ok (.istore_n 2, 1) := by decide +kernel
theorem dX8_countsAt_34 : decode cX8_countsAt 34 = .ok (.iinc 4 1, 3) := by decide +kernel
theorem dX8_countsAt_37 : decode cX8_countsAt 37 = .ok (.goto (-24), 3) := by decide +kernel
theorem dX8_countsAt_40 : decode cX8_countsAt 40 = .ok (.iinc 3 1, 3) := by decide +kernel
theorem dX8_countsAt_43 : decode cX8_countsAt 43 = .ok (.goto (-39), 3) := by decide +kernel
theorem dX8_countsAt_46 : decode cX8_countsAt 46 = .ok (.iload_n 2, 1) := by decide +kernel
theorem dX8_countsAt_47 : decode cX8_countsAt 47 = .ok (.ireturn, 1) := by decide +kernel
theorem dX8_askers_0 : decode cX8_askers 0 = .ok (.iconst 0, 1) := by decide +kernel
theorem dX8_askers_1 : decode cX8_askers 1 = .ok (.istore_n 2, 1) := by decide +kernel
theorem dX8_askers_2 : decode cX8_askers 2 = .ok (.iconst 0, 1) := by decide +kernel
theorem dX8_askers_3 : decode cX8_askers 3 = .ok (.istore_n 3, 1) := by decide +kernel
theorem dX8_askers_4 : decode cX8_askers 4 = .ok (.iload_n 3, 1) := by decide +kernel
theorem dX8_askers_5 : decode cX8_askers 5 = .ok (.aload_n 0, 1) := by decide +kernel
theorem dX8_askers_6 : decode cX8_askers 6 = .ok (.getfield 15, 3) := by decide +kernel
theorem dX8_askers_9 : decode cX8_askers 9 = .ok (.bipush 25, 2) := by decide +kernel
theorem dX8_askers_11 : decode cX8_askers 11 = .ok (.iaload, 1) := by decide +kernel
theorem dX8_askers_12 : decode cX8_askers 12 = .ok (.if_icmp .ge 34, 3) := by decide +kernel
theorem dX8_askers_15 : decode cX8_askers 15 = .ok (.iload_n 2, 1) := by decide +kernel
theorem dX8_askers_16 : decode cX8_askers 16 = .ok (.aload_n 0, 1) := by decide +kernel
theorem dX8_askers_17 : decode cX8_askers 17 = .ok (.getfield 15, 3) := by decide +kernel
theorem dX8_askers_20 : decode cX8_askers 20 = .ok (.bipush 26, 2) := by decide +kernel
theorem dX8_askers_22 : decode cX8_askers 22 = .ok (.iconst 3, 1) := by decide +kernel
theorem dX8_askers_23 : decode cX8_askers 23 = .ok (.iload_n 3, 1) := by decide +kernel
theorem dX8_askers_24 : decode cX8_askers 24 = .ok (.imul, 1) := by decide +kernel
theorem dX8_askers_25 : decode cX8_askers 25 = .ok (.iadd, 1) := by decide +kernel
theorem dX8_askers_26 : decode cX8_askers 26 = .ok (.iconst 1, 1) := by decide +kernel
theorem dX8_askers_27 : decode cX8_askers 27 = .ok (.iadd, 1) := by decide +kernel
theorem dX8_askers_28 : decode cX8_askers 28 = .ok (.iaload, 1) := by decide +kernel
theorem dX8_askers_29 : decode cX8_askers 29 = .ok (.iload_n 1, 1) := by decide +kernel
theorem dX8_askers_30 : decode cX8_askers 30 = .ok (.if_icmp .ne 7, 3) := by decide +kernel
theorem dX8_askers_33 : decode cX8_askers 33 = .ok (.iconst 1, 1) := by decide +kernel
theorem dX8_askers_34 : decode cX8_askers 34 = .ok (.goto 4, 3) := by decide +kernel
theorem dX8_askers_37 : decode cX8_askers 37 = .ok (.iconst 0, 1) := by decide +kernel
theorem dX8_askers_38 : decode cX8_askers 38 = .ok (.iadd, 1) := by decide +kernel
theorem dX8_askers_39 : decode cX8_askers 39 = .ok (.istore_n 2, 1) := by decide +kernel
theorem dX8_askers_40 : decode cX8_askers 40 = .ok (.iinc 3 1, 3) := by decide +kernel
theorem dX8_askers_43 : decode cX8_askers 43 = .ok (.goto (-39), 3) := by decide +kernel
theorem dX8_askers_46 : decode cX8_askers 46 = .ok (.iload_n 2, 1) := by decide +kernel
theorem dX8_askers_47 : decode cX8_askers 47 = .ok (.ireturn, 1) := by decide +kernel
theorem dX8_thingOf_0 : decode cX8_thingOf 0 = .ok (.aload_n 0, 1) := by decide +kernel
theorem dX8_thingOf_1 : decode cX8_thingOf 1 = .ok (.iload_n 1, 1) := by decide +kernel
theorem dX8_thingOf_2 : decode cX8_thingOf 2 = .ok (.invokevirtual 70, 3) := by decide +kernel
theorem dX8_thingOf_5 : decode cX8_thingOf 5 = .ok (.ifCond .ne 5, 3) := by decide +kernel
theorem dX8_thingOf_8 : decode cX8_thingOf 8 = .ok (.iconst (-1), 1) := by decide +kernel
theorem dX8_thingOf_9 : decode cX8_thingOf 9 = .ok (.ireturn, 1) := by decide +kernel
theorem dX8_thingOf_10 : decode cX8_thingOf 10 = .ok (.iload_n 2, 1) := by decide +kernel
theorem dX8_thingOf_11 : decode cX8_thingOf 11 = .ok (.tableswitch 80 0 5 #[37, 46, 56, 62, 68, 74], 37) := by decide +kernel
theorem dX8_thingOf_48 : decode cX8_thingOf 48 = .ok (.aload_n 0, 1) := by decide +kernel
theorem dX8_thingOf_49 : decode cX8_thingOf 49 = .ok (.getfield 15, 3) := by decide +kernel
theorem dX8_thingOf_52 : decode cX8_thingOf 52 = .ok (.iconst 1, 1) := by decide +kernel
theorem dX8_thingOf_53 : decode cX8_thingOf 53 = .ok (.iload_n 1, 1) := by decide +kernel
theorem dX8_thingOf_54 : decode cX8_thingOf 54 = .ok (.iadd, 1) := by decide +kernel
theorem dX8_thingOf_55 : decode cX8_thingOf 55 = .ok (.iaload, 1) := by decide +kernel
theorem dX8_thingOf_56 : decode cX8_thingOf 56 = .ok (.ireturn, 1) := by decide +kernel
theorem dX8_thingOf_57 : decode cX8_thingOf 57 = .ok (.aload_n 0, 1) := by decide +kernel
theorem dX8_thingOf_58 : decode cX8_thingOf 58 = .ok (.getfield 15, 3) := by decide +kernel
theorem dX8_thingOf_61 : decode cX8_thingOf 61 = .ok (.bipush 13, 2) := by decide +kernel
theorem dX8_thingOf_63 : decode cX8_thingOf 63 = .ok (.iload_n 1, 1) := by decide +kernel
theorem dX8_thingOf_64 : decode cX8_thingOf 64 = .ok (.iadd, 1) := by decide +kernel
theorem dX8_thingOf_65 : decode cX8_thingOf 65 = .ok (.iaload, 1) := by decide +kernel
theorem dX8_thingOf_66 : decode cX8_thingOf 66 = .ok (.ireturn, 1) := by decide +kernel
theorem dX8_thingOf_67 : decode cX8_thingOf 67 = .ok (.aload_n 0, 1) := by decide +kernel
theorem dX8_thingOf_68 : decode cX8_thingOf 68 = .ok (.iload_n 1, 1) := by decide +kernel
theorem dX8_thingOf_69 : decode cX8_thingOf 69 = .ok (.invokevirtual 88, 3) := by decide +kernel
theorem dX8_thingOf_72 : decode cX8_thingOf 72 = .ok (.ireturn, 1) := by decide +kernel
theorem dX8_thingOf_73 : decode cX8_thingOf 73 = .ok (.aload_n 0, 1) := by decide +kernel
theorem dX8_thingOf_74 : decode cX8_thingOf 74 = .ok (.iload_n 1, 1) := by decide +kernel
theorem dX8_thingOf_75 : decode cX8_thingOf 75 = .ok (.invokevirtual 91, 3) := by decide +kernel
theorem dX8_thingOf_78 : decode cX8_thingOf 78 = .ok (.ireturn, 1) := by decide +kernel
theorem dX8_thingOf_79 : decode cX8_thingOf 79 = .ok (.aload_n 0, 1) := by decide +kernel
theorem dX8_thingOf_80 : decode cX8_thingOf 80 = .ok (.iload_n 1, 1) := by decide +kernel
theorem dX8_thingOf_81 : decode cX8_thingOf 81 = .ok (.invokevirtual 94, 3) := by decide +kernel
theorem dX8_thingOf_84 : decode cX8_thingOf 84 = .ok (.ireturn, 1) := by decide +kernel
theorem dX8_thingOf_85 : decode cX8_thingOf 85 = .ok (.aload_n 0, 1) := by decide +kernel
theorem dX8_thingOf_86 : decode cX8_thingOf 86 = .ok (.iload_n 1, 1) := by decide +kernel
theorem dX8_thingOf_87 : decode cX8_thingOf 87 = .ok (.invokevirtual 97, 3) := by decide +kernel
theorem dX8_thingOf_90 : decode cX8_thingOf 90 = .ok (.ireturn, 1) := by decide +kernel
theorem dX8_thingOf_91 : decode cX8_thingOf 91 = .ok (.iconst (-1), 1) := by decide +kernel
theorem dX8_thingOf_92 : decode cX8_thingOf 92 = .ok (.ireturn, 1) := by decide +kernel
theorem dX8_above_0 : decode cX8_above 0 = .ok (.iload_n 0, 1) := by decide +kernel
theorem dX8_above_1 : decode cX8_above 1 = .ok (.iconst 2, 1) := by decide +kernel
theorem dX8_above_2 : decode cX8_above 2 = .ok (.if_icmp .ne 7, 3) := by decide +kernel
theorem dX8_above_5 : decode cX8_above 5 = .ok (.iconst 1, 1) := by decide +kernel
theorem dX8_above_6 : decode cX8_above 6 = .ok (.goto 4, 3) := by decide +kernel
theorem dX8_above_9 : decode cX8_above 9 = .ok (.iconst 3, 1) := by decide +kernel
theorem dX8_above_10 : decode cX8_above 10 = .ok (.ireturn, 1) := by decide +kernel
theorem dX8_isBarredAt_0 : decode cX8_isBarredAt 0 = .ok (.iconst 1, 1) := by decide +kernel
theorem dX8_isBarredAt_1 : decode cX8_isBarredAt 1 = .ok (.istore 4, 2) := by decide +kernel
theorem dX8_isBarredAt_3 : decode cX8_isBarredAt 3 = .ok (.iload 4, 2) := by decide +kernel
theorem dX8_isBarredAt_5 : decode cX8_isBarredAt 5 = .ok (.iconst 5, 1) := by decide +kernel
theorem dX8_isBarredAt_6 : decode cX8_isBarredAt 6 = .ok (.if_icmp .gt 35, 3) := by decide +kernel
theorem dX8_isBarredAt_9 : decode cX8_isBarredAt 9 = .ok (.aload_n 0, 1) := by decide +kernel
theorem dX8_isBarredAt_10 : decode cX8_isBarredAt 10 = .ok (.getfield 15, 3) := by decide +kernel
theorem dX8_isBarredAt_13 : decode cX8_isBarredAt 13 = .ok (.iload_n 1, 1) := by decide +kernel
theorem dX8_isBarredAt_14 : decode cX8_isBarredAt 14 = .ok (.iload_n 2, 1) := by decide +kernel
theorem dX8_isBarredAt_15 : decode cX8_isBarredAt 15 = .ok (.iload 4, 2) := by decide +kernel
theorem dX8_isBarredAt_17 : decode cX8_isBarredAt 17 = .ok (.invokestatic 84, 3) := by decide +kernel
theorem dX8_isBarredAt_20 : decode cX8_isBarredAt 20 = .ok (.iaload, 1) := by decide +kernel
theorem dX8_isBarredAt_21 : decode cX8_isBarredAt 21 = .ok (.ifCond .le 14, 3) := by decide +kernel
theorem dX8_isBarredAt_24 : decode cX8_isBarredAt 24 = .ok (.iload_n 3, 1) := by decide +kernel
theorem dX8_isBarredAt_25 : decode cX8_isBarredAt 25 = .ok (.iload 4, 2) := by decide +kernel
theorem dX8_isBarredAt_27 : decode cX8_isBarredAt 27 = .ok (.invokestatic 100, 3) := by decide +kernel
theorem dX8_isBarredAt_30 : decode cX8_isBarredAt 30 = .ok (.ifCond .ne 5, 3) := by decide +kernel
theorem dX8_isBarredAt_33 : decode cX8_isBarredAt 33 = .ok (.iconst 1, 1) := by decide +kernel
theorem dX8_isBarredAt_34 : decode cX8_isBarredAt 34 = .ok (.ireturn, 1) := by decide +kernel
theorem dX8_isBarredAt_35 : decode cX8_isBarredAt 35 = .ok (.iinc 4 1, 3) := by decide +kernel
theorem dX8_isBarredAt_38 : decode cX8_isBarredAt 38 = .ok (.goto (-35), 3) := by decide +kernel
theorem dX8_isBarredAt_41 : decode cX8_isBarredAt 41 = .ok (.iconst 0, 1) := by decide +kernel
theorem dX8_isBarredAt_42 : decode cX8_isBarredAt 42 = .ok (.ireturn, 1) := by decide +kernel
theorem dX8_isBarred_0 : decode cX8_isBarred 0 = .ok (.aload_n 0, 1) := by decide +kernel
theorem dX8_isBarred_1 : decode cX8_isBarred 1 = .ok (.iload_n 3, 1) := by decide +kernel
theorem dX8_isBarred_2 : decode cX8_isBarred 2 = .ok (.iload_n 1, 1) := by decide +kernel
theorem dX8_isBarred_3 : decode cX8_isBarred 3 = .ok (.iload_n 2, 1) := by decide +kernel
theorem dX8_isBarred_4 : decode cX8_isBarred 4 = .ok (.invokevirtual 103, 3) := by decide +kernel
theorem dX8_isBarred_7 : decode cX8_isBarred 7 = .ok (.ifCond .eq 5, 3) := by decide +kernel
theorem dX8_isBarred_10 : decode cX8_isBarred 10 = .ok (.iconst 1, 1) := by decide +kernel
theorem dX8_isBarred_11 : decode cX8_isBarred 11 = .ok (.ireturn, 1) := by decide +kernel
theorem dX8_isBarred_12 : decode cX8_isBarred 12 = .ok (.aload_n 0, 1) := by decide +kernel
theorem dX8_isBarred_13 : decode cX8_isBarred 13 = .ok (.getfield 15, 3) := by decide +kernel
theorem dX8_isBarred_16 : decode cX8_isBarred 16 = .ok (.iconst 1, 1) := by decide +kernel
theorem dX8_isBarred_17 : decode cX8_isBarred 17 = .ok (.iload_n 1, 1) := by decide +kernel
theorem dX8_isBarred_18 : decode cX8_isBarred 18 = .ok (.iadd, 1) := by decide +kernel
theorem dX8_isBarred_19 : decode cX8_isBarred 19 = .ok (.iaload, 1) := by decide +kernel
theorem dX8_isBarred_20 : decode cX8_isBarred 20 = .ok (.istore 4, 2) := by decide +kernel
theorem dX8_isBarred_22 : decode cX8_isBarred 22 = .ok (.iload 4, 2) := by decide +kernel
theorem dX8_isBarred_24 : decode cX8_isBarred 24 = .ok (.iconst (-1), 1) := by decide +kernel
theorem dX8_isBarred_25 : decode cX8_isBarred 25 = .ok (.if_icmp .eq 33, 3) := by decide +kernel
theorem dX8_isBarred_28 : decode cX8_isBarred 28 = .ok (.aload_n 0, 1) := by decide +kernel
theorem dX8_isBarred_29 : decode cX8_isBarred 29 = .ok (.iload_n 3, 1) := by decide +kernel
theorem dX8_isBarred_30 : decode cX8_isBarred 30 = .ok (.iload 4, 2) := by decide +kernel
theorem dX8_isBarred_32 : decode cX8_isBarred 32 = .ok (.iload_n 2, 1) := by decide +kernel
theorem dX8_isBarred_33 : decode cX8_isBarred 33 = .ok (.invokestatic 106, 3) := by decide +kernel
theorem dX8_isBarred_36 : decode cX8_isBarred 36 = .ok (.invokevirtual 103, 3) := by decide +kernel
theorem dX8_isBarred_39 : decode cX8_isBarred 39 = .ok (.ifCond .eq 5, 3) := by decide +kernel
theorem dX8_isBarred_42 : decode cX8_isBarred 42 = .ok (.iconst 1, 1) := by decide +kernel
theorem dX8_isBarred_43 : decode cX8_isBarred 43 = .ok (.ireturn, 1) := by decide +kernel
theorem dX8_isBarred_44 : decode cX8_isBarred 44 = .ok (.aload_n 0, 1) := by decide +kernel
theorem dX8_isBarred_45 : decode cX8_isBarred 45 = .ok (.getfield 15, 3) := by decide +kernel
theorem dX8_isBarred_48 : decode cX8_isBarred 48 = .ok (.iconst 1, 1) := by decide +kernel
theorem dX8_isBarred_49 : decode cX8_isBarred 49 = .ok (.iload 4, 2) := by decide +kernel
theorem dX8_isBarred_51 : decode cX8_isBarred 51 = .ok (.iadd, 1) := by decide +kernel
theorem dX8_isBarred_52 : decode cX8_isBarred 52 = .ok (.iaload, 1) := by decide +kernel
theorem dX8_isBarred_53 : decode cX8_isBarred 53 = .ok (.istore 4, 2) := by decide +kernel
theorem dX8_isBarred_55 : decode cX8_isBarred 55 = .ok (.goto (-33), 3) := by decide +kernel
theorem dX8_isBarred_58 : decode cX8_isBarred 58 = .ok (.iconst 0, 1) := by decide +kernel
theorem dX8_isBarred_59 : decode cX8_isBarred 59 = .ok (.ireturn, 1) := by decide +kernel
theorem dX8_isRaise_0 : decode cX8_isRaise 0 = .ok (.aload_n 0, 1) := by decide +kernel
theorem dX8_isRaise_1 : decode cX8_isRaise 1 = .ok (.getfield 15, 3) := by decide +kernel
theorem dX8_isRaise_4 : decode cX8_isRaise 4 = .ok (.iload_n 1, 1) := by decide +kernel
theorem dX8_isRaise_5 : decode cX8_isRaise 5 = .ok (.iload_n 2, 1) := by decide +kernel
theorem dX8_isRaise_6 : decode cX8_isRaise 6 = .ok (.iconst 2, 1) := by decide +kernel
theorem dX8_isRaise_7 : decode cX8_isRaise 7 = .ok (.invokestatic 84, 3) := by decide +kernel
theorem dX8_isRaise_10 : decode cX8_isRaise 10 = .ok (.iaload, 1) := by decide +kernel
theorem dX8_isRaise_11 : decode cX8_isRaise 11 = .ok (.ifCond .gt 31, 3) := by decide +kernel
theorem dX8_isRaise_14 : decode cX8_isRaise 14 = .ok (.aload_n 0, 1) := by decide +kernel
theorem dX8_isRaise_15 : decode cX8_isRaise 15 = .ok (.getfield 15, 3) := by decide +kernel
theorem dX8_isRaise_18 : decode cX8_isRaise 18 = .ok (.iload_n 1, 1) := by decide +kernel
theorem dX8_isRaise_19 : decode cX8_isRaise 19 = .ok (.iload_n 2, 1) := by decide +kernel
theorem dX8_isRaise_20 : decode cX8_isRaise 20 = .ok (.iconst 4, 1) := by decide +kernel
theorem dX8_isRaise_21 : decode cX8_isRaise 21 = .ok (.invokestatic 84, 3) := by decide +kernel
theorem dX8_isRaise_24 : decode cX8_isRaise 24 = .ok (.iaload, 1) := by decide +kernel
theorem dX8_isRaise_25 : decode cX8_isRaise 25 = .ok (.ifCond .gt 17, 3) := by decide +kernel
theorem dX8_isRaise_28 : decode cX8_isRaise 28 = .ok (.aload_n 0, 1) := by decide +kernel
theorem dX8_isRaise_29 : decode cX8_isRaise 29 = .ok (.getfield 15, 3) := by decide +kernel
theorem dX8_isRaise_32 : decode cX8_isRaise 32 = .ok (.iload_n 1, 1) := by decide +kernel
theorem dX8_isRaise_33 : decode cX8_isRaise 33 = .ok (.iload_n 2, 1) := by decide +kernel
theorem dX8_isRaise_34 : decode cX8_isRaise 34 = .ok (.iconst 5, 1) := by decide +kernel
theorem dX8_isRaise_35 : decode cX8_isRaise 35 = .ok (.invokestatic 84, 3) := by decide +kernel
theorem dX8_isRaise_38 : decode cX8_isRaise 38 = .ok (.iaload, 1) := by decide +kernel
theorem dX8_isRaise_39 : decode cX8_isRaise 39 = .ok (.ifCond .le 7, 3) := by decide +kernel
theorem dX8_isRaise_42 : decode cX8_isRaise 42 = .ok (.iconst 1, 1) := by decide +kernel
theorem dX8_isRaise_43 : decode cX8_isRaise 43 = .ok (.goto 4, 3) := by decide +kernel
theorem dX8_isRaise_46 : decode cX8_isRaise 46 = .ok (.iconst 0, 1) := by decide +kernel
theorem dX8_isRaise_47 : decode cX8_isRaise 47 = .ok (.ireturn, 1) := by decide +kernel
theorem dX8_placeOf_0 : decode cX8_placeOf 0 = .ok (.iconst 0, 1) := by decide +kernel
theorem dX8_placeOf_1 : decode cX8_placeOf 1 = .ok (.istore_n 2, 1) := by decide +kernel
theorem dX8_placeOf_2 : decode cX8_placeOf 2 = .ok (.iload_n 2, 1) := by decide +kernel
theorem dX8_placeOf_3 : decode cX8_placeOf 3 = .ok (.aload_n 0, 1) := by decide +kernel
theorem dX8_placeOf_4 : decode cX8_placeOf 4 = .ok (.getfield 15, 3) := by decide +kernel
theorem dX8_placeOf_7 : decode cX8_placeOf 7 = .ok (.bipush 25, 2) := by decide +kernel
theorem dX8_placeOf_9 : decode cX8_placeOf 9 = .ok (.iaload, 1) := by decide +kernel
theorem dX8_placeOf_10 : decode cX8_placeOf 10 = .ok (.if_icmp .ge 26, 3) := by decide +kernel
theorem dX8_placeOf_13 : decode cX8_placeOf 13 = .ok (.aload_n 0, 1) := by decide +kernel
theorem dX8_placeOf_14 : decode cX8_placeOf 14 = .ok (.getfield 15, 3) := by decide +kernel
theorem dX8_placeOf_17 : decode cX8_placeOf 17 = .ok (.bipush 26, 2) := by decide +kernel
theorem dX8_placeOf_19 : decode cX8_placeOf 19 = .ok (.iconst 3, 1) := by decide +kernel
theorem dX8_placeOf_20 : decode cX8_placeOf 20 = .ok (.iload_n 2, 1) := by decide +kernel
theorem dX8_placeOf_21 : decode cX8_placeOf 21 = .ok (.imul, 1) := by decide +kernel
theorem dX8_placeOf_22 : decode cX8_placeOf 22 = .ok (.iadd, 1) := by decide +kernel
theorem dX8_placeOf_23 : decode cX8_placeOf 23 = .ok (.iaload, 1) := by decide +kernel
theorem dX8_placeOf_24 : decode cX8_placeOf 24 = .ok (.iload_n 1, 1) := by decide +kernel
theorem dX8_placeOf_25 : decode cX8_placeOf 25 = .ok (.if_icmp .ne 5, 3) := by decide +kernel
theorem dX8_placeOf_28 : decode cX8_placeOf 28 = .ok (.iload_n 2, 1) := by decide +kernel
theorem dX8_placeOf_29 : decode cX8_placeOf 29 = .ok (.ireturn, 1) := by decide +kernel
theorem dX8_placeOf_30 : decode cX8_placeOf 30 = .ok (.iinc 2 1, 3) := by decide +kernel
theorem dX8_placeOf_33 : decode cX8_placeOf 33 = .ok (.goto (-31), 3) := by decide +kernel
theorem dX8_placeOf_36 : decode cX8_placeOf 36 = .ok (.iconst (-1), 1) := by decide +kernel
theorem dX8_placeOf_37 : decode cX8_placeOf 37 = .ok (.ireturn, 1) := by decide +kernel
theorem dX8_isInLine_0 : decode cX8_isInLine 0 = .ok (.aload_n 0, 1) := by decide +kernel
theorem dX8_isInLine_1 : decode cX8_isInLine 1 = .ok (.iload_n 1, 1) := by decide +kernel
theorem dX8_isInLine_2 : decode cX8_isInLine 2 = .ok (.invokevirtual 109, 3) := by decide +kernel
theorem dX8_isInLine_5 : decode cX8_isInLine 5 = .ok (.iconst (-1), 1) := by decide +kernel
theorem dX8_isInLine_6 : decode cX8_isInLine 6 = .ok (.if_icmp .eq 7, 3) := by decide +kernel
theorem dX8_isInLine_9 : decode cX8_isInLine 9 = .ok (.iconst 1, 1) := by decide +kernel
theorem dX8_isInLine_10 : decode cX8_isInLine 10 = .ok (.goto 4, 3) := by decide +kernel
theorem dX8_isInLine_13 : decode cX8_isInLine 13 = .ok (.iconst 0, 1) := by decide +kernel
theorem dX8_isInLine_14 : decode cX8_isInLine 14 = .ok (.ireturn, 1) := by decide +kernel
theorem dX8_barring_0 : decode cX8_barring 0 = .ok (.iconst 0, 1) := by decide +kernel
theorem dX8_barring_1 : decode cX8_barring 1 = .ok (.istore 5, 2) := by decide +kernel
theorem dX8_barring_3 : decode cX8_barring 3 = .ok (.iconst 0, 1) := by decide +kernel
theorem dX8_barring_4 : decode cX8_barring 4 = .ok (.istore 6, 2) := by decide +kernel
theorem dX8_barring_6 : decode cX8_barring 6 = .ok (.iload 6, 2) := by decide +kernel
theorem dX8_barring_8 : decode cX8_barring 8 = .ok (.bipush 6, 2) := by decide +kernel
theorem dX8_barring_10 : decode cX8_barring 10 = .ok (.if_icmp .ge 39, 3) := by decide +kernel
theorem dX8_barring_13 : decode cX8_barring 13 = .ok (.iload 5, 2) := by decide +kernel
theorem dX8_barring_15 : decode cX8_barring 15 = .ok (.iload 6, 2) := by decide +kernel
theorem dX8_barring_17 : decode cX8_barring 17 = .ok (.iload_n 1, 1) := by decide +kernel
theorem dX8_barring_18 : decode cX8_barring 18 = .ok (.if_icmp .eq 21, 3) := by decide +kernel
theorem dX8_barring_21 : decode cX8_barring 21 = .ok (.aload_n 0, 1) := by decide +kernel
theorem dX8_barring_22 : decode cX8_barring 22 = .ok (.iload_n 2, 1) := by decide +kernel
theorem dX8_barring_23 : decode cX8_barring 23 = .ok (.iload_n 3, 1) := by decide +kernel
theorem dX8_barring_24 : decode cX8_barring 24 = .ok (.iload 6, 2) := by decide +kernel
theorem dX8_barring_26 : decode cX8_barring 26 = .ok (.invokevirtual 112, 3) := by decide +kernel
theorem dX8_barring_29 : decode cX8_barring 29 = .ok (.ifCond .eq 10, 3) := by decide +kernel
theorem dX8_barring_32 : decode cX8_barring 32 = .ok (.iconst 1, 1) := by decide +kernel
theorem dX8_barring_33 : decode cX8_barring 33 = .ok (.iload 6, 2) := by decide +kernel
theorem dX8_barring_35 : decode cX8_barring 35 = .ok (.ishl, 1) := by decide +kernel
theorem dX8_barring_36 : decode cX8_barring 36 = .ok (.goto 4, 3) := by decide +kernel
theorem dX8_barring_39 : decode cX8_barring 39 = .ok (.iconst 0, 1) := by decide +kernel
theorem dX8_barring_40 : decode cX8_barring 40 = .ok (.ior, 1) := by decide +kernel
theorem dX8_barring_41 : decode cX8_barring 41 = .ok (.istore 5, 2) := by decide +kernel
theorem dX8_barring_43 : decode cX8_barring 43 = .ok (.iinc 6 1, 3) := by decide +kernel
theorem dX8_barring_46 : decode cX8_barring 46 = .ok (.goto (-40), 3) := by decide +kernel
theorem dX8_barring_49 : decode cX8_barring 49 = .ok (.aload_n 0, 1) := by decide +kernel
theorem dX8_barring_50 : decode cX8_barring 50 = .ok (.iload_n 1, 1) := by decide +kernel
theorem dX8_barring_51 : decode cX8_barring 51 = .ok (.iload_n 2, 1) := by decide +kernel
theorem dX8_barring_52 : decode cX8_barring 52 = .ok (.invokevirtual 115, 3) := by decide +kernel
theorem dX8_barring_55 : decode cX8_barring 55 = .ok (.ifCond .eq 6, 3) := by decide +kernel
theorem dX8_barring_58 : decode cX8_barring 58 = .ok (.iload 5, 2) := by decide +kernel
theorem dX8_barring_60 : decode cX8_barring 60 = .ok (.ireturn, 1) := by decide +kernel
theorem dX8_barring_61 : decode cX8_barring 61 = .ok (.iconst 0, 1) := by decide +kernel
theorem dX8_barring_62 : decode cX8_barring 62 = .ok (.istore 6, 2) := by decide +kernel
theorem dX8_barring_64 : decode cX8_barring 64 = .ok (.iload 6, 2) := by decide +kernel
theorem dX8_barring_66 : decode cX8_barring 66 = .ok (.iload 4, 2) := by decide +kernel
theorem dX8_barring_68 : decode cX8_barring 68 = .ok (.if_icmp .ge 67, 3) := by decide +kernel
theorem dX8_barring_71 : decode cX8_barring 71 = .ok (.aload_n 0, 1) := by decide +kernel
theorem dX8_barring_72 : decode cX8_barring 72 = .ok (.getfield 15, 3) := by decide +kernel
theorem dX8_barring_75 : decode cX8_barring 75 = .ok (.bipush 26, 2) := by decide +kernel
theorem dX8_barring_77 : decode cX8_barring 77 = .ok (.iconst 3, 1) := by decide +kernel
theorem dX8_barring_78 : decode cX8_barring 78 = .ok (.iload 6, 2) := by decide +kernel
theorem dX8_barring_80 : decode cX8_barring 80 = .ok (.imul, 1) := by decide +kernel
theorem dX8_barring_81 : decode cX8_barring 81 = .ok (.iadd, 1) := by decide +kernel
theorem dX8_barring_82 : decode cX8_barring 82 = .ok (.iconst 1, 1) := by decide +kernel
theorem dX8_barring_83 : decode cX8_barring 83 = .ok (.iadd, 1) := by decide +kernel
theorem dX8_barring_84 : decode cX8_barring 84 = .ok (.iaload, 1) := by decide +kernel
theorem dX8_barring_85 : decode cX8_barring 85 = .ok (.iload_n 2, 1) := by decide +kernel
theorem dX8_barring_86 : decode cX8_barring 86 = .ok (.if_icmp .ne 43, 3) := by decide +kernel
theorem dX8_barring_89 : decode cX8_barring 89 = .ok (.iload_n 3, 1) := by decide +kernel
theorem dX8_barring_90 : decode cX8_barring 90 = .ok (.aload_n 0, 1) := by decide +kernel
theorem dX8_barring_91 : decode cX8_barring 91 = .ok (.getfield 15, 3) := by decide +kernel
theorem dX8_barring_94 : decode cX8_barring 94 = .ok (.bipush 26, 2) := by decide +kernel
theorem dX8_barring_96 : decode cX8_barring 96 = .ok (.iconst 3, 1) := by decide +kernel
theorem dX8_barring_97 : decode cX8_barring 97 = .ok (.iload 6, 2) := by decide +kernel
theorem dX8_barring_99 : decode cX8_barring 99 = .ok (.imul, 1) := by decide +kernel
theorem dX8_barring_100 : decode cX8_barring 100 = .ok (.iadd, 1) := by decide +kernel
theorem dX8_barring_101 : decode cX8_barring 101 = .ok (.iconst 2, 1) := by decide +kernel
theorem dX8_barring_102 : decode cX8_barring 102 = .ok (.iadd, 1) := by decide +kernel
theorem dX8_barring_103 : decode cX8_barring 103 = .ok (.iaload, 1) := by decide +kernel
theorem dX8_barring_104 : decode cX8_barring 104 = .ok (.invokestatic 100, 3) := by decide +kernel
theorem dX8_barring_107 : decode cX8_barring 107 = .ok (.ifCond .ne 22, 3) := by decide +kernel
theorem dX8_barring_110 : decode cX8_barring 110 = .ok (.iload 5, 2) := by decide +kernel
theorem dX8_barring_112 : decode cX8_barring 112 = .ok (.iconst 1, 1) := by decide +kernel
theorem dX8_barring_113 : decode cX8_barring 113 = .ok (.aload_n 0, 1) := by decide +kernel
theorem dX8_barring_114 : decode cX8_barring 114 = .ok (.getfield 15, 3) := by decide +kernel
theorem dX8_barring_117 : decode cX8_barring 117 = .ok (.bipush 26, 2) := by decide +kernel
theorem dX8_barring_119 : decode cX8_barring 119 = .ok (.iconst 3, 1) := by decide +kernel
theorem dX8_barring_120 : decode cX8_barring 120 = .ok (.iload 6, 2) := by decide +kernel
theorem dX8_barring_122 : decode cX8_barring 122 = .ok (.imul, 1) := by decide +kernel
theorem dX8_barring_123 : decode cX8_barring 123 = .ok (.iadd, 1) := by decide +kernel
theorem dX8_barring_124 : decode cX8_barring 124 = .ok (.iaload, 1) := by decide +kernel
theorem dX8_barring_125 : decode cX8_barring 125 = .ok (.ishl, 1) := by decide +kernel
theorem dX8_barring_126 : decode cX8_barring 126 = .ok (.ior, 1) := by decide +kernel
theorem dX8_barring_127 : decode cX8_barring 127 = .ok (.istore 5, 2) := by decide +kernel
theorem dX8_barring_129 : decode cX8_barring 129 = .ok (.iinc 6 1, 3) := by decide +kernel
theorem dX8_barring_132 : decode cX8_barring 132 = .ok (.goto (-68), 3) := by decide +kernel
theorem dX8_barring_135 : decode cX8_barring 135 = .ok (.iload 5, 2) := by decide +kernel
theorem dX8_barring_137 : decode cX8_barring 137 = .ok (.iconst 1, 1) := by decide +kernel
theorem dX8_barring_138 : decode cX8_barring 138 = .ok (.iload_n 1, 1) := by decide +kernel
theorem dX8_barring_139 : decode cX8_barring 139 = .ok (.ishl, 1) := by decide +kernel
theorem dX8_barring_140 : decode cX8_barring 140 = .ok (.iconst (-1), 1) := by decide +kernel
theorem dX8_barring_141 : decode cX8_barring 141 = .ok (.ixor, 1) := by decide +kernel
theorem dX8_barring_142 : decode cX8_barring 142 = .ok (.iand, 1) := by decide +kernel
theorem dX8_barring_143 : decode cX8_barring 143 = .ok (.ireturn, 1) := by decide +kernel
theorem dX8_canBe_0 : decode cX8_canBe 0 = .ok (.aload_n 0, 1) := by decide +kernel
theorem dX8_canBe_1 : decode cX8_canBe 1 = .ok (.iload_n 1, 1) := by decide +kernel
theorem dX8_canBe_2 : decode cX8_canBe 2 = .ok (.iload_n 2, 1) := by decide +kernel
theorem dX8_canBe_3 : decode cX8_canBe 3 = .ok (.iload_n 3, 1) := by decide +kernel
theorem dX8_canBe_4 : decode cX8_canBe 4 = .ok (.aload_n 0, 1) := by decide +kernel
theorem dX8_canBe_5 : decode cX8_canBe 5 = .ok (.getfield 15, 3) := by decide +kernel
theorem dX8_canBe_8 : decode cX8_canBe 8 = .ok (.bipush 25, 2) := by decide +kernel
theorem dX8_canBe_10 : decode cX8_canBe 10 = .ok (.iaload, 1) := by decide +kernel
theorem dX8_canBe_11 : decode cX8_canBe 11 = .ok (.invokevirtual 118, 3) := by decide +kernel
theorem dX8_canBe_14 : decode cX8_canBe 14 = .ok (.ifCond .ne 7, 3) := by decide +kernel
theorem dX8_canBe_17 : decode cX8_canBe 17 = .ok (.iconst 1, 1) := by decide +kernel
theorem dX8_canBe_18 : decode cX8_canBe 18 = .ok (.goto 4, 3) := by decide +kernel
theorem dX8_canBe_21 : decode cX8_canBe 21 = .ok (.iconst 0, 1) := by decide +kernel
theorem dX8_canBe_22 : decode cX8_canBe 22 = .ok (.ireturn, 1) := by decide +kernel
theorem dX8_barringAt_0 : decode cX8_barringAt 0 = .ok (.aload_n 0, 1) := by decide +kernel
theorem dX8_barringAt_1 : decode cX8_barringAt 1 = .ok (.aload_n 0, 1) := by decide +kernel
theorem dX8_barringAt_2 : decode cX8_barringAt 2 = .ok (.getfield 15, 3) := by decide +kernel
theorem dX8_barringAt_5 : decode cX8_barringAt 5 = .ok (.bipush 26, 2) := by decide +kernel
theorem dX8_barringAt_7 : decode cX8_barringAt 7 = .ok (.iconst 3, 1) := by decide +kernel
theorem dX8_barringAt_8 : decode cX8_barringAt 8 = .ok (.iload_n 1, 1) := by decide +kernel
theorem dX8_barringAt_9 : decode cX8_barringAt 9 = .ok (.imul, 1) := by decide +kernel
theorem dX8_barringAt_10 : decode cX8_barringAt 10 = .ok (.iadd, 1) := by decide +kernel
theorem dX8_barringAt_11 : decode cX8_barringAt 11 = .ok (.iaload, 1) := by decide +kernel
theorem dX8_barringAt_12 : decode cX8_barringAt 12 = .ok (.aload_n 0, 1) := by decide +kernel
theorem dX8_barringAt_13 : decode cX8_barringAt 13 = .ok (.getfield 15, 3) := by decide +kernel
theorem dX8_barringAt_16 : decode cX8_barringAt 16 = .ok (.bipush 26, 2) := by decide +kernel
theorem dX8_barringAt_18 : decode cX8_barringAt 18 = .ok (.iconst 3, 1) := by decide +kernel
theorem dX8_barringAt_19 : decode cX8_barringAt 19 = .ok (.iload_n 1, 1) := by decide +kernel
theorem dX8_barringAt_20 : decode cX8_barringAt 20 = .ok (.imul, 1) := by decide +kernel
theorem dX8_barringAt_21 : decode cX8_barringAt 21 = .ok (.iadd, 1) := by decide +kernel
theorem dX8_barringAt_22 : decode cX8_barringAt 22 = .ok (.iconst 1, 1) := by decide +kernel
theorem dX8_barringAt_23 : decode cX8_barringAt 23 = .ok (.iadd, 1) := by decide +kernel
theorem dX8_barringAt_24 : decode cX8_barringAt 24 = .ok (.iaload, 1) := by decide +kernel
theorem dX8_barringAt_25 : decode cX8_barringAt 25 = .ok (.aload_n 0, 1) := by decide +kernel
theorem dX8_barringAt_26 : decode cX8_barringAt 26 = .ok (.getfield 15, 3) := by decide +kernel
theorem dX8_barringAt_29 : decode cX8_barringAt 29 = .ok (.bipush 26, 2) := by decide +kernel
theorem dX8_barringAt_31 : decode cX8_barringAt 31 = .ok (.iconst 3, 1) := by decide +kernel
theorem dX8_barringAt_32 : decode cX8_barringAt 32 = .ok (.iload_n 1, 1) := by decide +kernel
theorem dX8_barringAt_33 : decode cX8_barringAt 33 = .ok (.imul, 1) := by decide +kernel
theorem dX8_barringAt_34 : decode cX8_barringAt 34 = .ok (.iadd, 1) := by decide +kernel
theorem dX8_barringAt_35 : decode cX8_barringAt 35 = .ok (.iconst 2, 1) := by decide +kernel
theorem dX8_barringAt_36 : decode cX8_barringAt 36 = .ok (.iadd, 1) := by decide +kernel
theorem dX8_barringAt_37 : decode cX8_barringAt 37 = .ok (.iaload, 1) := by decide +kernel
theorem dX8_barringAt_38 : decode cX8_barringAt 38 = .ok (.iload_n 1, 1) := by decide +kernel
theorem dX8_barringAt_39 : decode cX8_barringAt 39 = .ok (.invokevirtual 118, 3) := by decide +kernel
theorem dX8_barringAt_42 : decode cX8_barringAt 42 = .ok (.ireturn, 1) := by decide +kernel
theorem dX8_changes_0 : decode cX8_changes 0 = .ok (.aload_n 0, 1) := by decide +kernel
theorem dX8_changes_1 : decode cX8_changes 1 = .ok (.getfield 15, 3) := by decide +kernel
theorem dX8_changes_4 : decode cX8_changes 4 = .ok (.iload_n 1, 1) := by decide +kernel
theorem dX8_changes_5 : decode cX8_changes 5 = .ok (.iload_n 2, 1) := by decide +kernel
theorem dX8_changes_6 : decode cX8_changes 6 = .ok (.iload_n 3, 1) := by decide +kernel
theorem dX8_changes_7 : decode cX8_changes 7 = .ok (.invokestatic 84, 3) := by decide +kernel
theorem dX8_changes_10 : decode cX8_changes 10 = .ok (.dup2, 1) := by decide +kernel
theorem dX8_changes_11 : decode cX8_changes 11 = .ok (.iaload, 1) := by decide +kernel
theorem dX8_changes_12 : decode cX8_changes 12 = .ok (.iload 4, 2) := by decide +kernel
theorem dX8_changes_14 : decode cX8_changes 14 = .ok (.iadd, 1) := by decide +kernel
theorem dX8_changes_15 : decode cX8_changes 15 = .ok (.iastore, 1) := by decide +kernel
theorem dX8_changes_16 : decode cX8_changes 16 = .ok (.aload_n 0, 1) := by decide +kernel
theorem dX8_changes_17 : decode cX8_changes 17 = .ok (.getfield 15, 3) := by decide +kernel
theorem dX8_changes_20 : decode cX8_changes 20 = .ok (.iconst 1, 1) := by decide +kernel
theorem dX8_changes_21 : decode cX8_changes 21 = .ok (.iload_n 2, 1) := by decide +kernel
theorem dX8_changes_22 : decode cX8_changes 22 = .ok (.iadd, 1) := by decide +kernel
theorem dX8_changes_23 : decode cX8_changes 23 = .ok (.iaload, 1) := by decide +kernel
theorem dX8_changes_24 : decode cX8_changes 24 = .ok (.istore 5, 2) := by decide +kernel
theorem dX8_changes_26 : decode cX8_changes 26 = .ok (.iload 5, 2) := by decide +kernel
theorem dX8_changes_28 : decode cX8_changes 28 = .ok (.iconst (-1), 1) := by decide +kernel
theorem dX8_changes_29 : decode cX8_changes 29 = .ok (.if_icmp .eq 37, 3) := by decide +kernel
theorem dX8_changes_32 : decode cX8_changes 32 = .ok (.aload_n 0, 1) := by decide +kernel
theorem dX8_changes_33 : decode cX8_changes 33 = .ok (.getfield 15, 3) := by decide +kernel
theorem dX8_changes_36 : decode cX8_changes 36 = .ok (.iload_n 1, 1) := by decide +kernel
theorem dX8_changes_37 : decode cX8_changes 37 = .ok (.iload 5, 2) := by decide +kernel
theorem dX8_changes_39 : decode cX8_changes 39 = .ok (.iload_n 3, 1) := by decide +kernel
theorem dX8_changes_40 : decode cX8_changes 40 = .ok (.invokestatic 106, 3) := by decide +kernel
theorem dX8_changes_43 : decode cX8_changes 43 = .ok (.invokestatic 84, 3) := by decide +kernel
theorem dX8_changes_46 : decode cX8_changes 46 = .ok (.dup2, 1) := by decide +kernel
theorem dX8_changes_47 : decode cX8_changes 47 = .ok (.iaload, 1) := by decide +kernel
theorem dX8_changes_48 : decode cX8_changes 48 = .ok (.iload 4, 2) := by decide +kernel
theorem dX8_changes_50 : decode cX8_changes 50 = .ok (.iadd, 1) := by decide +kernel
theorem dX8_changes_51 : decode cX8_changes 51 = .ok (.iastore, 1) := by decide +kernel
theorem dX8_changes_52 : decode cX8_changes 52 = .ok (.aload_n 0, 1) := by decide +kernel
theorem dX8_changes_53 : decode cX8_changes 53 = .ok (.getfield 15, 3) := by decide +kernel
theorem dX8_changes_56 : decode cX8_changes 56 = .ok (.iconst 1, 1) := by decide +kernel
theorem dX8_changes_57 : decode cX8_changes 57 = .ok (.iload 5, 2) := by decide +kernel
theorem dX8_changes_59 : decode cX8_changes 59 = .ok (.iadd, 1) := by decide +kernel
theorem dX8_changes_60 : decode cX8_changes 60 = .ok (.iaload, 1) := by decide +kernel
theorem dX8_changes_61 : decode cX8_changes 61 = .ok (.istore 5, 2) := by decide +kernel
theorem dX8_changes_63 : decode cX8_changes 63 = .ok (.goto (-37), 3) := by decide +kernel
theorem dX8_changes_66 : decode cX8_changes 66 = .ok (.return_, 1) := by decide +kernel
theorem dX8_grants_0 : decode cX8_grants 0 = .ok (.aload_n 0, 1) := by decide +kernel
theorem dX8_grants_1 : decode cX8_grants 1 = .ok (.iload_n 1, 1) := by decide +kernel
theorem dX8_grants_2 : decode cX8_grants 2 = .ok (.iload_n 2, 1) := by decide +kernel
theorem dX8_grants_3 : decode cX8_grants 3 = .ok (.iload_n 3, 1) := by decide +kernel
theorem dX8_grants_4 : decode cX8_grants 4 = .ok (.iconst 1, 1) := by decide +kernel
theorem dX8_grants_5 : decode cX8_grants 5 = .ok (.invokevirtual 122, 3) := by decide +kernel
theorem dX8_grants_8 : decode cX8_grants 8 = .ok (.aload_n 0, 1) := by decide +kernel
theorem dX8_grants_9 : decode cX8_grants 9 = .ok (.dup, 1) := by decide +kernel
theorem dX8_grants_10 : decode cX8_grants 10 = .ok (.getfield 56, 3) := by decide +kernel
theorem dX8_grants_13 : decode cX8_grants 13 = .ok (.iconst 1, 1) := by decide +kernel
theorem dX8_grants_14 : decode cX8_grants 14 = .ok (.iadd, 1) := by decide +kernel
theorem dX8_grants_15 : decode cX8_grants 15 = .ok (.putfield 56, 3) := by decide +kernel
theorem dX8_grants_18 : decode cX8_grants 18 = .ok (.return_, 1) := by decide +kernel
theorem dX8_leavesLine_0 : decode cX8_leavesLine 0 = .ok (.iconst 3, 1) := by decide +kernel
theorem dX8_leavesLine_1 : decode cX8_leavesLine 1 = .ok (.iload_n 1, 1) := by decide +kernel
theorem dX8_leavesLine_2 : decode cX8_leavesLine 2 = .ok (.imul, 1) := by decide +kernel
theorem dX8_leavesLine_3 : decode cX8_leavesLine 3 = .ok (.istore_n 2, 1) := by decide +kernel
theorem dX8_leavesLine_4 : decode cX8_leavesLine 4 = .ok (.iload_n 2, 1) := by decide +kernel
theorem dX8_leavesLine_5 : decode cX8_leavesLine 5 = .ok (.iconst 3, 1) := by decide +kernel
theorem dX8_leavesLine_6 : decode cX8_leavesLine 6 = .ok (.aload_n 0, 1) := by decide +kernel
theorem dX8_leavesLine_7 : decode cX8_leavesLine 7 = .ok (.getfield 15, 3) := by decide +kernel
theorem dX8_leavesLine_10 : decode cX8_leavesLine 10 = .ok (.bipush 25, 2) := by decide +kernel
theorem dX8_leavesLine_12 : decode cX8_leavesLine 12 = .ok (.iaload, 1) := by decide +kernel
theorem dX8_leavesLine_13 : decode cX8_leavesLine 13 = .ok (.iconst 1, 1) := by decide +kernel
theorem dX8_leavesLine_14 : decode cX8_leavesLine 14 = .ok (.isub, 1) := by decide +kernel
theorem dX8_leavesLine_15 : decode cX8_leavesLine 15 = .ok (.imul, 1) := by decide +kernel
theorem dX8_leavesLine_16 : decode cX8_leavesLine 16 = .ok (.if_icmp .ge 29, 3) := by decide +kernel
theorem dX8_leavesLine_19 : decode cX8_leavesLine 19 = .ok (.aload_n 0, 1) := by decide +kernel
theorem dX8_leavesLine_20 : decode cX8_leavesLine 20 = .ok (.getfield 15, 3) := by decide +kernel
theorem dX8_leavesLine_23 : decode cX8_leavesLine 23 = .ok (.bipush 26, 2) := by decide +kernel
theorem dX8_leavesLine_25 : decode cX8_leavesLine 25 = .ok (.iload_n 2, 1) := by decide +kernel
theorem dX8_leavesLine_26 : decode cX8_leavesLine 26 = .ok (.iadd, 1) := by decide +kernel
theorem dX8_leavesLine_27 : decode cX8_leavesLine 27 = .ok (.aload_n 0, 1) := by decide +kernel
theorem dX8_leavesLine_28 : decode cX8_leavesLine 28 = .ok (.getfield 15, 3) := by decide +kernel
theorem dX8_leavesLine_31 : decode cX8_leavesLine 31 = .ok (.bipush 26, 2) := by decide +kernel
theorem dX8_leavesLine_33 : decode cX8_leavesLine 33 = .ok (.iload_n 2, 1) := by decide +kernel
theorem dX8_leavesLine_34 : decode cX8_leavesLine 34 = .ok (.iadd, 1) := by decide +kernel
theorem dX8_leavesLine_35 : decode cX8_leavesLine 35 = .ok (.iconst 3, 1) := by decide +kernel
theorem dX8_leavesLine_36 : decode cX8_leavesLine 36 = .ok (.iadd, 1) := by decide +kernel
theorem dX8_leavesLine_37 : decode cX8_leavesLine 37 = .ok (.iaload, 1) := by decide +kernel
theorem dX8_leavesLine_38 : decode cX8_leavesLine 38 = .ok (.iastore, 1) := by decide +kernel
theorem dX8_leavesLine_39 : decode cX8_leavesLine 39 = .ok (.iinc 2 1, 3) := by decide +kernel
theorem dX8_leavesLine_42 : decode cX8_leavesLine 42 = .ok (.goto (-38), 3) := by decide +kernel
theorem dX8_leavesLine_45 : decode cX8_leavesLine 45 = .ok (.aload_n 0, 1) := by decide +kernel
theorem dX8_leavesLine_46 : decode cX8_leavesLine 46 = .ok (.getfield 15, 3) := by decide +kernel
theorem dX8_leavesLine_49 : decode cX8_leavesLine 49 = .ok (.bipush 25, 2) := by decide +kernel
theorem dX8_leavesLine_51 : decode cX8_leavesLine 51 = .ok (.dup2, 1) := by decide +kernel
theorem dX8_leavesLine_52 : decode cX8_leavesLine 52 = .ok (.iaload, 1) := by decide +kernel
theorem dX8_leavesLine_53 : decode cX8_leavesLine 53 = .ok (.iconst 1, 1) := by decide +kernel
theorem dX8_leavesLine_54 : decode cX8_leavesLine 54 = .ok (.isub, 1) := by decide +kernel
theorem dX8_leavesLine_55 : decode cX8_leavesLine 55 = .ok (.iastore, 1) := by decide +kernel
theorem dX8_leavesLine_56 : decode cX8_leavesLine 56 = .ok (.return_, 1) := by decide +kernel
theorem dX8_nextServed_0 : decode cX8_nextServed 0 = .ok (.iconst (-1), 1) := by decide +kernel
theorem dX8_nextServed_1 : decode cX8_nextServed 1 = .ok (.istore_n 1, 1) := by decide +kernel
theorem dX8_nextServed_2 : decode cX8_nextServed 2 = .ok (.iconst 0, 1) := by decide +kernel
theorem dX8_nextServed_3 : decode cX8_nextServed 3 = .ok (.istore_n 2, 1) := by decide +kernel
theorem dX8_nextServed_4 : decode cX8_nextServed 4 = .ok (.iload_n 2, 1) := by decide +kernel
theorem dX8_nextServed_5 : decode cX8_nextServed 5 = .ok (.aload_n 0, 1) := by decide +kernel
theorem dX8_nextServed_6 : decode cX8_nextServed 6 = .ok (.getfield 15, 3) := by decide +kernel
theorem dX8_nextServed_9 : decode cX8_nextServed 9 = .ok (.bipush 25, 2) := by decide +kernel
theorem dX8_nextServed_11 : decode cX8_nextServed 11 = .ok (.iaload, 1) := by decide +kernel
theorem dX8_nextServed_12 : decode cX8_nextServed 12 = .ok (.if_icmp .ge 64, 3) := by decide +kernel
theorem dX8_nextServed_15 : decode cX8_nextServed 15 = .ok (.aload_n 0, 1) := by decide +kernel
theorem dX8_nextServed_16 : decode cX8_nextServed 16 = .ok (.iload_n 2, 1) := by decide +kernel
theorem dX8_nextServed_17 : decode cX8_nextServed 17 = .ok (.invokevirtual 126, 3) := by decide +kernel
theorem dX8_nextServed_20 : decode cX8_nextServed 20 = .ok (.ifCond .eq 6, 3) := by decide +kernel
theorem dX8_nextServed_23 : decode cX8_nextServed 23 = .ok (.goto 47, 3) := by decide +kernel
theorem dX8_nextServed_26 : decode cX8_nextServed 26 = .ok (.aload_n 0, 1) := by decide +kernel
theorem dX8_nextServed_27 : decode cX8_nextServed 27 = .ok (.aload_n 0, 1) := by decide +kernel
theorem dX8_nextServed_28 : decode cX8_nextServed 28 = .ok (.getfield 15, 3) := by decide +kernel
theorem dX8_nextServed_31 : decode cX8_nextServed 31 = .ok (.bipush 26, 2) := by decide +kernel
theorem dX8_nextServed_33 : decode cX8_nextServed 33 = .ok (.iconst 3, 1) := by decide +kernel
theorem dX8_nextServed_34 : decode cX8_nextServed 34 = .ok (.iload_n 2, 1) := by decide +kernel
theorem dX8_nextServed_35 : decode cX8_nextServed 35 = .ok (.imul, 1) := by decide +kernel
theorem dX8_nextServed_36 : decode cX8_nextServed 36 = .ok (.iadd, 1) := by decide +kernel
theorem dX8_nextServed_37 : decode cX8_nextServed 37 = .ok (.iaload, 1) := by decide +kernel
theorem dX8_nextServed_38 : decode cX8_nextServed 38 = .ok (.aload_n 0, 1) := by decide +kernel
theorem dX8_nextServed_39 : decode cX8_nextServed 39 = .ok (.getfield 15, 3) := by decide +kernel
theorem dX8_nextServed_42 : decode cX8_nextServed 42 = .ok (.bipush 26, 2) := by decide +kernel
theorem dX8_nextServed_44 : decode cX8_nextServed 44 = .ok (.iconst 3, 1) := by decide +kernel
theorem dX8_nextServed_45 : decode cX8_nextServed 45 = .ok (.iload_n 2, 1) := by decide +kernel
theorem dX8_nextServed_46 : decode cX8_nextServed 46 = .ok (.imul, 1) := by decide +kernel
theorem dX8_nextServed_47 : decode cX8_nextServed 47 = .ok (.iadd, 1) := by decide +kernel
theorem dX8_nextServed_48 : decode cX8_nextServed 48 = .ok (.iconst 1, 1) := by decide +kernel
theorem dX8_nextServed_49 : decode cX8_nextServed 49 = .ok (.iadd, 1) := by decide +kernel
theorem dX8_nextServed_50 : decode cX8_nextServed 50 = .ok (.iaload, 1) := by decide +kernel
theorem dX8_nextServed_51 : decode cX8_nextServed 51 = .ok (.invokevirtual 115, 3) := by decide +kernel
theorem dX8_nextServed_54 : decode cX8_nextServed 54 = .ok (.ifCond .eq 5, 3) := by decide +kernel
theorem dX8_nextServed_57 : decode cX8_nextServed 57 = .ok (.iload_n 2, 1) := by decide +kernel
theorem dX8_nextServed_58 : decode cX8_nextServed 58 = .ok (.ireturn, 1) := by decide +kernel
theorem dX8_nextServed_59 : decode cX8_nextServed 59 = .ok (.iload_n 1, 1) := by decide +kernel
theorem dX8_nextServed_60 : decode cX8_nextServed 60 = .ok (.iconst (-1), 1) := by decide +kernel
theorem dX8_nextServed_61 : decode cX8_nextServed 61 = .ok (.if_icmp .ne 7, 3) := by decide +kernel
theorem dX8_nextServed_64 : decode cX8_nextServed 64 = .ok (.iload_n 2, 1) := by decide +kernel
theorem dX8_nextServed_65 : decode cX8_nextServed 65 = .ok (.goto 4, 3) := by decide +kernel
theorem dX8_nextServed_68 : decode cX8_nextServed 68 = .ok (.iload_n 1, 1) := by decide +kernel
theorem dX8_nextServed_69 : decode cX8_nextServed 69 = .ok (.istore_n 1, 1) := by decide +kernel
theorem dX8_nextServed_70 : decode cX8_nextServed 70 = .ok (.iinc 2 1, 3) := by decide +kernel
theorem dX8_nextServed_73 : decode cX8_nextServed 73 = .ok (.goto (-69), 3) := by decide +kernel
theorem dX8_nextServed_76 : decode cX8_nextServed 76 = .ok (.iload_n 1, 1) := by decide +kernel
theorem dX8_nextServed_77 : decode cX8_nextServed 77 = .ok (.ireturn, 1) := by decide +kernel
theorem dX8_serves_0 : decode cX8_serves 0 = .ok (.iconst 0, 1) := by decide +kernel
theorem dX8_serves_1 : decode cX8_serves 1 = .ok (.istore_n 1, 1) := by decide +kernel
theorem dX8_serves_2 : decode cX8_serves 2 = .ok (.aload_n 0, 1) := by decide +kernel
theorem dX8_serves_3 : decode cX8_serves 3 = .ok (.invokevirtual 129, 3) := by decide +kernel
theorem dX8_serves_6 : decode cX8_serves 6 = .ok (.istore_n 2, 1) := by decide +kernel
theorem dX8_serves_7 : decode cX8_serves 7 = .ok (.iload_n 2, 1) := by decide +kernel
theorem dX8_serves_8 : decode cX8_serves 8 = .ok (.iconst (-1), 1) := by decide +kernel
theorem dX8_serves_9 : decode cX8_serves 9 = .ok (.if_icmp .eq 70, 3) := by decide +kernel
theorem dX8_serves_12 : decode cX8_serves 12 = .ok (.aload_n 0, 1) := by decide +kernel
theorem dX8_serves_13 : decode cX8_serves 13 = .ok (.getfield 15, 3) := by decide +kernel
theorem dX8_serves_16 : decode cX8_serves 16 = .ok (.bipush 26, 2) := by decide +kernel
theorem dX8_serves_18 : decode cX8_serves 18 = .ok (.iconst 3, 1) := by decide +kernel
theorem dX8_serves_19 : decode cX8_serves 19 = .ok (.iload_n 2, 1) := by decide +kernel
theorem dX8_serves_20 : decode cX8_serves 20 = .ok (.imul, 1) := by decide +kernel
theorem dX8_serves_21 : decode cX8_serves 21 = .ok (.iadd, 1) := by decide +kernel
theorem dX8_serves_22 : decode cX8_serves 22 = .ok (.iaload, 1) := by decide +kernel
theorem dX8_serves_23 : decode cX8_serves 23 = .ok (.istore_n 3, 1) := by decide +kernel
theorem dX8_serves_24 : decode cX8_serves 24 = .ok (.aload_n 0, 1) := by decide +kernel
theorem dX8_serves_25 : decode cX8_serves 25 = .ok (.getfield 15, 3) := by decide +kernel
theorem dX8_serves_28 : decode cX8_serves 28 = .ok (.bipush 26, 2) := by decide +kernel
theorem dX8_serves_30 : decode cX8_serves 30 = .ok (.iconst 3, 1) := by decide +kernel
theorem dX8_serves_31 : decode cX8_serves 31 = .ok (.iload_n 2, 1) := by decide +kernel
theorem dX8_serves_32 : decode cX8_serves 32 = .ok (.imul, 1) := by decide +kernel
theorem dX8_serves_33 : decode cX8_serves 33 = .ok (.iadd, 1) := by decide +kernel
theorem dX8_serves_34 : decode cX8_serves 34 = .ok (.iconst 1, 1) := by decide +kernel
theorem dX8_serves_35 : decode cX8_serves 35 = .ok (.iadd, 1) := by decide +kernel
theorem dX8_serves_36 : decode cX8_serves 36 = .ok (.iaload, 1) := by decide +kernel
theorem dX8_serves_37 : decode cX8_serves 37 = .ok (.istore 4, 2) := by decide +kernel
theorem dX8_serves_39 : decode cX8_serves 39 = .ok (.aload_n 0, 1) := by decide +kernel
theorem dX8_serves_40 : decode cX8_serves 40 = .ok (.getfield 15, 3) := by decide +kernel
theorem dX8_serves_43 : decode cX8_serves 43 = .ok (.bipush 26, 2) := by decide +kernel
theorem dX8_serves_45 : decode cX8_serves 45 = .ok (.iconst 3, 1) := by decide +kernel
theorem dX8_serves_46 : decode cX8_serves 46 = .ok (.iload_n 2, 1) := by decide +kernel
theorem dX8_serves_47 : decode cX8_serves 47 = .ok (.imul, 1) := by decide +kernel
theorem dX8_serves_48 : decode cX8_serves 48 = .ok (.iadd, 1) := by decide +kernel
theorem dX8_serves_49 : decode cX8_serves 49 = .ok (.iconst 2, 1) := by decide +kernel
theorem dX8_serves_50 : decode cX8_serves 50 = .ok (.iadd, 1) := by decide +kernel
theorem dX8_serves_51 : decode cX8_serves 51 = .ok (.iaload, 1) := by decide +kernel
theorem dX8_serves_52 : decode cX8_serves 52 = .ok (.istore 5, 2) := by decide +kernel
theorem dX8_serves_54 : decode cX8_serves 54 = .ok (.aload_n 0, 1) := by decide +kernel
theorem dX8_serves_55 : decode cX8_serves 55 = .ok (.iload_n 2, 1) := by decide +kernel
theorem dX8_serves_56 : decode cX8_serves 56 = .ok (.invokevirtual 133, 3) := by decide +kernel
theorem dX8_serves_59 : decode cX8_serves 59 = .ok (.aload_n 0, 1) := by decide +kernel
theorem dX8_serves_60 : decode cX8_serves 60 = .ok (.iload_n 3, 1) := by decide +kernel
theorem dX8_serves_61 : decode cX8_serves 61 = .ok (.iload 4, 2) := by decide +kernel
theorem dX8_serves_63 : decode cX8_serves 63 = .ok (.iload 5, 2) := by decide +kernel
theorem dX8_serves_65 : decode cX8_serves 65 = .ok (.invokevirtual 137, 3) := by decide +kernel
theorem dX8_serves_68 : decode cX8_serves 68 = .ok (.iinc 1 1, 3) := by decide +kernel
theorem dX8_serves_71 : decode cX8_serves 71 = .ok (.aload_n 0, 1) := by decide +kernel
theorem dX8_serves_72 : decode cX8_serves 72 = .ok (.invokevirtual 129, 3) := by decide +kernel
theorem dX8_serves_75 : decode cX8_serves 75 = .ok (.istore_n 2, 1) := by decide +kernel
theorem dX8_serves_76 : decode cX8_serves 76 = .ok (.goto (-69), 3) := by decide +kernel
theorem dX8_serves_79 : decode cX8_serves 79 = .ok (.iload_n 1, 1) := by decide +kernel
theorem dX8_serves_80 : decode cX8_serves 80 = .ok (.ireturn, 1) := by decide +kernel
theorem dX8_isOtherRaise_0 : decode cX8_isOtherRaise 0 = .ok (.iconst 0, 1) := by decide +kernel
theorem dX8_isOtherRaise_1 : decode cX8_isOtherRaise 1 = .ok (.istore_n 3, 1) := by decide +kernel
theorem dX8_isOtherRaise_2 : decode cX8_isOtherRaise 2 = .ok (.iload_n 3, 1) := by decide +kernel
theorem dX8_isOtherRaise_3 : decode cX8_isOtherRaise 3 = .ok (.aload_n 0, 1) := by decide +kernel
theorem dX8_isOtherRaise_4 : decode cX8_isOtherRaise 4 = .ok (.getfield 15, 3) := by decide +kernel
theorem dX8_isOtherRaise_7 : decode cX8_isOtherRaise 7 = .ok (.bipush 25, 2) := by decide +kernel
theorem dX8_isOtherRaise_9 : decode cX8_isOtherRaise 9 = .ok (.iaload, 1) := by decide +kernel
theorem dX8_isOtherRaise_10 : decode cX8_isOtherRaise 10 = .ok (.if_icmp .ge 57, 3) := by decide +kernel
theorem dX8_isOtherRaise_13 : decode cX8_isOtherRaise 13 = .ok (.aload_n 0, 1) := by decide +kernel
theorem dX8_isOtherRaise_14 : decode cX8_isOtherRaise 14 = .ok (.getfield 15, 3) := by decide +kernel
theorem dX8_isOtherRaise_17 : decode cX8_isOtherRaise 17 = .ok (.bipush 26, 2) := by decide +kernel
theorem dX8_isOtherRaise_19 : decode cX8_isOtherRaise 19 = .ok (.iconst 3, 1) := by decide +kernel
theorem dX8_isOtherRaise_20 : decode cX8_isOtherRaise 20 = .ok (.iload_n 3, 1) := by decide +kernel
theorem dX8_isOtherRaise_21 : decode cX8_isOtherRaise 21 = .ok (.imul, 1) := by decide +kernel
theorem dX8_isOtherRaise_22 : decode cX8_isOtherRaise 22 = .ok (.iadd, 1) := by decide +kernel
theorem dX8_isOtherRaise_23 : decode cX8_isOtherRaise 23 = .ok (.iaload, 1) := by decide +kernel
theorem dX8_isOtherRaise_24 : decode cX8_isOtherRaise 24 = .ok (.istore 4, 2) := by decide +kernel
theorem dX8_isOtherRaise_26 : decode cX8_isOtherRaise 26 = .ok (.iload 4, 2) := by decide +kernel
theorem dX8_isOtherRaise_28 : decode cX8_isOtherRaise 28 = .ok (.iload_n 1, 1) := by decide +kernel
theorem dX8_isOtherRaise_29 : decode cX8_isOtherRaise 29 = .ok (.if_icmp .eq 32, 3) := by decide +kernel
theorem dX8_isOtherRaise_32 : decode cX8_isOtherRaise 32 = .ok (.aload_n 0, 1) := by decide +kernel
theorem dX8_isOtherRaise_33 : decode cX8_isOtherRaise 33 = .ok (.getfield 15, 3) := by decide +kernel
theorem dX8_isOtherRaise_36 : decode cX8_isOtherRaise 36 = .ok (.bipush 26, 2) := by decide +kernel
theorem dX8_isOtherRaise_38 : decode cX8_isOtherRaise 38 = .ok (.iconst 3, 1) := by decide +kernel
theorem dX8_isOtherRaise_39 : decode cX8_isOtherRaise 39 = .ok (.iload_n 3, 1) := by decide +kernel
theorem dX8_isOtherRaise_40 : decode cX8_isOtherRaise 40 = .ok (.imul, 1) := by decide +kernel
theorem dX8_isOtherRaise_41 : decode cX8_isOtherRaise 41 = .ok (.iadd, 1) := by decide +kernel
theorem dX8_isOtherRaise_42 : decode cX8_isOtherRaise 42 = .ok (.iconst 1, 1) := by decide +kernel
theorem dX8_isOtherRaise_43 : decode cX8_isOtherRaise 43 = .ok (.iadd, 1) := by decide +kernel
theorem dX8_isOtherRaise_44 : decode cX8_isOtherRaise 44 = .ok (.iaload, 1) := by decide +kernel
theorem dX8_isOtherRaise_45 : decode cX8_isOtherRaise 45 = .ok (.iload_n 2, 1) := by decide +kernel
theorem dX8_isOtherRaise_46 : decode cX8_isOtherRaise 46 = .ok (.if_icmp .ne 15, 3) := by decide +kernel
theorem dX8_isOtherRaise_49 : decode cX8_isOtherRaise 49 = .ok (.aload_n 0, 1) := by decide +kernel
theorem dX8_isOtherRaise_50 : decode cX8_isOtherRaise 50 = .ok (.iload 4, 2) := by decide +kernel
theorem dX8_isOtherRaise_52 : decode cX8_isOtherRaise 52 = .ok (.iload_n 2, 1) := by decide +kernel
theorem dX8_isOtherRaise_53 : decode cX8_isOtherRaise 53 = .ok (.invokevirtual 115, 3) := by decide +kernel
theorem dX8_isOtherRaise_56 : decode cX8_isOtherRaise 56 = .ok (.ifCond .eq 5, 3) := by decide +kernel
theorem dX8_isOtherRaise_59 : decode cX8_isOtherRaise 59 = .ok (.iconst 1, 1) := by decide +kernel
theorem dX8_isOtherRaise_60 : decode cX8_isOtherRaise 60 = .ok (.ireturn, 1) := by decide +kernel
theorem dX8_isOtherRaise_61 : decode cX8_isOtherRaise 61 = .ok (.iinc 3 1, 3) := by decide +kernel
theorem dX8_isOtherRaise_64 : decode cX8_isOtherRaise 64 = .ok (.goto (-62), 3) := by decide +kernel
theorem dX8_isOtherRaise_67 : decode cX8_isOtherRaise 67 = .ok (.iconst 0, 1) := by decide +kernel
theorem dX8_isOtherRaise_68 : decode cX8_isOtherRaise 68 = .ok (.ireturn, 1) := by decide +kernel
theorem dX8_ask_0 : decode cX8_ask 0 = .ok (.aload_n 0, 1) := by decide +kernel
theorem dX8_ask_1 : decode cX8_ask 1 = .ok (.iload_n 1, 1) := by decide +kernel
theorem dX8_ask_2 : decode cX8_ask 2 = .ok (.iload_n 2, 1) := by decide +kernel
theorem dX8_ask_3 : decode cX8_ask 3 = .ok (.iload_n 3, 1) := by decide +kernel
theorem dX8_ask_4 : decode cX8_ask 4 = .ok (.invokevirtual 141, 3) := by decide +kernel
theorem dX8_ask_7 : decode cX8_ask 7 = .ok (.ifCond .ne 5, 3) := by decide +kernel
theorem dX8_ask_10 : decode cX8_ask 10 = .ok (.iconst (-1), 1) := by decide +kernel
theorem dX8_ask_11 : decode cX8_ask 11 = .ok (.ireturn, 1) := by decide +kernel
theorem dX8_ask_12 : decode cX8_ask 12 = .ok (.aload_n 0, 1) := by decide +kernel
theorem dX8_ask_13 : decode cX8_ask 13 = .ok (.iload_n 1, 1) := by decide +kernel
theorem dX8_ask_14 : decode cX8_ask 14 = .ok (.invokevirtual 144, 3) := by decide +kernel
theorem dX8_ask_17 : decode cX8_ask 17 = .ok (.ifCond .eq 6, 3) := by decide +kernel
theorem dX8_ask_20 : decode cX8_ask 20 = .ok (.bipush (-5), 2) := by decide +kernel
theorem dX8_ask_22 : decode cX8_ask 22 = .ok (.ireturn, 1) := by decide +kernel
theorem dX8_ask_23 : decode cX8_ask 23 = .ok (.aload_n 0, 1) := by decide +kernel
theorem dX8_ask_24 : decode cX8_ask 24 = .ok (.iload_n 1, 1) := by decide +kernel
theorem dX8_ask_25 : decode cX8_ask 25 = .ok (.iload_n 2, 1) := by decide +kernel
theorem dX8_ask_26 : decode cX8_ask 26 = .ok (.iload_n 3, 1) := by decide +kernel
theorem dX8_ask_27 : decode cX8_ask 27 = .ok (.invokevirtual 147, 3) := by decide +kernel
theorem dX8_ask_30 : decode cX8_ask 30 = .ok (.ifCond .eq 12, 3) := by decide +kernel
theorem dX8_ask_33 : decode cX8_ask 33 = .ok (.aload_n 0, 1) := by decide +kernel
theorem dX8_ask_34 : decode cX8_ask 34 = .ok (.iload_n 1, 1) := by decide +kernel
theorem dX8_ask_35 : decode cX8_ask 35 = .ok (.iload_n 2, 1) := by decide +kernel
theorem dX8_ask_36 : decode cX8_ask 36 = .ok (.iload_n 3, 1) := by decide +kernel
theorem dX8_ask_37 : decode cX8_ask 37 = .ok (.invokevirtual 137, 3) := by decide +kernel
theorem dX8_ask_40 : decode cX8_ask 40 = .ok (.iconst 1, 1) := by decide +kernel
theorem dX8_ask_41 : decode cX8_ask 41 = .ok (.ireturn, 1) := by decide +kernel
theorem dX8_ask_42 : decode cX8_ask 42 = .ok (.aload_n 0, 1) := by decide +kernel
theorem dX8_ask_43 : decode cX8_ask 43 = .ok (.iload_n 1, 1) := by decide +kernel
theorem dX8_ask_44 : decode cX8_ask 44 = .ok (.iload_n 2, 1) := by decide +kernel
theorem dX8_ask_45 : decode cX8_ask 45 = .ok (.invokevirtual 115, 3) := by decide +kernel
theorem dX8_ask_48 : decode cX8_ask 48 = .ok (.ifCond .eq 15, 3) := by decide +kernel
theorem dX8_ask_51 : decode cX8_ask 51 = .ok (.aload_n 0, 1) := by decide +kernel
theorem dX8_ask_52 : decode cX8_ask 52 = .ok (.iload_n 1, 1) := by decide +kernel
theorem dX8_ask_53 : decode cX8_ask 53 = .ok (.iload_n 2, 1) := by decide +kernel
theorem dX8_ask_54 : decode cX8_ask 54 = .ok (.invokevirtual 150, 3) := by decide +kernel
theorem dX8_ask_57 : decode cX8_ask 57 = .ok (.ifCond .eq 6, 3) := by decide +kernel
theorem dX8_ask_60 : decode cX8_ask 60 = .ok (.bipush (-2), 2) := by decide +kernel
theorem dX8_ask_62 : decode cX8_ask 62 = .ok (.ireturn, 1) := by decide +kernel
theorem dX8_ask_63 : decode cX8_ask 63 = .ok (.bipush 26, 2) := by decide +kernel
theorem dX8_ask_65 : decode cX8_ask 65 = .ok (.iconst 3, 1) := by decide +kernel
theorem dX8_ask_66 : decode cX8_ask 66 = .ok (.aload_n 0, 1) := by decide +kernel
theorem dX8_ask_67 : decode cX8_ask 67 = .ok (.getfield 15, 3) := by decide +kernel
theorem dX8_ask_70 : decode cX8_ask 70 = .ok (.bipush 25, 2) := by decide +kernel
theorem dX8_ask_72 : decode cX8_ask 72 = .ok (.iaload, 1) := by decide +kernel
theorem dX8_ask_73 : decode cX8_ask 73 = .ok (.imul, 1) := by decide +kernel
theorem dX8_ask_74 : decode cX8_ask 74 = .ok (.iadd, 1) := by decide +kernel
theorem dX8_ask_75 : decode cX8_ask 75 = .ok (.istore 4, 2) := by decide +kernel
theorem dX8_ask_77 : decode cX8_ask 77 = .ok (.aload_n 0, 1) := by decide +kernel
theorem dX8_ask_78 : decode cX8_ask 78 = .ok (.getfield 15, 3) := by decide +kernel
theorem dX8_ask_81 : decode cX8_ask 81 = .ok (.iload 4, 2) := by decide +kernel
theorem dX8_ask_83 : decode cX8_ask 83 = .ok (.iload_n 1, 1) := by decide +kernel
theorem dX8_ask_84 : decode cX8_ask 84 = .ok (.iastore, 1) := by decide +kernel
theorem dX8_ask_85 : decode cX8_ask 85 = .ok (.aload_n 0, 1) := by decide +kernel
theorem dX8_ask_86 : decode cX8_ask 86 = .ok (.getfield 15, 3) := by decide +kernel
theorem dX8_ask_89 : decode cX8_ask 89 = .ok (.iload 4, 2) := by decide +kernel
theorem dX8_ask_91 : decode cX8_ask 91 = .ok (.iconst 1, 1) := by decide +kernel
theorem dX8_ask_92 : decode cX8_ask 92 = .ok (.iadd, 1) := by decide +kernel
theorem dX8_ask_93 : decode cX8_ask 93 = .ok (.iload_n 2, 1) := by decide +kernel
theorem dX8_ask_94 : decode cX8_ask 94 = .ok (.iastore, 1) := by decide +kernel
theorem dX8_ask_95 : decode cX8_ask 95 = .ok (.aload_n 0, 1) := by decide +kernel
theorem dX8_ask_96 : decode cX8_ask 96 = .ok (.getfield 15, 3) := by decide +kernel
theorem dX8_ask_99 : decode cX8_ask 99 = .ok (.iload 4, 2) := by decide +kernel
theorem dX8_ask_101 : decode cX8_ask 101 = .ok (.iconst 2, 1) := by decide +kernel
theorem dX8_ask_102 : decode cX8_ask 102 = .ok (.iadd, 1) := by decide +kernel
theorem dX8_ask_103 : decode cX8_ask 103 = .ok (.iload_n 3, 1) := by decide +kernel
theorem dX8_ask_104 : decode cX8_ask 104 = .ok (.iastore, 1) := by decide +kernel
theorem dX8_ask_105 : decode cX8_ask 105 = .ok (.aload_n 0, 1) := by decide +kernel
theorem dX8_ask_106 : decode cX8_ask 106 = .ok (.getfield 15, 3) := by decide +kernel
theorem dX8_ask_109 : decode cX8_ask 109 = .ok (.bipush 25, 2) := by decide +kernel
theorem dX8_ask_111 : decode cX8_ask 111 = .ok (.dup2, 1) := by decide +kernel
theorem dX8_ask_112 : decode cX8_ask 112 = .ok (.iaload, 1) := by decide +kernel
theorem dX8_ask_113 : decode cX8_ask 113 = .ok (.iconst 1, 1) := by decide +kernel
theorem dX8_ask_114 : decode cX8_ask 114 = .ok (.iadd, 1) := by decide +kernel
theorem dX8_ask_115 : decode cX8_ask 115 = .ok (.iastore, 1) := by decide +kernel
theorem dX8_ask_116 : decode cX8_ask 116 = .ok (.iconst 0, 1) := by decide +kernel
theorem dX8_ask_117 : decode cX8_ask 117 = .ok (.ireturn, 1) := by decide +kernel
theorem dX8_give_0 : decode cX8_give 0 = .ok (.aload_n 0, 1) := by decide +kernel
theorem dX8_give_1 : decode cX8_give 1 = .ok (.iload_n 1, 1) := by decide +kernel
theorem dX8_give_2 : decode cX8_give 2 = .ok (.iload_n 2, 1) := by decide +kernel
theorem dX8_give_3 : decode cX8_give 3 = .ok (.iload_n 3, 1) := by decide +kernel
theorem dX8_give_4 : decode cX8_give 4 = .ok (.invokevirtual 141, 3) := by decide +kernel
theorem dX8_give_7 : decode cX8_give 7 = .ok (.ifCond .ne 5, 3) := by decide +kernel
theorem dX8_give_10 : decode cX8_give 10 = .ok (.iconst (-1), 1) := by decide +kernel
theorem dX8_give_11 : decode cX8_give 11 = .ok (.ireturn, 1) := by decide +kernel
theorem dX8_give_12 : decode cX8_give 12 = .ok (.aload_n 0, 1) := by decide +kernel
theorem dX8_give_13 : decode cX8_give 13 = .ok (.getfield 15, 3) := by decide +kernel
theorem dX8_give_16 : decode cX8_give 16 = .ok (.iload_n 1, 1) := by decide +kernel
theorem dX8_give_17 : decode cX8_give 17 = .ok (.iload_n 2, 1) := by decide +kernel
theorem dX8_give_18 : decode cX8_give 18 = .ok (.iload_n 3, 1) := by decide +kernel
theorem dX8_give_19 : decode cX8_give 19 = .ok (.invokestatic 84, 3) := by decide +kernel
theorem dX8_give_22 : decode cX8_give 22 = .ok (.iaload, 1) := by decide +kernel
theorem dX8_give_23 : decode cX8_give 23 = .ok (.ifCond .ne 6, 3) := by decide +kernel
theorem dX8_give_26 : decode cX8_give 26 = .ok (.bipush (-5), 2) := by decide +kernel
theorem dX8_give_28 : decode cX8_give 28 = .ok (.ireturn, 1) := by decide +kernel
theorem dX8_give_29 : decode cX8_give 29 = .ok (.aload_n 0, 1) := by decide +kernel
theorem dX8_give_30 : decode cX8_give 30 = .ok (.iload_n 1, 1) := by decide +kernel
theorem dX8_give_31 : decode cX8_give 31 = .ok (.iload_n 2, 1) := by decide +kernel
theorem dX8_give_32 : decode cX8_give 32 = .ok (.iload_n 3, 1) := by decide +kernel
theorem dX8_give_33 : decode cX8_give 33 = .ok (.iconst (-1), 1) := by decide +kernel
theorem dX8_give_34 : decode cX8_give 34 = .ok (.invokevirtual 122, 3) := by decide +kernel
theorem dX8_give_37 : decode cX8_give 37 = .ok (.aload_n 0, 1) := by decide +kernel
theorem dX8_give_38 : decode cX8_give 38 = .ok (.invokevirtual 153, 3) := by decide +kernel
theorem dX8_give_41 : decode cX8_give 41 = .ok (.ireturn, 1) := by decide +kernel
theorem dX8_emptiesOwner_0 : decode cX8_emptiesOwner 0 = .ok (.aload_n 0, 1) := by decide +kernel
theorem dX8_emptiesOwner_1 : decode cX8_emptiesOwner 1 = .ok (.iload_n 1, 1) := by decide +kernel
theorem dX8_emptiesOwner_2 : decode cX8_emptiesOwner 2 = .ok (.invokevirtual 109, 3) := by decide +kernel
theorem dX8_emptiesOwner_5 : decode cX8_emptiesOwner 5 = .ok (.istore_n 2, 1) := by decide +kernel
theorem dX8_emptiesOwner_6 : decode cX8_emptiesOwner 6 = .ok (.iload_n 2, 1) := by decide +kernel
theorem dX8_emptiesOwner_7 : decode cX8_emptiesOwner 7 = .ok (.iconst (-1), 1) := by decide +kernel
theorem dX8_emptiesOwner_8 : decode cX8_emptiesOwner 8 = .ok (.if_icmp .eq 8, 3) := by decide +kernel
theorem dX8_emptiesOwner_11 : decode cX8_emptiesOwner 11 = .ok (.aload_n 0, 1) := by decide +kernel
theorem dX8_emptiesOwner_12 : decode cX8_emptiesOwner 12 = .ok (.iload_n 2, 1) := by decide +kernel
theorem dX8_emptiesOwner_13 : decode cX8_emptiesOwner 13 = .ok (.invokevirtual 133, 3) := by decide +kernel
theorem dX8_emptiesOwner_16 : decode cX8_emptiesOwner 16 = .ok (.iconst 0, 1) := by decide +kernel
theorem dX8_emptiesOwner_17 : decode cX8_emptiesOwner 17 = .ok (.istore_n 3, 1) := by decide +kernel
theorem dX8_emptiesOwner_18 : decode cX8_emptiesOwner 18 = .ok (.iload_n 3, 1) := by decide +kernel
theorem dX8_emptiesOwner_19 : decode cX8_emptiesOwner 19 = .ok (.bipush 12, 2) := by decide +kernel
theorem dX8_emptiesOwner_21 : decode cX8_emptiesOwner 21 = .ok (.if_icmp .ge 37, 3) := by decide +kernel
theorem dX8_emptiesOwner_24 : decode cX8_emptiesOwner 24 = .ok (.iconst 1, 1) := by decide +kernel
theorem dX8_emptiesOwner_25 : decode cX8_emptiesOwner 25 = .ok (.istore 4, 2) := by decide +kernel
theorem dX8_emptiesOwner_27 : decode cX8_emptiesOwner 27 = .ok (.iload 4, 2) := by decide +kernel
theorem dX8_emptiesOwner_29 : decode cX8_emptiesOwner 29 = .ok (.iconst 5, 1) := by decide +kernel
theorem dX8_emptiesOwner_30 : decode cX8_emptiesOwner 30 = .ok (.if_icmp .gt 22, 3) := by decide +kernel
theorem dX8_emptiesOwner_33 : decode cX8_emptiesOwner 33 = .ok (.aload_n 0, 1) := by decide +kernel
theorem dX8_emptiesOwner_34 : decode cX8_emptiesOwner 34 = .ok (.getfield 15, 3) := by decide +kernel
theorem dX8_emptiesOwner_37 : decode cX8_emptiesOwner 37 = .ok (.iload_n 1, 1) := by decide +kernel
theorem dX8_emptiesOwner_38 : decode cX8_emptiesOwner 38 = .ok (.iload_n 3, 1) := by decide +kernel
theorem dX8_emptiesOwner_39 : decode cX8_emptiesOwner 39 = .ok (.iload 4, 2) := by decide +kernel
theorem dX8_emptiesOwner_41 : decode cX8_emptiesOwner 41 = .ok (.invokestatic 84, 3) := by decide +kernel
theorem dX8_emptiesOwner_44 : decode cX8_emptiesOwner 44 = .ok (.iconst 0, 1) := by decide +kernel
theorem dX8_emptiesOwner_45 : decode cX8_emptiesOwner 45 = .ok (.iastore, 1) := by decide +kernel
theorem dX8_emptiesOwner_46 : decode cX8_emptiesOwner 46 = .ok (.iinc 4 1, 3) := by decide +kernel
theorem dX8_emptiesOwner_49 : decode cX8_emptiesOwner 49 = .ok (.goto (-22), 3) := by decide +kernel
theorem dX8_emptiesOwner_52 : decode cX8_emptiesOwner 52 = .ok (.iinc 3 1, 3) := by decide +kernel
theorem dX8_emptiesOwner_55 : decode cX8_emptiesOwner 55 = .ok (.goto (-37), 3) := by decide +kernel
theorem dX8_emptiesOwner_58 : decode cX8_emptiesOwner 58 = .ok (.return_, 1) := by decide +kernel
theorem dX8_leavesAll_0 : decode cX8_leavesAll 0 = .ok (.aload_n 0, 1) := by decide +kernel
theorem dX8_leavesAll_1 : decode cX8_leavesAll 1 = .ok (.iload_n 1, 1) := by decide +kernel
theorem dX8_leavesAll_2 : decode cX8_leavesAll 2 = .ok (.invokevirtual 156, 3) := by decide +kernel
theorem dX8_leavesAll_5 : decode cX8_leavesAll 5 = .ok (.aload_n 0, 1) := by decide +kernel
theorem dX8_leavesAll_6 : decode cX8_leavesAll 6 = .ok (.invokevirtual 153, 3) := by decide +kernel
theorem dX8_leavesAll_9 : decode cX8_leavesAll 9 = .ok (.ireturn, 1) := by decide +kernel
theorem dX8_leaves_0 : decode cX8_leaves 0 = .ok (.iload_n 1, 1) := by decide +kernel
theorem dX8_leaves_1 : decode cX8_leaves 1 = .ok (.invokestatic 66, 3) := by decide +kernel
theorem dX8_leaves_4 : decode cX8_leaves 4 = .ok (.ifCond .eq 11, 3) := by decide +kernel
theorem dX8_leaves_7 : decode cX8_leaves 7 = .ok (.aload_n 0, 1) := by decide +kernel
theorem dX8_leaves_8 : decode cX8_leaves 8 = .ok (.iload_n 1, 1) := by decide +kernel
theorem dX8_leaves_9 : decode cX8_leaves 9 = .ok (.invokevirtual 159, 3) := by decide +kernel
theorem dX8_leaves_12 : decode cX8_leaves 12 = .ok (.goto 4, 3) := by decide +kernel
theorem dX8_leaves_15 : decode cX8_leaves 15 = .ok (.iconst (-1), 1) := by decide +kernel
theorem dX8_leaves_16 : decode cX8_leaves 16 = .ok (.ireturn, 1) := by decide +kernel
theorem dX8_forgets_0 : decode cX8_forgets 0 = .ok (.iload_n 1, 1) := by decide +kernel
theorem dX8_forgets_1 : decode cX8_forgets 1 = .ok (.invokestatic 66, 3) := by decide +kernel
theorem dX8_forgets_4 : decode cX8_forgets 4 = .ok (.ifCond .ne 5, 3) := by decide +kernel
theorem dX8_forgets_7 : decode cX8_forgets 7 = .ok (.iconst (-1), 1) := by decide +kernel
theorem dX8_forgets_8 : decode cX8_forgets 8 = .ok (.ireturn, 1) := by decide +kernel
theorem dX8_forgets_9 : decode cX8_forgets 9 = .ok (.aload_n 0, 1) := by decide +kernel
theorem dX8_forgets_10 : decode cX8_forgets 10 = .ok (.iload_n 1, 1) := by decide +kernel
theorem dX8_forgets_11 : decode cX8_forgets 11 = .ok (.invokevirtual 144, 3) := by decide +kernel
theorem dX8_forgets_14 : decode cX8_forgets 14 = .ok (.ifCond .ne 6, 3) := by decide +kernel
theorem dX8_forgets_17 : decode cX8_forgets 17 = .ok (.bipush (-5), 2) := by decide +kernel
theorem dX8_forgets_19 : decode cX8_forgets 19 = .ok (.ireturn, 1) := by decide +kernel
theorem dX8_forgets_20 : decode cX8_forgets 20 = .ok (.aload_n 0, 1) := by decide +kernel
theorem dX8_forgets_21 : decode cX8_forgets 21 = .ok (.aload_n 0, 1) := by decide +kernel
theorem dX8_forgets_22 : decode cX8_forgets 22 = .ok (.iload_n 1, 1) := by decide +kernel
theorem dX8_forgets_23 : decode cX8_forgets 23 = .ok (.invokevirtual 109, 3) := by decide +kernel
theorem dX8_forgets_26 : decode cX8_forgets 26 = .ok (.invokevirtual 133, 3) := by decide +kernel
theorem dX8_forgets_29 : decode cX8_forgets 29 = .ok (.aload_n 0, 1) := by decide +kernel
theorem dX8_forgets_30 : decode cX8_forgets 30 = .ok (.invokevirtual 153, 3) := by decide +kernel
theorem dX8_forgets_33 : decode cX8_forgets 33 = .ok (.ireturn, 1) := by decide +kernel
theorem dX8_waitsForNow_0 : decode cX8_waitsForNow 0 = .ok (.aload_n 0, 1) := by decide +kernel
theorem dX8_waitsForNow_1 : decode cX8_waitsForNow 1 = .ok (.iload_n 1, 1) := by decide +kernel
theorem dX8_waitsForNow_2 : decode cX8_waitsForNow 2 = .ok (.invokevirtual 109, 3) := by decide +kernel
theorem dX8_waitsForNow_5 : decode cX8_waitsForNow 5 = .ok (.istore_n 2, 1) := by decide +kernel
theorem dX8_waitsForNow_6 : decode cX8_waitsForNow 6 = .ok (.iload_n 2, 1) := by decide +kernel
theorem dX8_waitsForNow_7 : decode cX8_waitsForNow 7 = .ok (.iconst (-1), 1) := by decide +kernel
theorem dX8_waitsForNow_8 : decode cX8_waitsForNow 8 = .ok (.if_icmp .ne 7, 3) := by decide +kernel
theorem dX8_waitsForNow_11 : decode cX8_waitsForNow 11 = .ok (.iconst 0, 1) := by decide +kernel
theorem dX8_waitsForNow_12 : decode cX8_waitsForNow 12 = .ok (.goto 8, 3) := by decide +kernel
theorem dX8_waitsForNow_15 : decode cX8_waitsForNow 15 = .ok (.aload_n 0, 1) := by decide +kernel
theorem dX8_waitsForNow_16 : decode cX8_waitsForNow 16 = .ok (.iload_n 2, 1) := by decide +kernel
theorem dX8_waitsForNow_17 : decode cX8_waitsForNow 17 = .ok (.invokevirtual 126, 3) := by decide +kernel
theorem dX8_waitsForNow_20 : decode cX8_waitsForNow 20 = .ok (.ireturn, 1) := by decide +kernel
theorem dX8_comesTo_0 : decode cX8_comesTo 0 = .ok (.aload_n 0, 1) := by decide +kernel
theorem dX8_comesTo_1 : decode cX8_comesTo 1 = .ok (.iload_n 1, 1) := by decide +kernel
theorem dX8_comesTo_2 : decode cX8_comesTo 2 = .ok (.invokevirtual 162, 3) := by decide +kernel
theorem dX8_comesTo_5 : decode cX8_comesTo 5 = .ok (.istore_n 2, 1) := by decide +kernel
theorem dX8_comesTo_6 : decode cX8_comesTo 6 = .ok (.iconst 0, 1) := by decide +kernel
theorem dX8_comesTo_7 : decode cX8_comesTo 7 = .ok (.istore_n 3, 1) := by decide +kernel
theorem dX8_comesTo_8 : decode cX8_comesTo 8 = .ok (.iload_n 2, 1) := by decide +kernel
theorem dX8_comesTo_9 : decode cX8_comesTo 9 = .ok (.iload_n 3, 1) := by decide +kernel
theorem dX8_comesTo_10 : decode cX8_comesTo 10 = .ok (.if_icmp .eq 46, 3) := by decide +kernel
theorem dX8_comesTo_13 : decode cX8_comesTo 13 = .ok (.iload_n 2, 1) := by decide +kernel
theorem dX8_comesTo_14 : decode cX8_comesTo 14 = .ok (.istore_n 3, 1) := by decide +kernel
theorem dX8_comesTo_15 : decode cX8_comesTo 15 = .ok (.iconst 0, 1) := by decide +kernel
theorem dX8_comesTo_16 : decode cX8_comesTo 16 = .ok (.istore 4, 2) := by decide +kernel
theorem dX8_comesTo_18 : decode cX8_comesTo 18 = .ok (.iload 4, 2) := by decide +kernel
theorem dX8_comesTo_20 : decode cX8_comesTo 20 = .ok (.bipush 6, 2) := by decide +kernel
theorem dX8_comesTo_22 : decode cX8_comesTo 22 = .ok (.if_icmp .ge 31, 3) := by decide +kernel
theorem dX8_comesTo_25 : decode cX8_comesTo 25 = .ok (.iload_n 2, 1) := by decide +kernel
theorem dX8_comesTo_26 : decode cX8_comesTo 26 = .ok (.iload_n 3, 1) := by decide +kernel
theorem dX8_comesTo_27 : decode cX8_comesTo 27 = .ok (.iload 4, 2) := by decide +kernel
theorem dX8_comesTo_29 : decode cX8_comesTo 29 = .ok (.invokestatic 80, 3) := by decide +kernel
theorem dX8_comesTo_32 : decode cX8_comesTo 32 = .ok (.ifCond .eq 12, 3) := by decide +kernel
theorem dX8_comesTo_35 : decode cX8_comesTo 35 = .ok (.aload_n 0, 1) := by decide +kernel
theorem dX8_comesTo_36 : decode cX8_comesTo 36 = .ok (.iload 4, 2) := by decide +kernel
theorem dX8_comesTo_38 : decode cX8_comesTo 38 = .ok (.invokevirtual 162, 3) := by decide +kernel
theorem dX8_comesTo_41 : decode cX8_comesTo 41 = .ok (.goto 4, 3) := by decide +kernel
theorem dX8_comesTo_44 : decode cX8_comesTo 44 = .ok (.iconst 0, 1) := by decide +kernel
theorem dX8_comesTo_45 : decode cX8_comesTo 45 = .ok (.ior, 1) := by decide +kernel
theorem dX8_comesTo_46 : decode cX8_comesTo 46 = .ok (.istore_n 2, 1) := by decide +kernel
theorem dX8_comesTo_47 : decode cX8_comesTo 47 = .ok (.iinc 4 1, 3) := by decide +kernel
theorem dX8_comesTo_50 : decode cX8_comesTo 50 = .ok (.goto (-32), 3) := by decide +kernel
theorem dX8_comesTo_53 : decode cX8_comesTo 53 = .ok (.goto (-45), 3) := by decide +kernel
theorem dX8_comesTo_56 : decode cX8_comesTo 56 = .ok (.iload_n 2, 1) := by decide +kernel
theorem dX8_comesTo_57 : decode cX8_comesTo 57 = .ok (.ireturn, 1) := by decide +kernel
theorem dX8_ringNow_0 : decode cX8_ringNow 0 = .ok (.iconst 0, 1) := by decide +kernel
theorem dX8_ringNow_1 : decode cX8_ringNow 1 = .ok (.istore_n 1, 1) := by decide +kernel
theorem dX8_ringNow_2 : decode cX8_ringNow 2 = .ok (.iconst 0, 1) := by decide +kernel
theorem dX8_ringNow_3 : decode cX8_ringNow 3 = .ok (.istore_n 2, 1) := by decide +kernel
theorem dX8_ringNow_4 : decode cX8_ringNow 4 = .ok (.iload_n 2, 1) := by decide +kernel
theorem dX8_ringNow_5 : decode cX8_ringNow 5 = .ok (.bipush 6, 2) := by decide +kernel
theorem dX8_ringNow_7 : decode cX8_ringNow 7 = .ok (.if_icmp .ge 31, 3) := by decide +kernel
theorem dX8_ringNow_10 : decode cX8_ringNow 10 = .ok (.iload_n 1, 1) := by decide +kernel
theorem dX8_ringNow_11 : decode cX8_ringNow 11 = .ok (.aload_n 0, 1) := by decide +kernel
theorem dX8_ringNow_12 : decode cX8_ringNow 12 = .ok (.iload_n 2, 1) := by decide +kernel
theorem dX8_ringNow_13 : decode cX8_ringNow 13 = .ok (.invokevirtual 165, 3) := by decide +kernel
theorem dX8_ringNow_16 : decode cX8_ringNow 16 = .ok (.iload_n 2, 1) := by decide +kernel
theorem dX8_ringNow_17 : decode cX8_ringNow 17 = .ok (.invokestatic 80, 3) := by decide +kernel
theorem dX8_ringNow_20 : decode cX8_ringNow 20 = .ok (.ifCond .eq 9, 3) := by decide +kernel
theorem dX8_ringNow_23 : decode cX8_ringNow 23 = .ok (.iconst 1, 1) := by decide +kernel
theorem dX8_ringNow_24 : decode cX8_ringNow 24 = .ok (.iload_n 2, 1) := by decide +kernel
theorem dX8_ringNow_25 : decode cX8_ringNow 25 = .ok (.ishl, 1) := by decide +kernel
theorem dX8_ringNow_26 : decode cX8_ringNow 26 = .ok (.goto 4, 3) := by decide +kernel
theorem dX8_ringNow_29 : decode cX8_ringNow 29 = .ok (.iconst 0, 1) := by decide +kernel
theorem dX8_ringNow_30 : decode cX8_ringNow 30 = .ok (.ior, 1) := by decide +kernel
theorem dX8_ringNow_31 : decode cX8_ringNow 31 = .ok (.istore_n 1, 1) := by decide +kernel
theorem dX8_ringNow_32 : decode cX8_ringNow 32 = .ok (.iinc 2 1, 3) := by decide +kernel
theorem dX8_ringNow_35 : decode cX8_ringNow 35 = .ok (.goto (-31), 3) := by decide +kernel
theorem dX8_ringNow_38 : decode cX8_ringNow 38 = .ok (.iload_n 1, 1) := by decide +kernel
theorem dX8_ringNow_39 : decode cX8_ringNow 39 = .ok (.ireturn, 1) := by decide +kernel
theorem dX8_countsOf_0 : decode cX8_countsOf 0 = .ok (.iconst 0, 1) := by decide +kernel
theorem dX8_countsOf_1 : decode cX8_countsOf 1 = .ok (.istore_n 2, 1) := by decide +kernel
theorem dX8_countsOf_2 : decode cX8_countsOf 2 = .ok (.iconst 0, 1) := by decide +kernel
theorem dX8_countsOf_3 : decode cX8_countsOf 3 = .ok (.istore_n 3, 1) := by decide +kernel
theorem dX8_countsOf_4 : decode cX8_countsOf 4 = .ok (.iload_n 3, 1) := by decide +kernel
theorem dX8_countsOf_5 : decode cX8_countsOf 5 = .ok (.aload_n 0, 1) := by decide +kernel
theorem dX8_countsOf_6 : decode cX8_countsOf 6 = .ok (.getfield 15, 3) := by decide +kernel
theorem dX8_countsOf_9 : decode cX8_countsOf 9 = .ok (.iconst 0, 1) := by decide +kernel
theorem dX8_countsOf_10 : decode cX8_countsOf 10 = .ok (.iaload, 1) := by decide +kernel
theorem dX8_countsOf_11 : decode cX8_countsOf 11 = .ok (.if_icmp .ge 47, 3) := by decide +kernel
theorem dX8_countsOf_14 : decode cX8_countsOf 14 = .ok (.iload_n 2, 1) := by decide +kernel
theorem dX8_countsOf_15 : decode cX8_countsOf 15 = .ok (.aload_n 0, 1) := by decide +kernel
theorem dX8_countsOf_16 : decode cX8_countsOf 16 = .ok (.getfield 15, 3) := by decide +kernel
theorem dX8_countsOf_19 : decode cX8_countsOf 19 = .ok (.iload_n 1, 1) := by decide +kernel
theorem dX8_countsOf_20 : decode cX8_countsOf 20 = .ok (.iload_n 3, 1) := by decide +kernel
theorem dX8_countsOf_21 : decode cX8_countsOf 21 = .ok (.iconst 2, 1) := by decide +kernel
theorem dX8_countsOf_22 : decode cX8_countsOf 22 = .ok (.invokestatic 84, 3) := by decide +kernel
theorem dX8_countsOf_25 : decode cX8_countsOf 25 = .ok (.iaload, 1) := by decide +kernel
theorem dX8_countsOf_26 : decode cX8_countsOf 26 = .ok (.aload_n 0, 1) := by decide +kernel
theorem dX8_countsOf_27 : decode cX8_countsOf 27 = .ok (.getfield 15, 3) := by decide +kernel
theorem dX8_countsOf_30 : decode cX8_countsOf 30 = .ok (.iload_n 1, 1) := by decide +kernel
theorem dX8_countsOf_31 : decode cX8_countsOf 31 = .ok (.iload_n 3, 1) := by decide +kernel
theorem dX8_countsOf_32 : decode cX8_countsOf 32 = .ok (.iconst 4, 1) := by decide +kernel
theorem dX8_countsOf_33 : decode cX8_countsOf 33 = .ok (.invokestatic 84, 3) := by decide +kernel
theorem dX8_countsOf_36 : decode cX8_countsOf 36 = .ok (.iaload, 1) := by decide +kernel
theorem dX8_countsOf_37 : decode cX8_countsOf 37 = .ok (.iadd, 1) := by decide +kernel
theorem dX8_countsOf_38 : decode cX8_countsOf 38 = .ok (.aload_n 0, 1) := by decide +kernel
theorem dX8_countsOf_39 : decode cX8_countsOf 39 = .ok (.getfield 15, 3) := by decide +kernel
theorem dX8_countsOf_42 : decode cX8_countsOf 42 = .ok (.iload_n 1, 1) := by decide +kernel
theorem dX8_countsOf_43 : decode cX8_countsOf 43 = .ok (.iload_n 3, 1) := by decide +kernel
theorem dX8_countsOf_44 : decode cX8_countsOf 44 = .ok (.iconst 5, 1) := by decide +kernel
theorem dX8_countsOf_45 : decode cX8_countsOf 45 = .ok (.invokestatic 84, 3) := by decide +kernel
theorem dX8_countsOf_48 : decode cX8_countsOf 48 = .ok (.iaload, 1) := by decide +kernel
theorem dX8_countsOf_49 : decode cX8_countsOf 49 = .ok (.iadd, 1) := by decide +kernel
theorem dX8_countsOf_50 : decode cX8_countsOf 50 = .ok (.iadd, 1) := by decide +kernel
theorem dX8_countsOf_51 : decode cX8_countsOf 51 = .ok (.istore_n 2, 1) := by decide +kernel
theorem dX8_countsOf_52 : decode cX8_countsOf 52 = .ok (.iinc 3 1, 3) := by decide +kernel
theorem dX8_countsOf_55 : decode cX8_countsOf 55 = .ok (.goto (-51), 3) := by decide +kernel
theorem dX8_countsOf_58 : decode cX8_countsOf 58 = .ok (.iload_n 2, 1) := by decide +kernel
theorem dX8_countsOf_59 : decode cX8_countsOf 59 = .ok (.ireturn, 1) := by decide +kernel
theorem dX8_leastOf_0 : decode cX8_leastOf 0 = .ok (.bipush (-2), 2) := by decide +kernel
theorem dX8_leastOf_2 : decode cX8_leastOf 2 = .ok (.istore_n 2, 1) := by decide +kernel
theorem dX8_leastOf_3 : decode cX8_leastOf 3 = .ok (.iconst 0, 1) := by decide +kernel
theorem dX8_leastOf_4 : decode cX8_leastOf 4 = .ok (.istore_n 3, 1) := by decide +kernel
theorem dX8_leastOf_5 : decode cX8_leastOf 5 = .ok (.iload_n 3, 1) := by decide +kernel
theorem dX8_leastOf_6 : decode cX8_leastOf 6 = .ok (.bipush 6, 2) := by decide +kernel
theorem dX8_leastOf_8 : decode cX8_leastOf 8 = .ok (.if_icmp .ge 38, 3) := by decide +kernel
theorem dX8_leastOf_11 : decode cX8_leastOf 11 = .ok (.iload_n 1, 1) := by decide +kernel
theorem dX8_leastOf_12 : decode cX8_leastOf 12 = .ok (.iload_n 3, 1) := by decide +kernel
theorem dX8_leastOf_13 : decode cX8_leastOf 13 = .ok (.invokestatic 80, 3) := by decide +kernel
theorem dX8_leastOf_16 : decode cX8_leastOf 16 = .ok (.ifCond .eq 24, 3) := by decide +kernel
theorem dX8_leastOf_19 : decode cX8_leastOf 19 = .ok (.iload_n 2, 1) := by decide +kernel
theorem dX8_leastOf_20 : decode cX8_leastOf 20 = .ok (.bipush (-2), 2) := by decide +kernel
theorem dX8_leastOf_22 : decode cX8_leastOf 22 = .ok (.if_icmp .eq 16, 3) := by decide +kernel
theorem dX8_leastOf_25 : decode cX8_leastOf 25 = .ok (.aload_n 0, 1) := by decide +kernel
theorem dX8_leastOf_26 : decode cX8_leastOf 26 = .ok (.iload_n 3, 1) := by decide +kernel
theorem dX8_leastOf_27 : decode cX8_leastOf 27 = .ok (.invokevirtual 168, 3) := by decide +kernel
theorem dX8_leastOf_30 : decode cX8_leastOf 30 = .ok (.aload_n 0, 1) := by decide +kernel
theorem dX8_leastOf_31 : decode cX8_leastOf 31 = .ok (.iload_n 2, 1) := by decide +kernel
theorem dX8_leastOf_32 : decode cX8_leastOf 32 = .ok (.invokevirtual 168, 3) := by decide +kernel
theorem dX8_leastOf_35 : decode cX8_leastOf 35 = .ok (.if_icmp .gt 5, 3) := by decide +kernel
theorem dX8_leastOf_38 : decode cX8_leastOf 38 = .ok (.iload_n 3, 1) := by decide +kernel
theorem dX8_leastOf_39 : decode cX8_leastOf 39 = .ok (.istore_n 2, 1) := by decide +kernel
theorem dX8_leastOf_40 : decode cX8_leastOf 40 = .ok (.iinc 3 1, 3) := by decide +kernel
theorem dX8_leastOf_43 : decode cX8_leastOf 43 = .ok (.goto (-38), 3) := by decide +kernel
theorem dX8_leastOf_46 : decode cX8_leastOf 46 = .ok (.iload_n 2, 1) := by decide +kernel
theorem dX8_leastOf_47 : decode cX8_leastOf 47 = .ok (.ireturn, 1) := by decide +kernel
theorem dX8_breaks_0 : decode cX8_breaks 0 = .ok (.aload_n 0, 1) := by decide +kernel
theorem dX8_breaks_1 : decode cX8_breaks 1 = .ok (.aload_n 0, 1) := by decide +kernel
theorem dX8_breaks_2 : decode cX8_breaks 2 = .ok (.invokevirtual 171, 3) := by decide +kernel
theorem dX8_breaks_5 : decode cX8_breaks 5 = .ok (.invokevirtual 174, 3) := by decide +kernel
theorem dX8_breaks_8 : decode cX8_breaks 8 = .ok (.istore_n 1, 1) := by decide +kernel
theorem dX8_breaks_9 : decode cX8_breaks 9 = .ok (.iload_n 1, 1) := by decide +kernel
theorem dX8_breaks_10 : decode cX8_breaks 10 = .ok (.bipush (-2), 2) := by decide +kernel
theorem dX8_breaks_12 : decode cX8_breaks 12 = .ok (.if_icmp .eq 9, 3) := by decide +kernel
theorem dX8_breaks_15 : decode cX8_breaks 15 = .ok (.aload_n 0, 1) := by decide +kernel
theorem dX8_breaks_16 : decode cX8_breaks 16 = .ok (.iload_n 1, 1) := by decide +kernel
theorem dX8_breaks_17 : decode cX8_breaks 17 = .ok (.invokevirtual 159, 3) := by decide +kernel
theorem dX8_breaks_20 : decode cX8_breaks 20 = .ok (.pop, 1) := by decide +kernel
theorem dX8_breaks_21 : decode cX8_breaks 21 = .ok (.iload_n 1, 1) := by decide +kernel
theorem dX8_breaks_22 : decode cX8_breaks 22 = .ok (.ireturn, 1) := by decide +kernel
theorem dX8_held_0 : decode cX8_held 0 = .ok (.iload_n 1, 1) := by decide +kernel
theorem dX8_held_1 : decode cX8_held 1 = .ok (.invokestatic 66, 3) := by decide +kernel
theorem dX8_held_4 : decode cX8_held 4 = .ok (.ifCond .eq 34, 3) := by decide +kernel
theorem dX8_held_7 : decode cX8_held 7 = .ok (.aload_n 0, 1) := by decide +kernel
theorem dX8_held_8 : decode cX8_held 8 = .ok (.iload_n 2, 1) := by decide +kernel
theorem dX8_held_9 : decode cX8_held 9 = .ok (.invokevirtual 70, 3) := by decide +kernel
theorem dX8_held_12 : decode cX8_held 12 = .ok (.ifCond .eq 26, 3) := by decide +kernel
theorem dX8_held_15 : decode cX8_held 15 = .ok (.iload_n 3, 1) := by decide +kernel
theorem dX8_held_16 : decode cX8_held 16 = .ok (.iconst 1, 1) := by decide +kernel
theorem dX8_held_17 : decode cX8_held 17 = .ok (.iconst 5, 1) := by decide +kernel
theorem dX8_held_18 : decode cX8_held 18 = .ok (.invokestatic 62, 3) := by decide +kernel
theorem dX8_held_21 : decode cX8_held 21 = .ok (.ifCond .eq 17, 3) := by decide +kernel
theorem dX8_held_24 : decode cX8_held 24 = .ok (.aload_n 0, 1) := by decide +kernel
theorem dX8_held_25 : decode cX8_held 25 = .ok (.getfield 15, 3) := by decide +kernel
theorem dX8_held_28 : decode cX8_held 28 = .ok (.iload_n 1, 1) := by decide +kernel
theorem dX8_held_29 : decode cX8_held 29 = .ok (.iload_n 2, 1) := by decide +kernel
theorem dX8_held_30 : decode cX8_held 30 = .ok (.iload_n 3, 1) := by decide +kernel
theorem dX8_held_31 : decode cX8_held 31 = .ok (.invokestatic 84, 3) := by decide +kernel
theorem dX8_held_34 : decode cX8_held 34 = .ok (.iaload, 1) := by decide +kernel
theorem dX8_held_35 : decode cX8_held 35 = .ok (.goto 4, 3) := by decide +kernel
theorem dX8_held_38 : decode cX8_held 38 = .ok (.iconst (-1), 1) := by decide +kernel
theorem dX8_held_39 : decode cX8_held 39 = .ok (.ireturn, 1) := by decide +kernel
theorem dX8_holders_0 : decode cX8_holders 0 = .ok (.aload_n 0, 1) := by decide +kernel
theorem dX8_holders_1 : decode cX8_holders 1 = .ok (.iload_n 1, 1) := by decide +kernel
theorem dX8_holders_2 : decode cX8_holders 2 = .ok (.invokevirtual 70, 3) := by decide +kernel
theorem dX8_holders_5 : decode cX8_holders 5 = .ok (.ifCond .eq 12, 3) := by decide +kernel
theorem dX8_holders_8 : decode cX8_holders 8 = .ok (.iload_n 2, 1) := by decide +kernel
theorem dX8_holders_9 : decode cX8_holders 9 = .ok (.iconst 0, 1) := by decide +kernel
theorem dX8_holders_10 : decode cX8_holders 10 = .ok (.iconst 5, 1) := by decide +kernel
theorem dX8_holders_11 : decode cX8_holders 11 = .ok (.invokestatic 62, 3) := by decide +kernel
theorem dX8_holders_14 : decode cX8_holders 14 = .ok (.ifCond .ne 5, 3) := by decide +kernel
theorem dX8_holders_17 : decode cX8_holders 17 = .ok (.iconst (-1), 1) := by decide +kernel
theorem dX8_holders_18 : decode cX8_holders 18 = .ok (.ireturn, 1) := by decide +kernel
theorem dX8_holders_19 : decode cX8_holders 19 = .ok (.iconst 0, 1) := by decide +kernel
theorem dX8_holders_20 : decode cX8_holders 20 = .ok (.istore_n 3, 1) := by decide +kernel
theorem dX8_holders_21 : decode cX8_holders 21 = .ok (.iconst 0, 1) := by decide +kernel
theorem dX8_holders_22 : decode cX8_holders 22 = .ok (.istore 4, 2) := by decide +kernel
theorem dX8_holders_24 : decode cX8_holders 24 = .ok (.iload 4, 2) := by decide +kernel
theorem dX8_holders_26 : decode cX8_holders 26 = .ok (.bipush 6, 2) := by decide +kernel
theorem dX8_holders_28 : decode cX8_holders 28 = .ok (.if_icmp .ge 61, 3) := by decide +kernel
theorem dX8_holders_31 : decode cX8_holders 31 = .ok (.iconst 1, 1) := by decide +kernel
theorem dX8_holders_32 : decode cX8_holders 32 = .ok (.istore 5, 2) := by decide +kernel
theorem dX8_holders_34 : decode cX8_holders 34 = .ok (.iload 5, 2) := by decide +kernel
theorem dX8_holders_36 : decode cX8_holders 36 = .ok (.iconst 5, 1) := by decide +kernel
theorem dX8_holders_37 : decode cX8_holders 37 = .ok (.if_icmp .gt 46, 3) := by decide +kernel
theorem dX8_holders_40 : decode cX8_holders 40 = .ok (.iload_n 3, 1) := by decide +kernel
theorem dX8_holders_41 : decode cX8_holders 41 = .ok (.iload_n 2, 1) := by decide +kernel
theorem dX8_holders_42 : decode cX8_holders 42 = .ok (.ifCond .eq 9, 3) := by decide +kernel
theorem dX8_holders_45 : decode cX8_holders 45 = .ok (.iload_n 2, 1) := by decide +kernel
theorem dX8_holders_46 : decode cX8_holders 46 = .ok (.iload 5, 2) := by decide +kernel
theorem dX8_holders_48 : decode cX8_holders 48 = .ok (.if_icmp .ne 26, 3) := by decide +kernel
theorem dX8_holders_51 : decode cX8_holders 51 = .ok (.aload_n 0, 1) := by decide +kernel
theorem dX8_holders_52 : decode cX8_holders 52 = .ok (.getfield 15, 3) := by decide +kernel
theorem dX8_holders_55 : decode cX8_holders 55 = .ok (.iload 4, 2) := by decide +kernel
theorem dX8_holders_57 : decode cX8_holders 57 = .ok (.iload_n 1, 1) := by decide +kernel
theorem dX8_holders_58 : decode cX8_holders 58 = .ok (.iload 5, 2) := by decide +kernel
theorem dX8_holders_60 : decode cX8_holders 60 = .ok (.invokestatic 84, 3) := by decide +kernel
theorem dX8_holders_63 : decode cX8_holders 63 = .ok (.iaload, 1) := by decide +kernel
theorem dX8_holders_64 : decode cX8_holders 64 = .ok (.ifCond .le 10, 3) := by decide +kernel
theorem dX8_holders_67 : decode cX8_holders 67 = .ok (.iconst 1, 1) := by decide +kernel
theorem dX8_holders_68 : decode cX8_holders 68 = .ok (.iload 4, 2) := by decide +kernel
theorem dX8_holders_70 : decode cX8_holders 70 = .ok (.ishl, 1) := by decide +kernel
theorem dX8_holders_71 : decode cX8_holders 71 = .ok (.goto 4, 3) := by decide +kernel
theorem dX8_holders_74 : decode cX8_holders 74 = .ok (.iconst 0, 1) := by decide +kernel
theorem dX8_holders_75 : decode cX8_holders 75 = .ok (.ior, 1) := by decide +kernel
theorem dX8_holders_76 : decode cX8_holders 76 = .ok (.istore_n 3, 1) := by decide +kernel
theorem dX8_holders_77 : decode cX8_holders 77 = .ok (.iinc 5 1, 3) := by decide +kernel
theorem dX8_holders_80 : decode cX8_holders 80 = .ok (.goto (-46), 3) := by decide +kernel
theorem dX8_holders_83 : decode cX8_holders 83 = .ok (.iinc 4 1, 3) := by decide +kernel
theorem dX8_holders_86 : decode cX8_holders 86 = .ok (.goto (-62), 3) := by decide +kernel
theorem dX8_holders_89 : decode cX8_holders 89 = .ok (.iload_n 3, 1) := by decide +kernel
theorem dX8_holders_90 : decode cX8_holders 90 = .ok (.ireturn, 1) := by decide +kernel
theorem dX8_waits_0 : decode cX8_waits 0 = .ok (.iload_n 1, 1) := by decide +kernel
theorem dX8_waits_1 : decode cX8_waits 1 = .ok (.invokestatic 66, 3) := by decide +kernel
theorem dX8_waits_4 : decode cX8_waits 4 = .ok (.ifCond .ne 5, 3) := by decide +kernel
theorem dX8_waits_7 : decode cX8_waits 7 = .ok (.iconst (-1), 1) := by decide +kernel
theorem dX8_waits_8 : decode cX8_waits 8 = .ok (.ireturn, 1) := by decide +kernel
theorem dX8_waits_9 : decode cX8_waits 9 = .ok (.aload_n 0, 1) := by decide +kernel
theorem dX8_waits_10 : decode cX8_waits 10 = .ok (.iload_n 1, 1) := by decide +kernel
theorem dX8_waits_11 : decode cX8_waits 11 = .ok (.invokevirtual 109, 3) := by decide +kernel
theorem dX8_waits_14 : decode cX8_waits 14 = .ok (.istore_n 2, 1) := by decide +kernel
theorem dX8_waits_15 : decode cX8_waits 15 = .ok (.iload_n 2, 1) := by decide +kernel
theorem dX8_waits_16 : decode cX8_waits 16 = .ok (.iconst (-1), 1) := by decide +kernel
theorem dX8_waits_17 : decode cX8_waits 17 = .ok (.if_icmp .ne 6, 3) := by decide +kernel
theorem dX8_waits_20 : decode cX8_waits 20 = .ok (.bipush (-2), 2) := by decide +kernel
theorem dX8_waits_22 : decode cX8_waits 22 = .ok (.ireturn, 1) := by decide +kernel
theorem dX8_waits_23 : decode cX8_waits 23 = .ok (.aload_n 0, 1) := by decide +kernel
theorem dX8_waits_24 : decode cX8_waits 24 = .ok (.getfield 15, 3) := by decide +kernel
theorem dX8_waits_27 : decode cX8_waits 27 = .ok (.bipush 26, 2) := by decide +kernel
theorem dX8_waits_29 : decode cX8_waits 29 = .ok (.iconst 3, 1) := by decide +kernel
theorem dX8_waits_30 : decode cX8_waits 30 = .ok (.iload_n 2, 1) := by decide +kernel
theorem dX8_waits_31 : decode cX8_waits 31 = .ok (.imul, 1) := by decide +kernel
theorem dX8_waits_32 : decode cX8_waits 32 = .ok (.iadd, 1) := by decide +kernel
theorem dX8_waits_33 : decode cX8_waits 33 = .ok (.iconst 1, 1) := by decide +kernel
theorem dX8_waits_34 : decode cX8_waits 34 = .ok (.iadd, 1) := by decide +kernel
theorem dX8_waits_35 : decode cX8_waits 35 = .ok (.iaload, 1) := by decide +kernel
theorem dX8_waits_36 : decode cX8_waits 36 = .ok (.istore_n 3, 1) := by decide +kernel
theorem dX8_waits_37 : decode cX8_waits 37 = .ok (.bipush 100, 2) := by decide +kernel
theorem dX8_waits_39 : decode cX8_waits 39 = .ok (.iload_n 3, 1) := by decide +kernel
theorem dX8_waits_40 : decode cX8_waits 40 = .ok (.imul, 1) := by decide +kernel
theorem dX8_waits_41 : decode cX8_waits 41 = .ok (.bipush 10, 2) := by decide +kernel
theorem dX8_waits_43 : decode cX8_waits 43 = .ok (.aload_n 0, 1) := by decide +kernel
theorem dX8_waits_44 : decode cX8_waits 44 = .ok (.getfield 15, 3) := by decide +kernel
theorem dX8_waits_47 : decode cX8_waits 47 = .ok (.bipush 26, 2) := by decide +kernel
theorem dX8_waits_49 : decode cX8_waits 49 = .ok (.iconst 3, 1) := by decide +kernel
theorem dX8_waits_50 : decode cX8_waits 50 = .ok (.iload_n 2, 1) := by decide +kernel
theorem dX8_waits_51 : decode cX8_waits 51 = .ok (.imul, 1) := by decide +kernel
theorem dX8_waits_52 : decode cX8_waits 52 = .ok (.iadd, 1) := by decide +kernel
theorem dX8_waits_53 : decode cX8_waits 53 = .ok (.iconst 2, 1) := by decide +kernel
theorem dX8_waits_54 : decode cX8_waits 54 = .ok (.iadd, 1) := by decide +kernel
theorem dX8_waits_55 : decode cX8_waits 55 = .ok (.iaload, 1) := by decide +kernel
theorem dX8_waits_56 : decode cX8_waits 56 = .ok (.imul, 1) := by decide +kernel
theorem dX8_waits_57 : decode cX8_waits 57 = .ok (.iadd, 1) := by decide +kernel
theorem dX8_waits_58 : decode cX8_waits 58 = .ok (.aload_n 0, 1) := by decide +kernel
theorem dX8_waits_59 : decode cX8_waits 59 = .ok (.iload_n 1, 1) := by decide +kernel
theorem dX8_waits_60 : decode cX8_waits 60 = .ok (.iload_n 3, 1) := by decide +kernel
theorem dX8_waits_61 : decode cX8_waits 61 = .ok (.invokevirtual 115, 3) := by decide +kernel
theorem dX8_waits_64 : decode cX8_waits 64 = .ok (.ifCond .eq 7, 3) := by decide +kernel
theorem dX8_waits_67 : decode cX8_waits 67 = .ok (.iconst 1, 1) := by decide +kernel
theorem dX8_waits_68 : decode cX8_waits 68 = .ok (.goto 4, 3) := by decide +kernel
theorem dX8_waits_71 : decode cX8_waits 71 = .ok (.iconst 0, 1) := by decide +kernel
theorem dX8_waits_72 : decode cX8_waits 72 = .ok (.iadd, 1) := by decide +kernel
theorem dX8_waits_73 : decode cX8_waits 73 = .ok (.ireturn, 1) := by decide +kernel
theorem dX8_line_0 : decode cX8_line 0 = .ok (.iload_n 1, 1) := by decide +kernel
theorem dX8_line_1 : decode cX8_line 1 = .ok (.iconst (-1), 1) := by decide +kernel
theorem dX8_line_2 : decode cX8_line 2 = .ok (.if_icmp .ge 5, 3) := by decide +kernel
theorem dX8_line_5 : decode cX8_line 5 = .ok (.iconst (-1), 1) := by decide +kernel
theorem dX8_line_6 : decode cX8_line 6 = .ok (.ireturn, 1) := by decide +kernel
theorem dX8_line_7 : decode cX8_line 7 = .ok (.iload_n 1, 1) := by decide +kernel
theorem dX8_line_8 : decode cX8_line 8 = .ok (.iconst (-1), 1) := by decide +kernel
theorem dX8_line_9 : decode cX8_line 9 = .ok (.if_icmp .ne 13, 3) := by decide +kernel
theorem dX8_line_12 : decode cX8_line 12 = .ok (.aload_n 0, 1) := by decide +kernel
theorem dX8_line_13 : decode cX8_line 13 = .ok (.getfield 15, 3) := by decide +kernel
theorem dX8_line_16 : decode cX8_line 16 = .ok (.bipush 25, 2) := by decide +kernel
theorem dX8_line_18 : decode cX8_line 18 = .ok (.iaload, 1) := by decide +kernel
theorem dX8_line_19 : decode cX8_line 19 = .ok (.goto 30, 3) := by decide +kernel
theorem dX8_line_22 : decode cX8_line 22 = .ok (.iload_n 1, 1) := by decide +kernel
theorem dX8_line_23 : decode cX8_line 23 = .ok (.aload_n 0, 1) := by decide +kernel
theorem dX8_line_24 : decode cX8_line 24 = .ok (.getfield 15, 3) := by decide +kernel
theorem dX8_line_27 : decode cX8_line 27 = .ok (.bipush 25, 2) := by decide +kernel
theorem dX8_line_29 : decode cX8_line 29 = .ok (.iaload, 1) := by decide +kernel
theorem dX8_line_30 : decode cX8_line 30 = .ok (.if_icmp .ge 17, 3) := by decide +kernel
theorem dX8_line_33 : decode cX8_line 33 = .ok (.aload_n 0, 1) := by decide +kernel
theorem dX8_line_34 : decode cX8_line 34 = .ok (.getfield 15, 3) := by decide +kernel
theorem dX8_line_37 : decode cX8_line 37 = .ok (.bipush 26, 2) := by decide +kernel
theorem dX8_line_39 : decode cX8_line 39 = .ok (.iconst 3, 1) := by decide +kernel
theorem dX8_line_40 : decode cX8_line 40 = .ok (.iload_n 1, 1) := by decide +kernel
theorem dX8_line_41 : decode cX8_line 41 = .ok (.imul, 1) := by decide +kernel
theorem dX8_line_42 : decode cX8_line 42 = .ok (.iadd, 1) := by decide +kernel
theorem dX8_line_43 : decode cX8_line 43 = .ok (.iaload, 1) := by decide +kernel
theorem dX8_line_44 : decode cX8_line 44 = .ok (.goto 5, 3) := by decide +kernel
theorem dX8_line_47 : decode cX8_line 47 = .ok (.bipush (-2), 2) := by decide +kernel
theorem dX8_line_49 : decode cX8_line 49 = .ok (.ireturn, 1) := by decide +kernel
theorem dX8_waitsFor_0 : decode cX8_waitsFor 0 = .ok (.iload_n 1, 1) := by decide +kernel
theorem dX8_waitsFor_1 : decode cX8_waitsFor 1 = .ok (.invokestatic 66, 3) := by decide +kernel
theorem dX8_waitsFor_4 : decode cX8_waitsFor 4 = .ok (.ifCond .eq 11, 3) := by decide +kernel
theorem dX8_waitsFor_7 : decode cX8_waitsFor 7 = .ok (.aload_n 0, 1) := by decide +kernel
theorem dX8_waitsFor_8 : decode cX8_waitsFor 8 = .ok (.iload_n 1, 1) := by decide +kernel
theorem dX8_waitsFor_9 : decode cX8_waitsFor 9 = .ok (.invokevirtual 162, 3) := by decide +kernel
theorem dX8_waitsFor_12 : decode cX8_waitsFor 12 = .ok (.goto 4, 3) := by decide +kernel
theorem dX8_waitsFor_15 : decode cX8_waitsFor 15 = .ok (.iconst (-1), 1) := by decide +kernel
theorem dX8_waitsFor_16 : decode cX8_waitsFor 16 = .ok (.ireturn, 1) := by decide +kernel
theorem dX8_ring_0 : decode cX8_ring 0 = .ok (.iload_n 1, 1) := by decide +kernel
theorem dX8_ring_1 : decode cX8_ring 1 = .ok (.iconst 0, 1) := by decide +kernel
theorem dX8_ring_2 : decode cX8_ring 2 = .ok (.iconst 2, 1) := by decide +kernel
theorem dX8_ring_3 : decode cX8_ring 3 = .ok (.invokestatic 62, 3) := by decide +kernel
theorem dX8_ring_6 : decode cX8_ring 6 = .ok (.ifCond .ne 5, 3) := by decide +kernel
theorem dX8_ring_9 : decode cX8_ring 9 = .ok (.iconst (-1), 1) := by decide +kernel
theorem dX8_ring_10 : decode cX8_ring 10 = .ok (.ireturn, 1) := by decide +kernel
theorem dX8_ring_11 : decode cX8_ring 11 = .ok (.aload_n 0, 1) := by decide +kernel
theorem dX8_ring_12 : decode cX8_ring 12 = .ok (.invokevirtual 171, 3) := by decide +kernel
theorem dX8_ring_15 : decode cX8_ring 15 = .ok (.istore_n 2, 1) := by decide +kernel
theorem dX8_ring_16 : decode cX8_ring 16 = .ok (.aload_n 0, 1) := by decide +kernel
theorem dX8_ring_17 : decode cX8_ring 17 = .ok (.iload_n 2, 1) := by decide +kernel
theorem dX8_ring_18 : decode cX8_ring 18 = .ok (.invokevirtual 174, 3) := by decide +kernel
theorem dX8_ring_21 : decode cX8_ring 21 = .ok (.istore_n 3, 1) := by decide +kernel
theorem dX8_ring_22 : decode cX8_ring 22 = .ok (.iload_n 1, 1) := by decide +kernel
theorem dX8_ring_23 : decode cX8_ring 23 = .ok (.ifCond .ne 7, 3) := by decide +kernel
theorem dX8_ring_26 : decode cX8_ring 26 = .ok (.iload_n 2, 1) := by decide +kernel
theorem dX8_ring_27 : decode cX8_ring 27 = .ok (.goto 23, 3) := by decide +kernel
theorem dX8_ring_30 : decode cX8_ring 30 = .ok (.iload_n 1, 1) := by decide +kernel
theorem dX8_ring_31 : decode cX8_ring 31 = .ok (.iconst 1, 1) := by decide +kernel
theorem dX8_ring_32 : decode cX8_ring 32 = .ok (.if_icmp .eq 9, 3) := by decide +kernel
theorem dX8_ring_35 : decode cX8_ring 35 = .ok (.iload_n 3, 1) := by decide +kernel
theorem dX8_ring_36 : decode cX8_ring 36 = .ok (.bipush (-2), 2) := by decide +kernel
theorem dX8_ring_38 : decode cX8_ring 38 = .ok (.if_icmp .ne 7, 3) := by decide +kernel
theorem dX8_ring_41 : decode cX8_ring 41 = .ok (.iload_n 3, 1) := by decide +kernel
theorem dX8_ring_42 : decode cX8_ring 42 = .ok (.goto 8, 3) := by decide +kernel
theorem dX8_ring_45 : decode cX8_ring 45 = .ok (.aload_n 0, 1) := by decide +kernel
theorem dX8_ring_46 : decode cX8_ring 46 = .ok (.iload_n 3, 1) := by decide +kernel
theorem dX8_ring_47 : decode cX8_ring 47 = .ok (.invokevirtual 168, 3) := by decide +kernel
theorem dX8_ring_50 : decode cX8_ring 50 = .ok (.ireturn, 1) := by decide +kernel
theorem dX8_allCounts_0 : decode cX8_allCounts 0 = .ok (.iconst 0, 1) := by decide +kernel
theorem dX8_allCounts_1 : decode cX8_allCounts 1 = .ok (.istore_n 1, 1) := by decide +kernel
theorem dX8_allCounts_2 : decode cX8_allCounts 2 = .ok (.iconst 0, 1) := by decide +kernel
theorem dX8_allCounts_3 : decode cX8_allCounts 3 = .ok (.istore_n 2, 1) := by decide +kernel
theorem dX8_allCounts_4 : decode cX8_allCounts 4 = .ok (.iload_n 2, 1) := by decide +kernel
theorem dX8_allCounts_5 : decode cX8_allCounts 5 = .ok (.aload_n 0, 1) := by decide +kernel
theorem dX8_allCounts_6 : decode cX8_allCounts 6 = .ok (.getfield 15, 3) := by decide +kernel
theorem dX8_allCounts_9 : decode cX8_allCounts 9 = .ok (.iconst 0, 1) := by decide +kernel
theorem dX8_allCounts_10 : decode cX8_allCounts 10 = .ok (.iaload, 1) := by decide +kernel
theorem dX8_allCounts_11 : decode cX8_allCounts 11 = .ok (.if_icmp .ge 17, 3) := by decide +kernel
theorem dX8_allCounts_14 : decode cX8_allCounts 14 = .ok (.iload_n 1, 1) := by decide +kernel
theorem dX8_allCounts_15 : decode cX8_allCounts 15 = .ok (.aload_n 0, 1) := by decide +kernel
theorem dX8_allCounts_16 : decode cX8_allCounts 16 = .ok (.iload_n 2, 1) := by decide +kernel
theorem dX8_allCounts_17 : decode cX8_allCounts 17 = .ok (.invokevirtual 94, 3) := by decide +kernel
theorem dX8_allCounts_20 : decode cX8_allCounts 20 = .ok (.iadd, 1) := by decide +kernel
theorem dX8_allCounts_21 : decode cX8_allCounts 21 = .ok (.istore_n 1, 1) := by decide +kernel
theorem dX8_allCounts_22 : decode cX8_allCounts 22 = .ok (.iinc 2 1, 3) := by decide +kernel
theorem dX8_allCounts_25 : decode cX8_allCounts 25 = .ok (.goto (-21), 3) := by decide +kernel
theorem dX8_allCounts_28 : decode cX8_allCounts 28 = .ok (.iload_n 1, 1) := by decide +kernel
theorem dX8_allCounts_29 : decode cX8_allCounts 29 = .ok (.ireturn, 1) := by decide +kernel
theorem dX8_count_0 : decode cX8_count 0 = .ok (.iload_n 1, 1) := by decide +kernel
theorem dX8_count_1 : decode cX8_count 1 = .ok (.tableswitch 86 0 6 #[43, 50, 58, 63, 71, 76, 81], 43) := by decide +kernel
theorem dX8_count_44 : decode cX8_count 44 = .ok (.aload_n 0, 1) := by decide +kernel
theorem dX8_count_45 : decode cX8_count 45 = .ok (.getfield 15, 3) := by decide +kernel
theorem dX8_count_48 : decode cX8_count 48 = .ok (.iconst 0, 1) := by decide +kernel
theorem dX8_count_49 : decode cX8_count 49 = .ok (.iaload, 1) := by decide +kernel
theorem dX8_count_50 : decode cX8_count 50 = .ok (.ireturn, 1) := by decide +kernel
theorem dX8_count_51 : decode cX8_count 51 = .ok (.aload_n 0, 1) := by decide +kernel
theorem dX8_count_52 : decode cX8_count 52 = .ok (.getfield 15, 3) := by decide +kernel
theorem dX8_count_55 : decode cX8_count 55 = .ok (.bipush 25, 2) := by decide +kernel
theorem dX8_count_57 : decode cX8_count 57 = .ok (.iaload, 1) := by decide +kernel
theorem dX8_count_58 : decode cX8_count 58 = .ok (.ireturn, 1) := by decide +kernel
theorem dX8_count_59 : decode cX8_count 59 = .ok (.aload_n 0, 1) := by decide +kernel
theorem dX8_count_60 : decode cX8_count 60 = .ok (.invokevirtual 177, 3) := by decide +kernel
theorem dX8_count_63 : decode cX8_count 63 = .ok (.ireturn, 1) := by decide +kernel
theorem dX8_count_64 : decode cX8_count 64 = .ok (.aload_n 0, 1) := by decide +kernel
theorem dX8_count_65 : decode cX8_count 65 = .ok (.getfield 15, 3) := by decide +kernel
theorem dX8_count_68 : decode cX8_count 68 = .ok (.bipush 44, 2) := by decide +kernel
theorem dX8_count_70 : decode cX8_count 70 = .ok (.iaload, 1) := by decide +kernel
theorem dX8_count_71 : decode cX8_count 71 = .ok (.ireturn, 1) := by decide +kernel
theorem dX8_count_72 : decode cX8_count 72 = .ok (.aload_n 0, 1) := by decide +kernel
theorem dX8_count_73 : decode cX8_count 73 = .ok (.getfield 180, 3) := by decide +kernel
theorem dX8_count_76 : decode cX8_count 76 = .ok (.ireturn, 1) := by decide +kernel
theorem dX8_count_77 : decode cX8_count 77 = .ok (.aload_n 0, 1) := by decide +kernel
theorem dX8_count_78 : decode cX8_count 78 = .ok (.getfield 183, 3) := by decide +kernel
theorem dX8_count_81 : decode cX8_count 81 = .ok (.ireturn, 1) := by decide +kernel
theorem dX8_count_82 : decode cX8_count 82 = .ok (.aload_n 0, 1) := by decide +kernel
theorem dX8_count_83 : decode cX8_count 83 = .ok (.getfield 56, 3) := by decide +kernel
theorem dX8_count_86 : decode cX8_count 86 = .ok (.ireturn, 1) := by decide +kernel
theorem dX8_count_87 : decode cX8_count 87 = .ok (.iconst (-1), 1) := by decide +kernel
theorem dX8_count_88 : decode cX8_count 88 = .ok (.ireturn, 1) := by decide +kernel
theorem dX8_would_0 : decode cX8_would 0 = .ok (.aload_n 0, 1) := by decide +kernel
theorem dX8_would_1 : decode cX8_would 1 = .ok (.iload_n 1, 1) := by decide +kernel
theorem dX8_would_2 : decode cX8_would 2 = .ok (.iload_n 2, 1) := by decide +kernel
theorem dX8_would_3 : decode cX8_would 3 = .ok (.iload_n 3, 1) := by decide +kernel
theorem dX8_would_4 : decode cX8_would 4 = .ok (.invokevirtual 141, 3) := by decide +kernel
theorem dX8_would_7 : decode cX8_would 7 = .ok (.ifCond .ne 5, 3) := by decide +kernel
theorem dX8_would_10 : decode cX8_would 10 = .ok (.iconst (-1), 1) := by decide +kernel
theorem dX8_would_11 : decode cX8_would 11 = .ok (.ireturn, 1) := by decide +kernel
theorem dX8_would_12 : decode cX8_would 12 = .ok (.aload_n 0, 1) := by decide +kernel
theorem dX8_would_13 : decode cX8_would 13 = .ok (.iload_n 1, 1) := by decide +kernel
theorem dX8_would_14 : decode cX8_would 14 = .ok (.invokevirtual 144, 3) := by decide +kernel
theorem dX8_would_17 : decode cX8_would 17 = .ok (.ifCond .eq 6, 3) := by decide +kernel
theorem dX8_would_20 : decode cX8_would 20 = .ok (.bipush (-5), 2) := by decide +kernel
theorem dX8_would_22 : decode cX8_would 22 = .ok (.ireturn, 1) := by decide +kernel
theorem dX8_would_23 : decode cX8_would 23 = .ok (.aload_n 0, 1) := by decide +kernel
theorem dX8_would_24 : decode cX8_would 24 = .ok (.iload_n 1, 1) := by decide +kernel
theorem dX8_would_25 : decode cX8_would 25 = .ok (.iload_n 2, 1) := by decide +kernel
theorem dX8_would_26 : decode cX8_would 26 = .ok (.iload_n 3, 1) := by decide +kernel
theorem dX8_would_27 : decode cX8_would 27 = .ok (.invokevirtual 147, 3) := by decide +kernel
theorem dX8_would_30 : decode cX8_would 30 = .ok (.ifCond .eq 5, 3) := by decide +kernel
theorem dX8_would_33 : decode cX8_would 33 = .ok (.iconst 1, 1) := by decide +kernel
theorem dX8_would_34 : decode cX8_would 34 = .ok (.ireturn, 1) := by decide +kernel
theorem dX8_would_35 : decode cX8_would 35 = .ok (.aload_n 0, 1) := by decide +kernel
theorem dX8_would_36 : decode cX8_would 36 = .ok (.invokevirtual 186, 3) := by decide +kernel
theorem dX8_would_39 : decode cX8_would 39 = .ok (.bipush 26, 2) := by decide +kernel
theorem dX8_would_41 : decode cX8_would 41 = .ok (.iconst 3, 1) := by decide +kernel
theorem dX8_would_42 : decode cX8_would 42 = .ok (.aload_n 0, 1) := by decide +kernel
theorem dX8_would_43 : decode cX8_would 43 = .ok (.getfield 15, 3) := by decide +kernel
theorem dX8_would_46 : decode cX8_would 46 = .ok (.bipush 25, 2) := by decide +kernel
theorem dX8_would_48 : decode cX8_would 48 = .ok (.iaload, 1) := by decide +kernel
theorem dX8_would_49 : decode cX8_would 49 = .ok (.imul, 1) := by decide +kernel
theorem dX8_would_50 : decode cX8_would 50 = .ok (.iadd, 1) := by decide +kernel
theorem dX8_would_51 : decode cX8_would 51 = .ok (.istore 4, 2) := by decide +kernel
theorem dX8_would_53 : decode cX8_would 53 = .ok (.aload_n 0, 1) := by decide +kernel
theorem dX8_would_54 : decode cX8_would 54 = .ok (.getfield 15, 3) := by decide +kernel
theorem dX8_would_57 : decode cX8_would 57 = .ok (.iload 4, 2) := by decide +kernel
theorem dX8_would_59 : decode cX8_would 59 = .ok (.iload_n 1, 1) := by decide +kernel
theorem dX8_would_60 : decode cX8_would 60 = .ok (.iastore, 1) := by decide +kernel
theorem dX8_would_61 : decode cX8_would 61 = .ok (.aload_n 0, 1) := by decide +kernel
theorem dX8_would_62 : decode cX8_would 62 = .ok (.getfield 15, 3) := by decide +kernel
theorem dX8_would_65 : decode cX8_would 65 = .ok (.iload 4, 2) := by decide +kernel
theorem dX8_would_67 : decode cX8_would 67 = .ok (.iconst 1, 1) := by decide +kernel
theorem dX8_would_68 : decode cX8_would 68 = .ok (.iadd, 1) := by decide +kernel
theorem dX8_would_69 : decode cX8_would 69 = .ok (.iload_n 2, 1) := by decide +kernel
theorem dX8_would_70 : decode cX8_would 70 = .ok (.iastore, 1) := by decide +kernel
theorem dX8_would_71 : decode cX8_would 71 = .ok (.aload_n 0, 1) := by decide +kernel
theorem dX8_would_72 : decode cX8_would 72 = .ok (.getfield 15, 3) := by decide +kernel
theorem dX8_would_75 : decode cX8_would 75 = .ok (.iload 4, 2) := by decide +kernel
theorem dX8_would_77 : decode cX8_would 77 = .ok (.iconst 2, 1) := by decide +kernel
theorem dX8_would_78 : decode cX8_would 78 = .ok (.iadd, 1) := by decide +kernel
theorem dX8_would_79 : decode cX8_would 79 = .ok (.iload_n 3, 1) := by decide +kernel
theorem dX8_would_80 : decode cX8_would 80 = .ok (.iastore, 1) := by decide +kernel
theorem dX8_would_81 : decode cX8_would 81 = .ok (.aload_n 0, 1) := by decide +kernel
theorem dX8_would_82 : decode cX8_would 82 = .ok (.getfield 15, 3) := by decide +kernel
theorem dX8_would_85 : decode cX8_would 85 = .ok (.bipush 25, 2) := by decide +kernel
theorem dX8_would_87 : decode cX8_would 87 = .ok (.dup2, 1) := by decide +kernel
theorem dX8_would_88 : decode cX8_would 88 = .ok (.iaload, 1) := by decide +kernel
theorem dX8_would_89 : decode cX8_would 89 = .ok (.iconst 1, 1) := by decide +kernel
theorem dX8_would_90 : decode cX8_would 90 = .ok (.iadd, 1) := by decide +kernel
theorem dX8_would_91 : decode cX8_would 91 = .ok (.iastore, 1) := by decide +kernel
theorem dX8_would_92 : decode cX8_would 92 = .ok (.aload_n 0, 1) := by decide +kernel
theorem dX8_would_93 : decode cX8_would 93 = .ok (.iload_n 1, 1) := by decide +kernel
theorem dX8_would_94 : decode cX8_would 94 = .ok (.invokevirtual 165, 3) := by decide +kernel
theorem dX8_would_97 : decode cX8_would 97 = .ok (.iload_n 1, 1) := by decide +kernel
theorem dX8_would_98 : decode cX8_would 98 = .ok (.invokestatic 80, 3) := by decide +kernel
theorem dX8_would_101 : decode cX8_would 101 = .ok (.istore 5, 2) := by decide +kernel
theorem dX8_would_103 : decode cX8_would 103 = .ok (.aload_n 0, 1) := by decide +kernel
theorem dX8_would_104 : decode cX8_would 104 = .ok (.invokevirtual 189, 3) := by decide +kernel
theorem dX8_would_107 : decode cX8_would 107 = .ok (.iload 5, 2) := by decide +kernel
theorem dX8_would_109 : decode cX8_would 109 = .ok (.ifCond .eq 7, 3) := by decide +kernel
theorem dX8_would_112 : decode cX8_would 112 = .ok (.iconst 2, 1) := by decide +kernel
theorem dX8_would_113 : decode cX8_would 113 = .ok (.goto 4, 3) := by decide +kernel
theorem dX8_would_116 : decode cX8_would 116 = .ok (.iconst 0, 1) := by decide +kernel
theorem dX8_would_117 : decode cX8_would 117 = .ok (.ireturn, 1) := by decide +kernel
theorem dX8_couldBe_0 : decode cX8_couldBe 0 = .ok (.iconst 0, 1) := by decide +kernel
theorem dX8_couldBe_1 : decode cX8_couldBe 1 = .ok (.istore 5, 2) := by decide +kernel
theorem dX8_couldBe_3 : decode cX8_couldBe 3 = .ok (.iload 5, 2) := by decide +kernel
theorem dX8_couldBe_5 : decode cX8_couldBe 5 = .ok (.bipush 6, 2) := by decide +kernel
theorem dX8_couldBe_7 : decode cX8_couldBe 7 = .ok (.if_icmp .ge 25, 3) := by decide +kernel
theorem dX8_couldBe_10 : decode cX8_couldBe 10 = .ok (.iload 4, 2) := by decide +kernel
theorem dX8_couldBe_12 : decode cX8_couldBe 12 = .ok (.iload 5, 2) := by decide +kernel
theorem dX8_couldBe_14 : decode cX8_couldBe 14 = .ok (.invokestatic 80, 3) := by decide +kernel
theorem dX8_couldBe_17 : decode cX8_couldBe 17 = .ok (.ifCond .eq 9, 3) := by decide +kernel
theorem dX8_couldBe_20 : decode cX8_couldBe 20 = .ok (.aload_n 0, 1) := by decide +kernel
theorem dX8_couldBe_21 : decode cX8_couldBe 21 = .ok (.iload 5, 2) := by decide +kernel
theorem dX8_couldBe_23 : decode cX8_couldBe 23 = .ok (.invokevirtual 156, 3) := by decide +kernel
theorem dX8_couldBe_26 : decode cX8_couldBe 26 = .ok (.iinc 5 1, 3) := by decide +kernel
theorem dX8_couldBe_29 : decode cX8_couldBe 29 = .ok (.goto (-26), 3) := by decide +kernel
theorem dX8_couldBe_32 : decode cX8_couldBe 32 = .ok (.aload_n 0, 1) := by decide +kernel
theorem dX8_couldBe_33 : decode cX8_couldBe 33 = .ok (.iload_n 1, 1) := by decide +kernel
theorem dX8_couldBe_34 : decode cX8_couldBe 34 = .ok (.iload_n 2, 1) := by decide +kernel
theorem dX8_couldBe_35 : decode cX8_couldBe 35 = .ok (.iload_n 3, 1) := by decide +kernel
theorem dX8_couldBe_36 : decode cX8_couldBe 36 = .ok (.invokevirtual 147, 3) := by decide +kernel
theorem dX8_couldBe_39 : decode cX8_couldBe 39 = .ok (.istore 5, 2) := by decide +kernel
theorem dX8_couldBe_41 : decode cX8_couldBe 41 = .ok (.aload_n 0, 1) := by decide +kernel
theorem dX8_couldBe_42 : decode cX8_couldBe 42 = .ok (.invokevirtual 189, 3) := by decide +kernel
theorem dX8_couldBe_45 : decode cX8_couldBe 45 = .ok (.iload 5, 2) := by decide +kernel
theorem dX8_couldBe_47 : decode cX8_couldBe 47 = .ok (.ireturn, 1) := by decide +kernel
theorem dX8_needs_0 : decode cX8_needs 0 = .ok (.aload_n 0, 1) := by decide +kernel
theorem dX8_needs_1 : decode cX8_needs 1 = .ok (.iload_n 1, 1) := by decide +kernel
theorem dX8_needs_2 : decode cX8_needs 2 = .ok (.iload_n 2, 1) := by decide +kernel
theorem dX8_needs_3 : decode cX8_needs 3 = .ok (.iload_n 3, 1) := by decide +kernel
theorem dX8_needs_4 : decode cX8_needs 4 = .ok (.invokevirtual 141, 3) := by decide +kernel
theorem dX8_needs_7 : decode cX8_needs 7 = .ok (.ifCond .ne 5, 3) := by decide +kernel
theorem dX8_needs_10 : decode cX8_needs 10 = .ok (.iconst (-1), 1) := by decide +kernel
theorem dX8_needs_11 : decode cX8_needs 11 = .ok (.ireturn, 1) := by decide +kernel
theorem dX8_needs_12 : decode cX8_needs 12 = .ok (.aload_n 0, 1) := by decide +kernel
theorem dX8_needs_13 : decode cX8_needs 13 = .ok (.iload_n 1, 1) := by decide +kernel
theorem dX8_needs_14 : decode cX8_needs 14 = .ok (.invokevirtual 144, 3) := by decide +kernel
theorem dX8_needs_17 : decode cX8_needs 17 = .ok (.ifCond .eq 6, 3) := by decide +kernel
theorem dX8_needs_20 : decode cX8_needs 20 = .ok (.bipush (-5), 2) := by decide +kernel
theorem dX8_needs_22 : decode cX8_needs 22 = .ok (.ireturn, 1) := by decide +kernel
theorem dX8_needs_23 : decode cX8_needs 23 = .ok (.aload_n 0, 1) := by decide +kernel
theorem dX8_needs_24 : decode cX8_needs 24 = .ok (.invokevirtual 186, 3) := by decide +kernel
theorem dX8_needs_27 : decode cX8_needs 27 = .ok (.bipush 63, 2) := by decide +kernel
theorem dX8_needs_29 : decode cX8_needs 29 = .ok (.istore 4, 2) := by decide +kernel
theorem dX8_needs_31 : decode cX8_needs 31 = .ok (.bipush 62, 2) := by decide +kernel
theorem dX8_needs_33 : decode cX8_needs 33 = .ok (.istore 5, 2) := by decide +kernel
theorem dX8_needs_35 : decode cX8_needs 35 = .ok (.iload 5, 2) := by decide +kernel
theorem dX8_needs_37 : decode cX8_needs 37 = .ok (.ifCond .lt 47, 3) := by decide +kernel
theorem dX8_needs_40 : decode cX8_needs 40 = .ok (.iload 5, 2) := by decide +kernel
theorem dX8_needs_42 : decode cX8_needs 42 = .ok (.iload_n 1, 1) := by decide +kernel
theorem dX8_needs_43 : decode cX8_needs 43 = .ok (.invokestatic 80, 3) := by decide +kernel
theorem dX8_needs_46 : decode cX8_needs 46 = .ok (.ifCond .ne 32, 3) := by decide +kernel
theorem dX8_needs_49 : decode cX8_needs 49 = .ok (.iload 5, 2) := by decide +kernel
theorem dX8_needs_51 : decode cX8_needs 51 = .ok (.invokestatic 192, 3) := by decide +kernel
theorem dX8_needs_54 : decode cX8_needs 54 = .ok (.iload 4, 2) := by decide +kernel
theorem dX8_needs_56 : decode cX8_needs 56 = .ok (.invokestatic 192, 3) := by decide +kernel
theorem dX8_needs_59 : decode cX8_needs 59 = .ok (.if_icmp .gt 19, 3) := by decide +kernel
theorem dX8_needs_62 : decode cX8_needs 62 = .ok (.aload_n 0, 1) := by decide +kernel
theorem dX8_needs_63 : decode cX8_needs 63 = .ok (.iload_n 1, 1) := by decide +kernel
theorem dX8_needs_64 : decode cX8_needs 64 = .ok (.iload_n 2, 1) := by decide +kernel
theorem dX8_needs_65 : decode cX8_needs 65 = .ok (.iload_n 3, 1) := by decide +kernel
theorem dX8_needs_66 : decode cX8_needs 66 = .ok (.iload 5, 2) := by decide +kernel
theorem dX8_needs_68 : decode cX8_needs 68 = .ok (.invokevirtual 195, 3) := by decide +kernel
theorem dX8_needs_71 : decode cX8_needs 71 = .ok (.ifCond .eq 7, 3) := by decide +kernel
theorem dX8_needs_74 : decode cX8_needs 74 = .ok (.iload 5, 2) := by decide +kernel
theorem dX8_needs_76 : decode cX8_needs 76 = .ok (.istore 4, 2) := by decide +kernel
theorem dX8_needs_78 : decode cX8_needs 78 = .ok (.iinc 5 (-1), 3) := by decide +kernel
theorem dX8_needs_81 : decode cX8_needs 81 = .ok (.goto (-46), 3) := by decide +kernel
theorem dX8_needs_84 : decode cX8_needs 84 = .ok (.iload 4, 2) := by decide +kernel
theorem dX8_needs_86 : decode cX8_needs 86 = .ok (.bipush 63, 2) := by decide +kernel
theorem dX8_needs_88 : decode cX8_needs 88 = .ok (.if_icmp .ne 13, 3) := by decide +kernel
theorem dX8_needs_91 : decode cX8_needs 91 = .ok (.bipush 63, 2) := by decide +kernel
theorem dX8_needs_93 : decode cX8_needs 93 = .ok (.iconst 1, 1) := by decide +kernel
theorem dX8_needs_94 : decode cX8_needs 94 = .ok (.iload_n 1, 1) := by decide +kernel
theorem dX8_needs_95 : decode cX8_needs 95 = .ok (.ishl, 1) := by decide +kernel
theorem dX8_needs_96 : decode cX8_needs 96 = .ok (.iconst (-1), 1) := by decide +kernel
theorem dX8_needs_97 : decode cX8_needs 97 = .ok (.ixor, 1) := by decide +kernel
theorem dX8_needs_98 : decode cX8_needs 98 = .ok (.iand, 1) := by decide +kernel
theorem dX8_needs_99 : decode cX8_needs 99 = .ok (.istore 4, 2) := by decide +kernel
theorem dX8_needs_101 : decode cX8_needs 101 = .ok (.iload 4, 2) := by decide +kernel
theorem dX8_needs_103 : decode cX8_needs 103 = .ok (.ireturn, 1) := by decide +kernel
theorem dX8_strongest_0 : decode cX8_strongest 0 = .ok (.iload_n 1, 1) := by decide +kernel
theorem dX8_strongest_1 : decode cX8_strongest 1 = .ok (.invokestatic 66, 3) := by decide +kernel
theorem dX8_strongest_4 : decode cX8_strongest 4 = .ok (.ifCond .eq 11, 3) := by decide +kernel
theorem dX8_strongest_7 : decode cX8_strongest 7 = .ok (.aload_n 0, 1) := by decide +kernel
theorem dX8_strongest_8 : decode cX8_strongest 8 = .ok (.iload_n 2, 1) := by decide +kernel
theorem dX8_strongest_9 : decode cX8_strongest 9 = .ok (.invokevirtual 70, 3) := by decide +kernel
theorem dX8_strongest_12 : decode cX8_strongest 12 = .ok (.ifCond .ne 5, 3) := by decide +kernel
theorem dX8_strongest_15 : decode cX8_strongest 15 = .ok (.iconst (-1), 1) := by decide +kernel
theorem dX8_strongest_16 : decode cX8_strongest 16 = .ok (.ireturn, 1) := by decide +kernel
theorem dX8_strongest_17 : decode cX8_strongest 17 = .ok (.aload_n 0, 1) := by decide +kernel
theorem dX8_strongest_18 : decode cX8_strongest 18 = .ok (.iload_n 1, 1) := by decide +kernel
theorem dX8_strongest_19 : decode cX8_strongest 19 = .ok (.invokevirtual 144, 3) := by decide +kernel
theorem dX8_strongest_22 : decode cX8_strongest 22 = .ok (.ifCond .eq 6, 3) := by decide +kernel
theorem dX8_strongest_25 : decode cX8_strongest 25 = .ok (.bipush (-5), 2) := by decide +kernel
theorem dX8_strongest_27 : decode cX8_strongest 27 = .ok (.ireturn, 1) := by decide +kernel
theorem dX8_strongest_28 : decode cX8_strongest 28 = .ok (.iconst 5, 1) := by decide +kernel
theorem dX8_strongest_29 : decode cX8_strongest 29 = .ok (.istore_n 3, 1) := by decide +kernel
theorem dX8_strongest_30 : decode cX8_strongest 30 = .ok (.iload_n 3, 1) := by decide +kernel
theorem dX8_strongest_31 : decode cX8_strongest 31 = .ok (.iconst 2, 1) := by decide +kernel
theorem dX8_strongest_32 : decode cX8_strongest 32 = .ok (.if_icmp .lt 28, 3) := by decide +kernel
theorem dX8_strongest_35 : decode cX8_strongest 35 = .ok (.iload_n 3, 1) := by decide +kernel
theorem dX8_strongest_36 : decode cX8_strongest 36 = .ok (.invokestatic 73, 3) := by decide +kernel
theorem dX8_strongest_39 : decode cX8_strongest 39 = .ok (.ifCond .eq 15, 3) := by decide +kernel
theorem dX8_strongest_42 : decode cX8_strongest 42 = .ok (.aload_n 0, 1) := by decide +kernel
theorem dX8_strongest_43 : decode cX8_strongest 43 = .ok (.iload_n 1, 1) := by decide +kernel
theorem dX8_strongest_44 : decode cX8_strongest 44 = .ok (.iload_n 2, 1) := by decide +kernel
theorem dX8_strongest_45 : decode cX8_strongest 45 = .ok (.iload_n 3, 1) := by decide +kernel
theorem dX8_strongest_46 : decode cX8_strongest 46 = .ok (.invokevirtual 147, 3) := by decide +kernel
theorem dX8_strongest_49 : decode cX8_strongest 49 = .ok (.ifCond .eq 5, 3) := by decide +kernel
theorem dX8_strongest_52 : decode cX8_strongest 52 = .ok (.iload_n 3, 1) := by decide +kernel
theorem dX8_strongest_53 : decode cX8_strongest 53 = .ok (.ireturn, 1) := by decide +kernel
theorem dX8_strongest_54 : decode cX8_strongest 54 = .ok (.iinc 3 (-1), 3) := by decide +kernel
theorem dX8_strongest_57 : decode cX8_strongest 57 = .ok (.goto (-27), 3) := by decide +kernel
theorem dX8_strongest_60 : decode cX8_strongest 60 = .ok (.bipush (-2), 2) := by decide +kernel
theorem dX8_strongest_62 : decode cX8_strongest 62 = .ok (.ireturn, 1) := by decide +kernel
theorem dX8_plan_0 : decode cX8_plan 0 = .ok (.iload_n 1, 1) := by decide +kernel
theorem dX8_plan_1 : decode cX8_plan 1 = .ok (.iconst (-1), 1) := by decide +kernel
theorem dX8_plan_2 : decode cX8_plan 2 = .ok (.if_icmp .ne 13, 3) := by decide +kernel
theorem dX8_plan_5 : decode cX8_plan 5 = .ok (.aload_n 0, 1) := by decide +kernel
theorem dX8_plan_6 : decode cX8_plan 6 = .ok (.getfield 15, 3) := by decide +kernel
theorem dX8_plan_9 : decode cX8_plan 9 = .ok (.bipush 44, 2) := by decide +kernel
theorem dX8_plan_11 : decode cX8_plan 11 = .ok (.iconst 0, 1) := by decide +kernel
theorem dX8_plan_12 : decode cX8_plan 12 = .ok (.iastore, 1) := by decide +kernel
theorem dX8_plan_13 : decode cX8_plan 13 = .ok (.iconst 0, 1) := by decide +kernel
theorem dX8_plan_14 : decode cX8_plan 14 = .ok (.ireturn, 1) := by decide +kernel
theorem dX8_plan_15 : decode cX8_plan 15 = .ok (.aload_n 0, 1) := by decide +kernel
theorem dX8_plan_16 : decode cX8_plan 16 = .ok (.iload_n 1, 1) := by decide +kernel
theorem dX8_plan_17 : decode cX8_plan 17 = .ok (.iload_n 2, 1) := by decide +kernel
theorem dX8_plan_18 : decode cX8_plan 18 = .ok (.iload_n 3, 1) := by decide +kernel
theorem dX8_plan_19 : decode cX8_plan 19 = .ok (.invokevirtual 141, 3) := by decide +kernel
theorem dX8_plan_22 : decode cX8_plan 22 = .ok (.ifCond .ne 5, 3) := by decide +kernel
theorem dX8_plan_25 : decode cX8_plan 25 = .ok (.iconst (-1), 1) := by decide +kernel
theorem dX8_plan_26 : decode cX8_plan 26 = .ok (.ireturn, 1) := by decide +kernel
theorem dX8_plan_27 : decode cX8_plan 27 = .ok (.aload_n 0, 1) := by decide +kernel
theorem dX8_plan_28 : decode cX8_plan 28 = .ok (.getfield 15, 3) := by decide +kernel
theorem dX8_plan_31 : decode cX8_plan 31 = .ok (.bipush 44, 2) := by decide +kernel
theorem dX8_plan_33 : decode cX8_plan 33 = .ok (.iaload, 1) := by decide +kernel
theorem dX8_plan_34 : decode cX8_plan 34 = .ok (.bipush 12, 2) := by decide +kernel
theorem dX8_plan_36 : decode cX8_plan 36 = .ok (.if_icmp .ne 6, 3) := by decide +kernel
theorem dX8_plan_39 : decode cX8_plan 39 = .ok (.bipush (-3), 2) := by decide +kernel
theorem dX8_plan_41 : decode cX8_plan 41 = .ok (.ireturn, 1) := by decide +kernel
theorem dX8_plan_42 : decode cX8_plan 42 = .ok (.bipush 45, 2) := by decide +kernel
theorem dX8_plan_44 : decode cX8_plan 44 = .ok (.iconst 3, 1) := by decide +kernel
theorem dX8_plan_45 : decode cX8_plan 45 = .ok (.aload_n 0, 1) := by decide +kernel
theorem dX8_plan_46 : decode cX8_plan 46 = .ok (.getfield 15, 3) := by decide +kernel
theorem dX8_plan_49 : decode cX8_plan 49 = .ok (.bipush 44, 2) := by decide +kernel
theorem dX8_plan_51 : decode cX8_plan 51 = .ok (.iaload, 1) := by decide +kernel
theorem dX8_plan_52 : decode cX8_plan 52 = .ok (.imul, 1) := by decide +kernel
theorem dX8_plan_53 : decode cX8_plan 53 = .ok (.iadd, 1) := by decide +kernel
theorem dX8_plan_54 : decode cX8_plan 54 = .ok (.istore 4, 2) := by decide +kernel
theorem dX8_plan_56 : decode cX8_plan 56 = .ok (.aload_n 0, 1) := by decide +kernel
theorem dX8_plan_57 : decode cX8_plan 57 = .ok (.getfield 15, 3) := by decide +kernel
theorem dX8_plan_60 : decode cX8_plan 60 = .ok (.iload 4, 2) := by decide +kernel
theorem dX8_plan_62 : decode cX8_plan 62 = .ok (.iload_n 1, 1) := by decide +kernel
theorem dX8_plan_63 : decode cX8_plan 63 = .ok (.iastore, 1) := by decide +kernel
theorem dX8_plan_64 : decode cX8_plan 64 = .ok (.aload_n 0, 1) := by decide +kernel
theorem dX8_plan_65 : decode cX8_plan 65 = .ok (.getfield 15, 3) := by decide +kernel
theorem dX8_plan_68 : decode cX8_plan 68 = .ok (.iload 4, 2) := by decide +kernel
theorem dX8_plan_70 : decode cX8_plan 70 = .ok (.iconst 1, 1) := by decide +kernel
theorem dX8_plan_71 : decode cX8_plan 71 = .ok (.iadd, 1) := by decide +kernel
theorem dX8_plan_72 : decode cX8_plan 72 = .ok (.iload_n 2, 1) := by decide +kernel
theorem dX8_plan_73 : decode cX8_plan 73 = .ok (.iastore, 1) := by decide +kernel
theorem dX8_plan_74 : decode cX8_plan 74 = .ok (.aload_n 0, 1) := by decide +kernel
theorem dX8_plan_75 : decode cX8_plan 75 = .ok (.getfield 15, 3) := by decide +kernel
theorem dX8_plan_78 : decode cX8_plan 78 = .ok (.iload 4, 2) := by decide +kernel
theorem dX8_plan_80 : decode cX8_plan 80 = .ok (.iconst 2, 1) := by decide +kernel
theorem dX8_plan_81 : decode cX8_plan 81 = .ok (.iadd, 1) := by decide +kernel
theorem dX8_plan_82 : decode cX8_plan 82 = .ok (.iload_n 3, 1) := by decide +kernel
theorem dX8_plan_83 : decode cX8_plan 83 = .ok (.iastore, 1) := by decide +kernel
theorem dX8_plan_84 : decode cX8_plan 84 = .ok (.aload_n 0, 1) := by decide +kernel
theorem dX8_plan_85 : decode cX8_plan 85 = .ok (.getfield 15, 3) := by decide +kernel
theorem dX8_plan_88 : decode cX8_plan 88 = .ok (.bipush 44, 2) := by decide +kernel
theorem dX8_plan_90 : decode cX8_plan 90 = .ok (.dup2, 1) := by decide +kernel
theorem dX8_plan_91 : decode cX8_plan 91 = .ok (.iaload, 1) := by decide +kernel
theorem dX8_plan_92 : decode cX8_plan 92 = .ok (.iconst 1, 1) := by decide +kernel
theorem dX8_plan_93 : decode cX8_plan 93 = .ok (.iadd, 1) := by decide +kernel
theorem dX8_plan_94 : decode cX8_plan 94 = .ok (.iastore, 1) := by decide +kernel
theorem dX8_plan_95 : decode cX8_plan 95 = .ok (.aload_n 0, 1) := by decide +kernel
theorem dX8_plan_96 : decode cX8_plan 96 = .ok (.getfield 15, 3) := by decide +kernel
theorem dX8_plan_99 : decode cX8_plan 99 = .ok (.bipush 44, 2) := by decide +kernel
theorem dX8_plan_101 : decode cX8_plan 101 = .ok (.iaload, 1) := by decide +kernel
theorem dX8_plan_102 : decode cX8_plan 102 = .ok (.ireturn, 1) := by decide +kernel
theorem dX8_rowFrom_0 : decode cX8_rowFrom 0 = .ok (.iload_n 2, 1) := by decide +kernel
theorem dX8_rowFrom_1 : decode cX8_rowFrom 1 = .ok (.istore_n 3, 1) := by decide +kernel
theorem dX8_rowFrom_2 : decode cX8_rowFrom 2 = .ok (.iload_n 3, 1) := by decide +kernel
theorem dX8_rowFrom_3 : decode cX8_rowFrom 3 = .ok (.aload_n 0, 1) := by decide +kernel
theorem dX8_rowFrom_4 : decode cX8_rowFrom 4 = .ok (.getfield 15, 3) := by decide +kernel
theorem dX8_rowFrom_7 : decode cX8_rowFrom 7 = .ok (.bipush 44, 2) := by decide +kernel
theorem dX8_rowFrom_9 : decode cX8_rowFrom 9 = .ok (.iaload, 1) := by decide +kernel
theorem dX8_rowFrom_10 : decode cX8_rowFrom 10 = .ok (.if_icmp .ge 26, 3) := by decide +kernel
theorem dX8_rowFrom_13 : decode cX8_rowFrom 13 = .ok (.aload_n 0, 1) := by decide +kernel
theorem dX8_rowFrom_14 : decode cX8_rowFrom 14 = .ok (.getfield 15, 3) := by decide +kernel
theorem dX8_rowFrom_17 : decode cX8_rowFrom 17 = .ok (.bipush 45, 2) := by decide +kernel
theorem dX8_rowFrom_19 : decode cX8_rowFrom 19 = .ok (.iconst 3, 1) := by decide +kernel
theorem dX8_rowFrom_20 : decode cX8_rowFrom 20 = .ok (.iload_n 3, 1) := by decide +kernel
theorem dX8_rowFrom_21 : decode cX8_rowFrom 21 = .ok (.imul, 1) := by decide +kernel
theorem dX8_rowFrom_22 : decode cX8_rowFrom 22 = .ok (.iadd, 1) := by decide +kernel
theorem dX8_rowFrom_23 : decode cX8_rowFrom 23 = .ok (.iaload, 1) := by decide +kernel
theorem dX8_rowFrom_24 : decode cX8_rowFrom 24 = .ok (.iload_n 1, 1) := by decide +kernel
theorem dX8_rowFrom_25 : decode cX8_rowFrom 25 = .ok (.if_icmp .ne 5, 3) := by decide +kernel
theorem dX8_rowFrom_28 : decode cX8_rowFrom 28 = .ok (.iload_n 3, 1) := by decide +kernel
theorem dX8_rowFrom_29 : decode cX8_rowFrom 29 = .ok (.ireturn, 1) := by decide +kernel
theorem dX8_rowFrom_30 : decode cX8_rowFrom 30 = .ok (.iinc 3 1, 3) := by decide +kernel
theorem dX8_rowFrom_33 : decode cX8_rowFrom 33 = .ok (.goto (-31), 3) := by decide +kernel
theorem dX8_rowFrom_36 : decode cX8_rowFrom 36 = .ok (.iconst (-1), 1) := by decide +kernel
theorem dX8_rowFrom_37 : decode cX8_rowFrom 37 = .ok (.ireturn, 1) := by decide +kernel
theorem dX8_goesOn_0 : decode cX8_goesOn 0 = .ok (.aload_n 0, 1) := by decide +kernel
theorem dX8_goesOn_1 : decode cX8_goesOn 1 = .ok (.iload_n 1, 1) := by decide +kernel
theorem dX8_goesOn_2 : decode cX8_goesOn 2 = .ok (.aload_n 0, 1) := by decide +kernel
theorem dX8_goesOn_3 : decode cX8_goesOn 3 = .ok (.getfield 34, 3) := by decide +kernel
theorem dX8_goesOn_6 : decode cX8_goesOn 6 = .ok (.iload_n 1, 1) := by decide +kernel
theorem dX8_goesOn_7 : decode cX8_goesOn 7 = .ok (.iaload, 1) := by decide +kernel
theorem dX8_goesOn_8 : decode cX8_goesOn 8 = .ok (.invokevirtual 199, 3) := by decide +kernel
theorem dX8_goesOn_11 : decode cX8_goesOn 11 = .ok (.istore_n 2, 1) := by decide +kernel
theorem dX8_goesOn_12 : decode cX8_goesOn 12 = .ok (.iload_n 2, 1) := by decide +kernel
theorem dX8_goesOn_13 : decode cX8_goesOn 13 = .ok (.iconst (-1), 1) := by decide +kernel
theorem dX8_goesOn_14 : decode cX8_goesOn 14 = .ok (.if_icmp .ne 22, 3) := by decide +kernel
theorem dX8_goesOn_17 : decode cX8_goesOn 17 = .ok (.aload_n 0, 1) := by decide +kernel
theorem dX8_goesOn_18 : decode cX8_goesOn 18 = .ok (.iload_n 1, 1) := by decide +kernel
theorem dX8_goesOn_19 : decode cX8_goesOn 19 = .ok (.invokevirtual 159, 3) := by decide +kernel
theorem dX8_goesOn_22 : decode cX8_goesOn 22 = .ok (.pop, 1) := by decide +kernel
theorem dX8_goesOn_23 : decode cX8_goesOn 23 = .ok (.aload_n 0, 1) := by decide +kernel
theorem dX8_goesOn_24 : decode cX8_goesOn 24 = .ok (.dup, 1) := by decide +kernel
theorem dX8_goesOn_25 : decode cX8_goesOn 25 = .ok (.getfield 203, 3) := by decide +kernel
theorem dX8_goesOn_28 : decode cX8_goesOn 28 = .ok (.iconst 1, 1) := by decide +kernel
theorem dX8_goesOn_29 : decode cX8_goesOn 29 = .ok (.iload_n 1, 1) := by decide +kernel
theorem dX8_goesOn_30 : decode cX8_goesOn 30 = .ok (.ishl, 1) := by decide +kernel
theorem dX8_goesOn_31 : decode cX8_goesOn 31 = .ok (.ior, 1) := by decide +kernel
theorem dX8_goesOn_32 : decode cX8_goesOn 32 = .ok (.putfield 203, 3) := by decide +kernel
theorem dX8_goesOn_35 : decode cX8_goesOn 35 = .ok (.return_, 1) := by decide +kernel
theorem dX8_goesOn_36 : decode cX8_goesOn 36 = .ok (.aload_n 0, 1) := by decide +kernel
theorem dX8_goesOn_37 : decode cX8_goesOn 37 = .ok (.getfield 34, 3) := by decide +kernel
theorem dX8_goesOn_40 : decode cX8_goesOn 40 = .ok (.iload_n 1, 1) := by decide +kernel
theorem dX8_goesOn_41 : decode cX8_goesOn 41 = .ok (.iload_n 2, 1) := by decide +kernel
theorem dX8_goesOn_42 : decode cX8_goesOn 42 = .ok (.iconst 1, 1) := by decide +kernel
theorem dX8_goesOn_43 : decode cX8_goesOn 43 = .ok (.iadd, 1) := by decide +kernel
theorem dX8_goesOn_44 : decode cX8_goesOn 44 = .ok (.iastore, 1) := by decide +kernel
theorem dX8_goesOn_45 : decode cX8_goesOn 45 = .ok (.aload_n 0, 1) := by decide +kernel
theorem dX8_goesOn_46 : decode cX8_goesOn 46 = .ok (.iload_n 1, 1) := by decide +kernel
theorem dX8_goesOn_47 : decode cX8_goesOn 47 = .ok (.aload_n 0, 1) := by decide +kernel
theorem dX8_goesOn_48 : decode cX8_goesOn 48 = .ok (.getfield 15, 3) := by decide +kernel
theorem dX8_goesOn_51 : decode cX8_goesOn 51 = .ok (.bipush 45, 2) := by decide +kernel
theorem dX8_goesOn_53 : decode cX8_goesOn 53 = .ok (.iconst 3, 1) := by decide +kernel
theorem dX8_goesOn_54 : decode cX8_goesOn 54 = .ok (.iload_n 2, 1) := by decide +kernel
theorem dX8_goesOn_55 : decode cX8_goesOn 55 = .ok (.imul, 1) := by decide +kernel
theorem dX8_goesOn_56 : decode cX8_goesOn 56 = .ok (.iadd, 1) := by decide +kernel
theorem dX8_goesOn_57 : decode cX8_goesOn 57 = .ok (.iconst 1, 1) := by decide +kernel
theorem dX8_goesOn_58 : decode cX8_goesOn 58 = .ok (.iadd, 1) := by decide +kernel
theorem dX8_goesOn_59 : decode cX8_goesOn 59 = .ok (.iaload, 1) := by decide +kernel
theorem dX8_goesOn_60 : decode cX8_goesOn 60 = .ok (.aload_n 0, 1) := by decide +kernel
theorem dX8_goesOn_61 : decode cX8_goesOn 61 = .ok (.getfield 15, 3) := by decide +kernel
theorem dX8_goesOn_64 : decode cX8_goesOn 64 = .ok (.bipush 45, 2) := by decide +kernel
theorem dX8_goesOn_66 : decode cX8_goesOn 66 = .ok (.iconst 3, 1) := by decide +kernel
theorem dX8_goesOn_67 : decode cX8_goesOn 67 = .ok (.iload_n 2, 1) := by decide +kernel
theorem dX8_goesOn_68 : decode cX8_goesOn 68 = .ok (.imul, 1) := by decide +kernel
theorem dX8_goesOn_69 : decode cX8_goesOn 69 = .ok (.iadd, 1) := by decide +kernel
theorem dX8_goesOn_70 : decode cX8_goesOn 70 = .ok (.iconst 2, 1) := by decide +kernel
theorem dX8_goesOn_71 : decode cX8_goesOn 71 = .ok (.iadd, 1) := by decide +kernel
theorem dX8_goesOn_72 : decode cX8_goesOn 72 = .ok (.iaload, 1) := by decide +kernel
theorem dX8_goesOn_73 : decode cX8_goesOn 73 = .ok (.invokevirtual 206, 3) := by decide +kernel
theorem dX8_goesOn_76 : decode cX8_goesOn 76 = .ok (.pop, 1) := by decide +kernel
theorem dX8_goesOn_77 : decode cX8_goesOn 77 = .ok (.return_, 1) := by decide +kernel
theorem dX8_round_0 : decode cX8_round 0 = .ok (.iconst 0, 1) := by decide +kernel
theorem dX8_round_1 : decode cX8_round 1 = .ok (.istore_n 1, 1) := by decide +kernel
theorem dX8_round_2 : decode cX8_round 2 = .ok (.iload_n 1, 1) := by decide +kernel
theorem dX8_round_3 : decode cX8_round 3 = .ok (.bipush 6, 2) := by decide +kernel
theorem dX8_round_5 : decode cX8_round 5 = .ok (.if_icmp .ge 40, 3) := by decide +kernel
theorem dX8_round_8 : decode cX8_round 8 = .ok (.aload_n 0, 1) := by decide +kernel
theorem dX8_round_9 : decode cX8_round 9 = .ok (.getfield 209, 3) := by decide +kernel
theorem dX8_round_12 : decode cX8_round 12 = .ok (.aload_n 0, 1) := by decide +kernel
theorem dX8_round_13 : decode cX8_round 13 = .ok (.getfield 203, 3) := by decide +kernel
theorem dX8_round_16 : decode cX8_round 16 = .ok (.iconst (-1), 1) := by decide +kernel
theorem dX8_round_17 : decode cX8_round 17 = .ok (.ixor, 1) := by decide +kernel
theorem dX8_round_18 : decode cX8_round 18 = .ok (.iand, 1) := by decide +kernel
theorem dX8_round_19 : decode cX8_round 19 = .ok (.iload_n 1, 1) := by decide +kernel
theorem dX8_round_20 : decode cX8_round 20 = .ok (.invokestatic 80, 3) := by decide +kernel
theorem dX8_round_23 : decode cX8_round 23 = .ok (.ifCond .eq 16, 3) := by decide +kernel
theorem dX8_round_26 : decode cX8_round 26 = .ok (.aload_n 0, 1) := by decide +kernel
theorem dX8_round_27 : decode cX8_round 27 = .ok (.iload_n 1, 1) := by decide +kernel
theorem dX8_round_28 : decode cX8_round 28 = .ok (.invokevirtual 144, 3) := by decide +kernel
theorem dX8_round_31 : decode cX8_round 31 = .ok (.ifCond .ne 8, 3) := by decide +kernel
theorem dX8_round_34 : decode cX8_round 34 = .ok (.aload_n 0, 1) := by decide +kernel
theorem dX8_round_35 : decode cX8_round 35 = .ok (.iload_n 1, 1) := by decide +kernel
theorem dX8_round_36 : decode cX8_round 36 = .ok (.invokevirtual 212, 3) := by decide +kernel
theorem dX8_round_39 : decode cX8_round 39 = .ok (.iinc 1 1, 3) := by decide +kernel
theorem dX8_round_42 : decode cX8_round 42 = .ok (.goto (-40), 3) := by decide +kernel
theorem dX8_round_45 : decode cX8_round 45 = .ok (.aload_n 0, 1) := by decide +kernel
theorem dX8_round_46 : decode cX8_round 46 = .ok (.aload_n 0, 1) := by decide +kernel
theorem dX8_round_47 : decode cX8_round 47 = .ok (.invokevirtual 171, 3) := by decide +kernel
theorem dX8_round_50 : decode cX8_round 50 = .ok (.invokevirtual 174, 3) := by decide +kernel
theorem dX8_round_53 : decode cX8_round 53 = .ok (.istore_n 1, 1) := by decide +kernel
theorem dX8_round_54 : decode cX8_round 54 = .ok (.iload_n 1, 1) := by decide +kernel
theorem dX8_round_55 : decode cX8_round 55 = .ok (.bipush (-2), 2) := by decide +kernel
theorem dX8_round_57 : decode cX8_round 57 = .ok (.if_icmp .eq 19, 3) := by decide +kernel
theorem dX8_round_60 : decode cX8_round 60 = .ok (.aload_n 0, 1) := by decide +kernel
theorem dX8_round_61 : decode cX8_round 61 = .ok (.iload_n 1, 1) := by decide +kernel
theorem dX8_round_62 : decode cX8_round 62 = .ok (.invokevirtual 159, 3) := by decide +kernel
theorem dX8_round_65 : decode cX8_round 65 = .ok (.pop, 1) := by decide +kernel
theorem dX8_round_66 : decode cX8_round 66 = .ok (.aload_n 0, 1) := by decide +kernel
theorem dX8_round_67 : decode cX8_round 67 = .ok (.dup, 1) := by decide +kernel
theorem dX8_round_68 : decode cX8_round 68 = .ok (.getfield 215, 3) := by decide +kernel
theorem dX8_round_71 : decode cX8_round 71 = .ok (.iconst 1, 1) := by decide +kernel
theorem dX8_round_72 : decode cX8_round 72 = .ok (.iadd, 1) := by decide +kernel
theorem dX8_round_73 : decode cX8_round 73 = .ok (.putfield 215, 3) := by decide +kernel
theorem dX8_round_76 : decode cX8_round 76 = .ok (.return_, 1) := by decide +kernel
theorem dX8_plays_0 : decode cX8_plays 0 = .ok (.iload_n 1, 1) := by decide +kernel
theorem dX8_plays_1 : decode cX8_plays 1 = .ok (.iconst 0, 1) := by decide +kernel
theorem dX8_plays_2 : decode cX8_plays 2 = .ok (.iconst 2, 1) := by decide +kernel
theorem dX8_plays_3 : decode cX8_plays 3 = .ok (.invokestatic 62, 3) := by decide +kernel
theorem dX8_plays_6 : decode cX8_plays 6 = .ok (.ifCond .ne 5, 3) := by decide +kernel
theorem dX8_plays_9 : decode cX8_plays 9 = .ok (.iconst (-1), 1) := by decide +kernel
theorem dX8_plays_10 : decode cX8_plays 10 = .ok (.ireturn, 1) := by decide +kernel
theorem dX8_plays_11 : decode cX8_plays 11 = .ok (.aload_n 0, 1) := by decide +kernel
theorem dX8_plays_12 : decode cX8_plays 12 = .ok (.invokevirtual 186, 3) := by decide +kernel
theorem dX8_plays_15 : decode cX8_plays 15 = .ok (.aload_n 0, 1) := by decide +kernel
theorem dX8_plays_16 : decode cX8_plays 16 = .ok (.iconst 0, 1) := by decide +kernel
theorem dX8_plays_17 : decode cX8_plays 17 = .ok (.putfield 203, 3) := by decide +kernel
theorem dX8_plays_20 : decode cX8_plays 20 = .ok (.aload_n 0, 1) := by decide +kernel
theorem dX8_plays_21 : decode cX8_plays 21 = .ok (.iconst 0, 1) := by decide +kernel
theorem dX8_plays_22 : decode cX8_plays 22 = .ok (.putfield 209, 3) := by decide +kernel
theorem dX8_plays_25 : decode cX8_plays 25 = .ok (.aload_n 0, 1) := by decide +kernel
theorem dX8_plays_26 : decode cX8_plays 26 = .ok (.iconst 0, 1) := by decide +kernel
theorem dX8_plays_27 : decode cX8_plays 27 = .ok (.putfield 215, 3) := by decide +kernel
theorem dX8_plays_30 : decode cX8_plays 30 = .ok (.iconst 0, 1) := by decide +kernel
theorem dX8_plays_31 : decode cX8_plays 31 = .ok (.istore_n 2, 1) := by decide +kernel
theorem dX8_plays_32 : decode cX8_plays 32 = .ok (.iload_n 2, 1) := by decide +kernel
theorem dX8_plays_33 : decode cX8_plays 33 = .ok (.bipush 6, 2) := by decide +kernel
theorem dX8_plays_35 : decode cX8_plays 35 = .ok (.if_icmp .ge 42, 3) := by decide +kernel
theorem dX8_plays_38 : decode cX8_plays 38 = .ok (.aload_n 0, 1) := by decide +kernel
theorem dX8_plays_39 : decode cX8_plays 39 = .ok (.getfield 34, 3) := by decide +kernel
theorem dX8_plays_42 : decode cX8_plays 42 = .ok (.iload_n 2, 1) := by decide +kernel
theorem dX8_plays_43 : decode cX8_plays 43 = .ok (.iconst 0, 1) := by decide +kernel
theorem dX8_plays_44 : decode cX8_plays 44 = .ok (.iastore, 1) := by decide +kernel
theorem dX8_plays_45 : decode cX8_plays 45 = .ok (.aload_n 0, 1) := by decide +kernel
theorem dX8_plays_46 : decode cX8_plays 46 = .ok (.dup, 1) := by decide +kernel
theorem dX8_plays_47 : decode cX8_plays 47 = .ok (.getfield 209, 3) := by decide +kernel
theorem dX8_plays_50 : decode cX8_plays 50 = .ok (.aload_n 0, 1) := by decide +kernel
theorem dX8_plays_51 : decode cX8_plays 51 = .ok (.iload_n 2, 1) := by decide +kernel
theorem dX8_plays_52 : decode cX8_plays 52 = .ok (.iconst 0, 1) := by decide +kernel
theorem dX8_plays_53 : decode cX8_plays 53 = .ok (.invokevirtual 199, 3) := by decide +kernel
theorem dX8_plays_56 : decode cX8_plays 56 = .ok (.iconst (-1), 1) := by decide +kernel
theorem dX8_plays_57 : decode cX8_plays 57 = .ok (.if_icmp .eq 9, 3) := by decide +kernel
theorem dX8_plays_60 : decode cX8_plays 60 = .ok (.iconst 1, 1) := by decide +kernel
theorem dX8_plays_61 : decode cX8_plays 61 = .ok (.iload_n 2, 1) := by decide +kernel
theorem dX8_plays_62 : decode cX8_plays 62 = .ok (.ishl, 1) := by decide +kernel
theorem dX8_plays_63 : decode cX8_plays 63 = .ok (.goto 4, 3) := by decide +kernel
theorem dX8_plays_66 : decode cX8_plays 66 = .ok (.iconst 0, 1) := by decide +kernel
theorem dX8_plays_67 : decode cX8_plays 67 = .ok (.ior, 1) := by decide +kernel
theorem dX8_plays_68 : decode cX8_plays 68 = .ok (.putfield 209, 3) := by decide +kernel
theorem dX8_plays_71 : decode cX8_plays 71 = .ok (.iinc 2 1, 3) := by decide +kernel
theorem dX8_plays_74 : decode cX8_plays 74 = .ok (.goto (-42), 3) := by decide +kernel
theorem dX8_plays_77 : decode cX8_plays 77 = .ok (.iconst 0, 1) := by decide +kernel
theorem dX8_plays_78 : decode cX8_plays 78 = .ok (.istore_n 2, 1) := by decide +kernel
theorem dX8_plays_79 : decode cX8_plays 79 = .ok (.aload_n 0, 1) := by decide +kernel
theorem dX8_plays_80 : decode cX8_plays 80 = .ok (.getfield 203, 3) := by decide +kernel
theorem dX8_plays_83 : decode cX8_plays 83 = .ok (.aload_n 0, 1) := by decide +kernel
theorem dX8_plays_84 : decode cX8_plays 84 = .ok (.getfield 209, 3) := by decide +kernel
theorem dX8_plays_87 : decode cX8_plays 87 = .ok (.if_icmp .eq 19, 3) := by decide +kernel
theorem dX8_plays_90 : decode cX8_plays 90 = .ok (.iload_n 2, 1) := by decide +kernel
theorem dX8_plays_91 : decode cX8_plays 91 = .ok (.bipush 40, 2) := by decide +kernel
theorem dX8_plays_93 : decode cX8_plays 93 = .ok (.if_icmp .ge 13, 3) := by decide +kernel
theorem dX8_plays_96 : decode cX8_plays 96 = .ok (.aload_n 0, 1) := by decide +kernel
theorem dX8_plays_97 : decode cX8_plays 97 = .ok (.invokevirtual 218, 3) := by decide +kernel
theorem dX8_plays_100 : decode cX8_plays 100 = .ok (.iinc 2 1, 3) := by decide +kernel
theorem dX8_plays_103 : decode cX8_plays 103 = .ok (.goto (-24), 3) := by decide +kernel
theorem dX8_plays_106 : decode cX8_plays 106 = .ok (.aload_n 0, 1) := by decide +kernel
theorem dX8_plays_107 : decode cX8_plays 107 = .ok (.getfield 203, 3) := by decide +kernel
theorem dX8_plays_110 : decode cX8_plays 110 = .ok (.aload_n 0, 1) := by decide +kernel
theorem dX8_plays_111 : decode cX8_plays 111 = .ok (.getfield 209, 3) := by decide +kernel
theorem dX8_plays_114 : decode cX8_plays 114 = .ok (.if_icmp .eq 8, 3) := by decide +kernel
theorem dX8_plays_117 : decode cX8_plays 117 = .ok (.bipush 41, 2) := by decide +kernel
theorem dX8_plays_119 : decode cX8_plays 119 = .ok (.goto 4, 3) := by decide +kernel
theorem dX8_plays_122 : decode cX8_plays 122 = .ok (.iload_n 2, 1) := by decide +kernel
theorem dX8_plays_123 : decode cX8_plays 123 = .ok (.istore_n 2, 1) := by decide +kernel
theorem dX8_plays_124 : decode cX8_plays 124 = .ok (.aload_n 0, 1) := by decide +kernel
theorem dX8_plays_125 : decode cX8_plays 125 = .ok (.getfield 56, 3) := by decide +kernel
theorem dX8_plays_128 : decode cX8_plays 128 = .ok (.aload_n 0, 1) := by decide +kernel
theorem dX8_plays_129 : decode cX8_plays 129 = .ok (.getfield 59, 3) := by decide +kernel
theorem dX8_plays_132 : decode cX8_plays 132 = .ok (.isub, 1) := by decide +kernel
theorem dX8_plays_133 : decode cX8_plays 133 = .ok (.istore_n 3, 1) := by decide +kernel
theorem dX8_plays_134 : decode cX8_plays 134 = .ok (.aload_n 0, 1) := by decide +kernel
theorem dX8_plays_135 : decode cX8_plays 135 = .ok (.invokevirtual 189, 3) := by decide +kernel
theorem dX8_plays_138 : decode cX8_plays 138 = .ok (.iload_n 1, 1) := by decide +kernel
theorem dX8_plays_139 : decode cX8_plays 139 = .ok (.ifCond .ne 7, 3) := by decide +kernel
theorem dX8_plays_142 : decode cX8_plays 142 = .ok (.iload_n 2, 1) := by decide +kernel
theorem dX8_plays_143 : decode cX8_plays 143 = .ok (.goto 16, 3) := by decide +kernel
theorem dX8_plays_146 : decode cX8_plays 146 = .ok (.iload_n 1, 1) := by decide +kernel
theorem dX8_plays_147 : decode cX8_plays 147 = .ok (.iconst 1, 1) := by decide +kernel
theorem dX8_plays_148 : decode cX8_plays 148 = .ok (.if_icmp .ne 10, 3) := by decide +kernel
theorem dX8_plays_151 : decode cX8_plays 151 = .ok (.aload_n 0, 1) := by decide +kernel
theorem dX8_plays_152 : decode cX8_plays 152 = .ok (.getfield 215, 3) := by decide +kernel
theorem dX8_plays_155 : decode cX8_plays 155 = .ok (.goto 4, 3) := by decide +kernel
theorem dX8_plays_158 : decode cX8_plays 158 = .ok (.iload_n 3, 1) := by decide +kernel
theorem dX8_plays_159 : decode cX8_plays 159 = .ok (.ireturn, 1) := by decide +kernel
theorem dX8_draw_0 : decode cX8_draw 0 = .ok (.aload_n 0, 1) := by decide +kernel
theorem dX8_draw_1 : decode cX8_draw 1 = .ok (.aload_n 0, 1) := by decide +kernel
theorem dX8_draw_2 : decode cX8_draw 2 = .ok (.getfield 221, 3) := by decide +kernel
theorem dX8_draw_5 : decode cX8_draw 5 = .ok (.ldc 224, 2) := by decide +kernel
theorem dX8_draw_7 : decode cX8_draw 7 = .ok (.imul, 1) := by decide +kernel
theorem dX8_draw_8 : decode cX8_draw 8 = .ok (.sipush 12345, 3) := by decide +kernel
theorem dX8_draw_11 : decode cX8_draw 11 = .ok (.iadd, 1) := by decide +kernel
theorem dX8_draw_12 : decode cX8_draw 12 = .ok (.putfield 221, 3) := by decide +kernel
theorem dX8_draw_15 : decode cX8_draw 15 = .ok (.aload_n 0, 1) := by decide +kernel
theorem dX8_draw_16 : decode cX8_draw 16 = .ok (.getfield 221, 3) := by decide +kernel
theorem dX8_draw_19 : decode cX8_draw 19 = .ok (.ldc 225, 2) := by decide +kernel
theorem dX8_draw_21 : decode cX8_draw 21 = .ok (.iand, 1) := by decide +kernel
theorem dX8_draw_22 : decode cX8_draw 22 = .ok (.ldc 226, 2) := by decide +kernel
theorem dX8_draw_24 : decode cX8_draw 24 = .ok (.idiv, 1) := by decide +kernel
theorem dX8_draw_25 : decode cX8_draw 25 = .ok (.iload_n 1, 1) := by decide +kernel
theorem dX8_draw_26 : decode cX8_draw 26 = .ok (.irem, 1) := by decide +kernel
theorem dX8_draw_27 : decode cX8_draw 27 = .ok (.ireturn, 1) := by decide +kernel
theorem dX8_modeOf_0 : decode cX8_modeOf 0 = .ok (.iload_n 0, 1) := by decide +kernel
theorem dX8_modeOf_1 : decode cX8_modeOf 1 = .ok (.ifCond .ne 7, 3) := by decide +kernel
theorem dX8_modeOf_4 : decode cX8_modeOf 4 = .ok (.iconst 2, 1) := by decide +kernel
theorem dX8_modeOf_5 : decode cX8_modeOf 5 = .ok (.goto 13, 3) := by decide +kernel
theorem dX8_modeOf_8 : decode cX8_modeOf 8 = .ok (.iload_n 0, 1) := by decide +kernel
theorem dX8_modeOf_9 : decode cX8_modeOf 9 = .ok (.iconst 1, 1) := by decide +kernel
theorem dX8_modeOf_10 : decode cX8_modeOf 10 = .ok (.if_icmp .ne 7, 3) := by decide +kernel
theorem dX8_modeOf_13 : decode cX8_modeOf 13 = .ok (.iconst 4, 1) := by decide +kernel
theorem dX8_modeOf_14 : decode cX8_modeOf 14 = .ok (.goto 4, 3) := by decide +kernel
theorem dX8_modeOf_17 : decode cX8_modeOf 17 = .ok (.iconst 5, 1) := by decide +kernel
theorem dX8_modeOf_18 : decode cX8_modeOf 18 = .ok (.ireturn, 1) := by decide +kernel
theorem dX8_lots_0 : decode cX8_lots 0 = .ok (.iload_n 1, 1) := by decide +kernel
theorem dX8_lots_1 : decode cX8_lots 1 = .ok (.iconst 1, 1) := by decide +kernel
theorem dX8_lots_2 : decode cX8_lots 2 = .ok (.bipush 60, 2) := by decide +kernel
theorem dX8_lots_4 : decode cX8_lots 4 = .ok (.invokestatic 62, 3) := by decide +kernel
theorem dX8_lots_7 : decode cX8_lots 7 = .ok (.ifCond .eq 12, 3) := by decide +kernel
theorem dX8_lots_10 : decode cX8_lots 10 = .ok (.iload_n 3, 1) := by decide +kernel
theorem dX8_lots_11 : decode cX8_lots 11 = .ok (.iconst 0, 1) := by decide +kernel
theorem dX8_lots_12 : decode cX8_lots 12 = .ok (.iconst 1, 1) := by decide +kernel
theorem dX8_lots_13 : decode cX8_lots 13 = .ok (.invokestatic 62, 3) := by decide +kernel
theorem dX8_lots_16 : decode cX8_lots 16 = .ok (.ifCond .ne 5, 3) := by decide +kernel
theorem dX8_lots_19 : decode cX8_lots 19 = .ok (.iconst (-1), 1) := by decide +kernel
theorem dX8_lots_20 : decode cX8_lots 20 = .ok (.ireturn, 1) := by decide +kernel
theorem dX8_lots_21 : decode cX8_lots 21 = .ok (.aload_n 0, 1) := by decide +kernel
theorem dX8_lots_22 : decode cX8_lots 22 = .ok (.getfield 15, 3) := by decide +kernel
theorem dX8_lots_25 : decode cX8_lots 25 = .ok (.iconst 0, 1) := by decide +kernel
theorem dX8_lots_26 : decode cX8_lots 26 = .ok (.iaload, 1) := by decide +kernel
theorem dX8_lots_27 : decode cX8_lots 27 = .ok (.ifCond .ne 6, 3) := by decide +kernel
theorem dX8_lots_30 : decode cX8_lots 30 = .ok (.bipush (-5), 2) := by decide +kernel
theorem dX8_lots_32 : decode cX8_lots 32 = .ok (.ireturn, 1) := by decide +kernel
theorem dX8_lots_33 : decode cX8_lots 33 = .ok (.aload_n 0, 1) := by decide +kernel
theorem dX8_lots_34 : decode cX8_lots 34 = .ok (.invokevirtual 186, 3) := by decide +kernel
theorem dX8_lots_37 : decode cX8_lots 37 = .ok (.aload_n 0, 1) := by decide +kernel
theorem dX8_lots_38 : decode cX8_lots 38 = .ok (.iload_n 2, 1) := by decide +kernel
theorem dX8_lots_39 : decode cX8_lots 39 = .ok (.putfield 221, 3) := by decide +kernel
theorem dX8_lots_42 : decode cX8_lots 42 = .ok (.iconst 0, 1) := by decide +kernel
theorem dX8_lots_43 : decode cX8_lots 43 = .ok (.istore 4, 2) := by decide +kernel
theorem dX8_lots_45 : decode cX8_lots 45 = .ok (.iconst 0, 1) := by decide +kernel
theorem dX8_lots_46 : decode cX8_lots 46 = .ok (.istore 5, 2) := by decide +kernel
theorem dX8_lots_48 : decode cX8_lots 48 = .ok (.iload 5, 2) := by decide +kernel
theorem dX8_lots_50 : decode cX8_lots 50 = .ok (.iload_n 1, 1) := by decide +kernel
theorem dX8_lots_51 : decode cX8_lots 51 = .ok (.if_icmp .ge 75, 3) := by decide +kernel
theorem dX8_lots_54 : decode cX8_lots 54 = .ok (.aload_n 0, 1) := by decide +kernel
theorem dX8_lots_55 : decode cX8_lots 55 = .ok (.bipush 6, 2) := by decide +kernel
theorem dX8_lots_57 : decode cX8_lots 57 = .ok (.invokevirtual 227, 3) := by decide +kernel
theorem dX8_lots_60 : decode cX8_lots 60 = .ok (.istore 6, 2) := by decide +kernel
theorem dX8_lots_62 : decode cX8_lots 62 = .ok (.aload_n 0, 1) := by decide +kernel
theorem dX8_lots_63 : decode cX8_lots 63 = .ok (.iload 6, 2) := by decide +kernel
theorem dX8_lots_65 : decode cX8_lots 65 = .ok (.invokevirtual 144, 3) := by decide +kernel
theorem dX8_lots_68 : decode cX8_lots 68 = .ok (.ifCond .eq 6, 3) := by decide +kernel
theorem dX8_lots_71 : decode cX8_lots 71 = .ok (.goto 49, 3) := by decide +kernel
theorem dX8_lots_74 : decode cX8_lots 74 = .ok (.aload_n 0, 1) := by decide +kernel
theorem dX8_lots_75 : decode cX8_lots 75 = .ok (.aload_n 0, 1) := by decide +kernel
theorem dX8_lots_76 : decode cX8_lots 76 = .ok (.getfield 15, 3) := by decide +kernel
theorem dX8_lots_79 : decode cX8_lots 79 = .ok (.iconst 0, 1) := by decide +kernel
theorem dX8_lots_80 : decode cX8_lots 80 = .ok (.iaload, 1) := by decide +kernel
theorem dX8_lots_81 : decode cX8_lots 81 = .ok (.invokevirtual 227, 3) := by decide +kernel
theorem dX8_lots_84 : decode cX8_lots 84 = .ok (.istore 7, 2) := by decide +kernel
theorem dX8_lots_86 : decode cX8_lots 86 = .ok (.aload_n 0, 1) := by decide +kernel
theorem dX8_lots_87 : decode cX8_lots 87 = .ok (.iconst 3, 1) := by decide +kernel
theorem dX8_lots_88 : decode cX8_lots 88 = .ok (.invokevirtual 227, 3) := by decide +kernel
theorem dX8_lots_91 : decode cX8_lots 91 = .ok (.invokestatic 230, 3) := by decide +kernel
theorem dX8_lots_94 : decode cX8_lots 94 = .ok (.istore 8, 2) := by decide +kernel
theorem dX8_lots_96 : decode cX8_lots 96 = .ok (.iload 4, 2) := by decide +kernel
theorem dX8_lots_98 : decode cX8_lots 98 = .ok (.aload_n 0, 1) := by decide +kernel
theorem dX8_lots_99 : decode cX8_lots 99 = .ok (.iload 6, 2) := by decide +kernel
theorem dX8_lots_101 : decode cX8_lots 101 = .ok (.iload 7, 2) := by decide +kernel
theorem dX8_lots_103 : decode cX8_lots 103 = .ok (.iload 8, 2) := by decide +kernel
theorem dX8_lots_105 : decode cX8_lots 105 = .ok (.invokevirtual 206, 3) := by decide +kernel
theorem dX8_lots_108 : decode cX8_lots 108 = .ok (.iconst 1, 1) := by decide +kernel
theorem dX8_lots_109 : decode cX8_lots 109 = .ok (.if_icmp .ne 7, 3) := by decide +kernel
theorem dX8_lots_112 : decode cX8_lots 112 = .ok (.iconst 1, 1) := by decide +kernel
theorem dX8_lots_113 : decode cX8_lots 113 = .ok (.goto 4, 3) := by decide +kernel
theorem dX8_lots_116 : decode cX8_lots 116 = .ok (.iconst 0, 1) := by decide +kernel
theorem dX8_lots_117 : decode cX8_lots 117 = .ok (.iadd, 1) := by decide +kernel
theorem dX8_lots_118 : decode cX8_lots 118 = .ok (.istore 4, 2) := by decide +kernel
theorem dX8_lots_120 : decode cX8_lots 120 = .ok (.iinc 5 1, 3) := by decide +kernel
theorem dX8_lots_123 : decode cX8_lots 123 = .ok (.goto (-75), 3) := by decide +kernel
theorem dX8_lots_126 : decode cX8_lots 126 = .ok (.aload_n 0, 1) := by decide +kernel
theorem dX8_lots_127 : decode cX8_lots 127 = .ok (.getfield 15, 3) := by decide +kernel
theorem dX8_lots_130 : decode cX8_lots 130 = .ok (.bipush 25, 2) := by decide +kernel
theorem dX8_lots_132 : decode cX8_lots 132 = .ok (.iaload, 1) := by decide +kernel
theorem dX8_lots_133 : decode cX8_lots 133 = .ok (.istore 5, 2) := by decide +kernel
theorem dX8_lots_135 : decode cX8_lots 135 = .ok (.aload_n 0, 1) := by decide +kernel
theorem dX8_lots_136 : decode cX8_lots 136 = .ok (.invokevirtual 189, 3) := by decide +kernel
theorem dX8_lots_139 : decode cX8_lots 139 = .ok (.iload_n 3, 1) := by decide +kernel
theorem dX8_lots_140 : decode cX8_lots 140 = .ok (.ifCond .ne 8, 3) := by decide +kernel
theorem dX8_lots_143 : decode cX8_lots 143 = .ok (.iload 4, 2) := by decide +kernel
theorem dX8_lots_145 : decode cX8_lots 145 = .ok (.goto 5, 3) := by decide +kernel
theorem dX8_lots_148 : decode cX8_lots 148 = .ok (.iload 5, 2) := by decide +kernel
theorem dX8_lots_150 : decode cX8_lots 150 = .ok (.ireturn, 1) := by decide +kernel
theorem dX8_goesInto_0 : decode cX8_goesInto 0 = .ok (.aload_n 0, 1) := by decide +kernel
theorem dX8_goesInto_1 : decode cX8_goesInto 1 = .ok (.getfield 25, 3) := by decide +kernel
theorem dX8_goesInto_4 : decode cX8_goesInto 4 = .ok (.iload_n 1, 1) := by decide +kernel
theorem dX8_goesInto_5 : decode cX8_goesInto 5 = .ok (.dup2, 1) := by decide +kernel
theorem dX8_goesInto_6 : decode cX8_goesInto 6 = .ok (.iaload, 1) := by decide +kernel
theorem dX8_goesInto_7 : decode cX8_goesInto 7 = .ok (.iconst 1, 1) := by decide +kernel
theorem dX8_goesInto_8 : decode cX8_goesInto 8 = .ok (.iadd, 1) := by decide +kernel
theorem dX8_goesInto_9 : decode cX8_goesInto 9 = .ok (.iastore, 1) := by decide +kernel
theorem dX8_goesInto_10 : decode cX8_goesInto 10 = .ok (.aload_n 0, 1) := by decide +kernel
theorem dX8_goesInto_11 : decode cX8_goesInto 11 = .ok (.getfield 31, 3) := by decide +kernel
theorem dX8_goesInto_14 : decode cX8_goesInto 14 = .ok (.iload_n 1, 1) := by decide +kernel
theorem dX8_goesInto_15 : decode cX8_goesInto 15 = .ok (.dup2, 1) := by decide +kernel
theorem dX8_goesInto_16 : decode cX8_goesInto 16 = .ok (.iaload, 1) := by decide +kernel
theorem dX8_goesInto_17 : decode cX8_goesInto 17 = .ok (.iconst 1, 1) := by decide +kernel
theorem dX8_goesInto_18 : decode cX8_goesInto 18 = .ok (.iadd, 1) := by decide +kernel
theorem dX8_goesInto_19 : decode cX8_goesInto 19 = .ok (.iastore, 1) := by decide +kernel
theorem dX8_goesInto_20 : decode cX8_goesInto 20 = .ok (.aload_n 0, 1) := by decide +kernel
theorem dX8_goesInto_21 : decode cX8_goesInto 21 = .ok (.getfield 28, 3) := by decide +kernel
theorem dX8_goesInto_24 : decode cX8_goesInto 24 = .ok (.iload_n 1, 1) := by decide +kernel
theorem dX8_goesInto_25 : decode cX8_goesInto 25 = .ok (.aload_n 0, 1) := by decide +kernel
theorem dX8_goesInto_26 : decode cX8_goesInto 26 = .ok (.getfield 28, 3) := by decide +kernel
theorem dX8_goesInto_29 : decode cX8_goesInto 29 = .ok (.iload_n 1, 1) := by decide +kernel
theorem dX8_goesInto_30 : decode cX8_goesInto 30 = .ok (.iaload, 1) := by decide +kernel
theorem dX8_goesInto_31 : decode cX8_goesInto 31 = .ok (.aload_n 0, 1) := by decide +kernel
theorem dX8_goesInto_32 : decode cX8_goesInto 32 = .ok (.getfield 31, 3) := by decide +kernel
theorem dX8_goesInto_35 : decode cX8_goesInto 35 = .ok (.iload_n 1, 1) := by decide +kernel
theorem dX8_goesInto_36 : decode cX8_goesInto 36 = .ok (.iaload, 1) := by decide +kernel
theorem dX8_goesInto_37 : decode cX8_goesInto 37 = .ok (.invokestatic 233, 3) := by decide +kernel
theorem dX8_goesInto_40 : decode cX8_goesInto 40 = .ok (.iastore, 1) := by decide +kernel
theorem dX8_goesInto_41 : decode cX8_goesInto 41 = .ok (.return_, 1) := by decide +kernel
theorem dX8_weighsFrom_0 : decode cX8_weighsFrom 0 = .ok (.aload_n 0, 1) := by decide +kernel
theorem dX8_weighsFrom_1 : decode cX8_weighsFrom 1 = .ok (.iload_n 1, 1) := by decide +kernel
theorem dX8_weighsFrom_2 : decode cX8_weighsFrom 2 = .ok (.invokevirtual 94, 3) := by decide +kernel
theorem dX8_weighsFrom_5 : decode cX8_weighsFrom 5 = .ok (.istore_n 3, 1) := by decide +kernel
theorem dX8_weighsFrom_6 : decode cX8_weighsFrom 6 = .ok (.iconst 0, 1) := by decide +kernel
theorem dX8_weighsFrom_7 : decode cX8_weighsFrom 7 = .ok (.istore 4, 2) := by decide +kernel
theorem dX8_weighsFrom_9 : decode cX8_weighsFrom 9 = .ok (.iload 4, 2) := by decide +kernel
theorem dX8_weighsFrom_11 : decode cX8_weighsFrom 11 = .ok (.aload_n 0, 1) := by decide +kernel
theorem dX8_weighsFrom_12 : decode cX8_weighsFrom 12 = .ok (.getfield 15, 3) := by decide +kernel
theorem dX8_weighsFrom_15 : decode cX8_weighsFrom 15 = .ok (.iconst 0, 1) := by decide +kernel
theorem dX8_weighsFrom_16 : decode cX8_weighsFrom 16 = .ok (.iaload, 1) := by decide +kernel
theorem dX8_weighsFrom_17 : decode cX8_weighsFrom 17 = .ok (.if_icmp .ge 95, 3) := by decide +kernel
theorem dX8_weighsFrom_20 : decode cX8_weighsFrom 20 = .ok (.aload_n 0, 1) := by decide +kernel
theorem dX8_weighsFrom_21 : decode cX8_weighsFrom 21 = .ok (.getfield 238, 3) := by decide +kernel
theorem dX8_weighsFrom_24 : decode cX8_weighsFrom 24 = .ok (.ifCond .ne 88, 3) := by decide +kernel
theorem dX8_weighsFrom_27 : decode cX8_weighsFrom 27 = .ok (.aload_n 0, 1) := by decide +kernel
theorem dX8_weighsFrom_28 : decode cX8_weighsFrom 28 = .ok (.getfield 15, 3) := by decide +kernel
theorem dX8_weighsFrom_31 : decode cX8_weighsFrom 31 = .ok (.iconst 1, 1) := by decide +kernel
theorem dX8_weighsFrom_32 : decode cX8_weighsFrom 32 = .ok (.iload 4, 2) := by decide +kernel
theorem dX8_weighsFrom_34 : decode cX8_weighsFrom 34 = .ok (.iadd, 1) := by decide +kernel
theorem dX8_weighsFrom_35 : decode cX8_weighsFrom 35 = .ok (.iaload, 1) := by decide +kernel
theorem dX8_weighsFrom_36 : decode cX8_weighsFrom 36 = .ok (.iload_n 1, 1) := by decide +kernel
theorem dX8_weighsFrom_37 : decode cX8_weighsFrom 37 = .ok (.if_icmp .eq 6, 3) := by decide +kernel
theorem dX8_weighsFrom_40 : decode cX8_weighsFrom 40 = .ok (.goto 66, 3) := by decide +kernel
theorem dX8_weighsFrom_43 : decode cX8_weighsFrom 43 = .ok (.aload_n 0, 1) := by decide +kernel
theorem dX8_weighsFrom_44 : decode cX8_weighsFrom 44 = .ok (.getfield 15, 3) := by decide +kernel
theorem dX8_weighsFrom_47 : decode cX8_weighsFrom 47 = .ok (.bipush 13, 2) := by decide +kernel
theorem dX8_weighsFrom_49 : decode cX8_weighsFrom 49 = .ok (.iload 4, 2) := by decide +kernel
theorem dX8_weighsFrom_51 : decode cX8_weighsFrom 51 = .ok (.iadd, 1) := by decide +kernel
theorem dX8_weighsFrom_52 : decode cX8_weighsFrom 52 = .ok (.iaload, 1) := by decide +kernel
theorem dX8_weighsFrom_53 : decode cX8_weighsFrom 53 = .ok (.iconst 1, 1) := by decide +kernel
theorem dX8_weighsFrom_54 : decode cX8_weighsFrom 54 = .ok (.if_icmp .ne 10, 3) := by decide +kernel
theorem dX8_weighsFrom_57 : decode cX8_weighsFrom 57 = .ok (.aload_n 0, 1) := by decide +kernel
theorem dX8_weighsFrom_58 : decode cX8_weighsFrom 58 = .ok (.iconst 1, 1) := by decide +kernel
theorem dX8_weighsFrom_59 : decode cX8_weighsFrom 59 = .ok (.putfield 238, 3) := by decide +kernel
theorem dX8_weighsFrom_62 : decode cX8_weighsFrom 62 = .ok (.iload_n 3, 1) := by decide +kernel
theorem dX8_weighsFrom_63 : decode cX8_weighsFrom 63 = .ok (.ireturn, 1) := by decide +kernel
theorem dX8_weighsFrom_64 : decode cX8_weighsFrom 64 = .ok (.aload_n 0, 1) := by decide +kernel
theorem dX8_weighsFrom_65 : decode cX8_weighsFrom 65 = .ok (.iload 4, 2) := by decide +kernel
theorem dX8_weighsFrom_67 : decode cX8_weighsFrom 67 = .ok (.invokevirtual 242, 3) := by decide +kernel
theorem dX8_weighsFrom_70 : decode cX8_weighsFrom 70 = .ok (.aload_n 0, 1) := by decide +kernel
theorem dX8_weighsFrom_71 : decode cX8_weighsFrom 71 = .ok (.iload_n 2, 1) := by decide +kernel
theorem dX8_weighsFrom_72 : decode cX8_weighsFrom 72 = .ok (.invokevirtual 242, 3) := by decide +kernel
theorem dX8_weighsFrom_75 : decode cX8_weighsFrom 75 = .ok (.iload_n 3, 1) := by decide +kernel
theorem dX8_weighsFrom_76 : decode cX8_weighsFrom 76 = .ok (.aload_n 0, 1) := by decide +kernel
theorem dX8_weighsFrom_77 : decode cX8_weighsFrom 77 = .ok (.iload 4, 2) := by decide +kernel
theorem dX8_weighsFrom_79 : decode cX8_weighsFrom 79 = .ok (.iload_n 2, 1) := by decide +kernel
theorem dX8_weighsFrom_80 : decode cX8_weighsFrom 80 = .ok (.invokevirtual 245, 3) := by decide +kernel
theorem dX8_weighsFrom_83 : decode cX8_weighsFrom 83 = .ok (.iadd, 1) := by decide +kernel
theorem dX8_weighsFrom_84 : decode cX8_weighsFrom 84 = .ok (.istore_n 3, 1) := by decide +kernel
theorem dX8_weighsFrom_85 : decode cX8_weighsFrom 85 = .ok (.aload_n 0, 1) := by decide +kernel
theorem dX8_weighsFrom_86 : decode cX8_weighsFrom 86 = .ok (.getfield 31, 3) := by decide +kernel
theorem dX8_weighsFrom_89 : decode cX8_weighsFrom 89 = .ok (.iload 4, 2) := by decide +kernel
theorem dX8_weighsFrom_91 : decode cX8_weighsFrom 91 = .ok (.dup2, 1) := by decide +kernel
theorem dX8_weighsFrom_92 : decode cX8_weighsFrom 92 = .ok (.iaload, 1) := by decide +kernel
theorem dX8_weighsFrom_93 : decode cX8_weighsFrom 93 = .ok (.iconst 1, 1) := by decide +kernel
theorem dX8_weighsFrom_94 : decode cX8_weighsFrom 94 = .ok (.isub, 1) := by decide +kernel
theorem dX8_weighsFrom_95 : decode cX8_weighsFrom 95 = .ok (.iastore, 1) := by decide +kernel
theorem dX8_weighsFrom_96 : decode cX8_weighsFrom 96 = .ok (.aload_n 0, 1) := by decide +kernel
theorem dX8_weighsFrom_97 : decode cX8_weighsFrom 97 = .ok (.getfield 31, 3) := by decide +kernel
theorem dX8_weighsFrom_100 : decode cX8_weighsFrom 100 = .ok (.iload_n 2, 1) := by decide +kernel
theorem dX8_weighsFrom_101 : decode cX8_weighsFrom 101 = .ok (.dup2, 1) := by decide +kernel
theorem dX8_weighsFrom_102 : decode cX8_weighsFrom 102 = .ok (.iaload, 1) := by decide +kernel
theorem dX8_weighsFrom_103 : decode cX8_weighsFrom 103 = .ok (.iconst 1, 1) := by decide +kernel
theorem dX8_weighsFrom_104 : decode cX8_weighsFrom 104 = .ok (.isub, 1) := by decide +kernel
theorem dX8_weighsFrom_105 : decode cX8_weighsFrom 105 = .ok (.iastore, 1) := by decide +kernel
theorem dX8_weighsFrom_106 : decode cX8_weighsFrom 106 = .ok (.iinc 4 1, 3) := by decide +kernel
theorem dX8_weighsFrom_109 : decode cX8_weighsFrom 109 = .ok (.goto (-100), 3) := by decide +kernel
theorem dX8_weighsFrom_112 : decode cX8_weighsFrom 112 = .ok (.iload_n 3, 1) := by decide +kernel
theorem dX8_weighsFrom_113 : decode cX8_weighsFrom 113 = .ok (.ireturn, 1) := by decide +kernel
theorem dX8_isBare_0 : decode cX8_isBare 0 = .ok (.aload_n 0, 1) := by decide +kernel
theorem dX8_isBare_1 : decode cX8_isBare 1 = .ok (.getfield 15, 3) := by decide +kernel
theorem dX8_isBare_4 : decode cX8_isBare 4 = .ok (.bipush 13, 2) := by decide +kernel
theorem dX8_isBare_6 : decode cX8_isBare 6 = .ok (.iload_n 1, 1) := by decide +kernel
theorem dX8_isBare_7 : decode cX8_isBare 7 = .ok (.iadd, 1) := by decide +kernel
theorem dX8_isBare_8 : decode cX8_isBare 8 = .ok (.iaload, 1) := by decide +kernel
theorem dX8_isBare_9 : decode cX8_isBare 9 = .ok (.iconst 1, 1) := by decide +kernel
theorem dX8_isBare_10 : decode cX8_isBare 10 = .ok (.if_icmp .ne 7, 3) := by decide +kernel
theorem dX8_isBare_13 : decode cX8_isBare 13 = .ok (.iconst 1, 1) := by decide +kernel
theorem dX8_isBare_14 : decode cX8_isBare 14 = .ok (.goto 4, 3) := by decide +kernel
theorem dX8_isBare_17 : decode cX8_isBare 17 = .ok (.iconst 0, 1) := by decide +kernel
theorem dX8_isBare_18 : decode cX8_isBare 18 = .ok (.ireturn, 1) := by decide +kernel
theorem dX8_weighs_0 : decode cX8_weighs 0 = .ok (.aload_n 0, 1) := by decide +kernel
theorem dX8_weighs_1 : decode cX8_weighs 1 = .ok (.iload_n 1, 1) := by decide +kernel
theorem dX8_weighs_2 : decode cX8_weighs 2 = .ok (.invokevirtual 70, 3) := by decide +kernel
theorem dX8_weighs_5 : decode cX8_weighs 5 = .ok (.ifCond .ne 5, 3) := by decide +kernel
theorem dX8_weighs_8 : decode cX8_weighs 8 = .ok (.iconst (-1), 1) := by decide +kernel
theorem dX8_weighs_9 : decode cX8_weighs 9 = .ok (.ireturn, 1) := by decide +kernel
theorem dX8_weighs_10 : decode cX8_weighs 10 = .ok (.aload_n 0, 1) := by decide +kernel
theorem dX8_weighs_11 : decode cX8_weighs 11 = .ok (.iload_n 1, 1) := by decide +kernel
theorem dX8_weighs_12 : decode cX8_weighs 12 = .ok (.invokevirtual 248, 3) := by decide +kernel
theorem dX8_weighs_15 : decode cX8_weighs 15 = .ok (.ifCond .eq 6, 3) := by decide +kernel
theorem dX8_weighs_18 : decode cX8_weighs 18 = .ok (.bipush (-11), 2) := by decide +kernel
theorem dX8_weighs_20 : decode cX8_weighs 20 = .ok (.ireturn, 1) := by decide +kernel
theorem dX8_weighs_21 : decode cX8_weighs 21 = .ok (.aload_n 0, 1) := by decide +kernel
theorem dX8_weighs_22 : decode cX8_weighs 22 = .ok (.iconst 0, 1) := by decide +kernel
theorem dX8_weighs_23 : decode cX8_weighs 23 = .ok (.putfield 238, 3) := by decide +kernel
theorem dX8_weighs_26 : decode cX8_weighs 26 = .ok (.aload_n 0, 1) := by decide +kernel
theorem dX8_weighs_27 : decode cX8_weighs 27 = .ok (.iload_n 1, 1) := by decide +kernel
theorem dX8_weighs_28 : decode cX8_weighs 28 = .ok (.invokevirtual 242, 3) := by decide +kernel
theorem dX8_weighs_31 : decode cX8_weighs 31 = .ok (.aload_n 0, 1) := by decide +kernel
theorem dX8_weighs_32 : decode cX8_weighs 32 = .ok (.iload_n 1, 1) := by decide +kernel
theorem dX8_weighs_33 : decode cX8_weighs 33 = .ok (.iload_n 1, 1) := by decide +kernel
theorem dX8_weighs_34 : decode cX8_weighs 34 = .ok (.invokevirtual 245, 3) := by decide +kernel
theorem dX8_weighs_37 : decode cX8_weighs 37 = .ok (.istore_n 2, 1) := by decide +kernel
theorem dX8_weighs_38 : decode cX8_weighs 38 = .ok (.aload_n 0, 1) := by decide +kernel
theorem dX8_weighs_39 : decode cX8_weighs 39 = .ok (.getfield 31, 3) := by decide +kernel
theorem dX8_weighs_42 : decode cX8_weighs 42 = .ok (.iload_n 1, 1) := by decide +kernel
theorem dX8_weighs_43 : decode cX8_weighs 43 = .ok (.dup2, 1) := by decide +kernel
theorem dX8_weighs_44 : decode cX8_weighs 44 = .ok (.iaload, 1) := by decide +kernel
theorem dX8_weighs_45 : decode cX8_weighs 45 = .ok (.iconst 1, 1) := by decide +kernel
theorem dX8_weighs_46 : decode cX8_weighs 46 = .ok (.isub, 1) := by decide +kernel
theorem dX8_weighs_47 : decode cX8_weighs 47 = .ok (.iastore, 1) := by decide +kernel
theorem dX8_weighs_48 : decode cX8_weighs 48 = .ok (.aload_n 0, 1) := by decide +kernel
theorem dX8_weighs_49 : decode cX8_weighs 49 = .ok (.getfield 238, 3) := by decide +kernel
theorem dX8_weighs_52 : decode cX8_weighs 52 = .ok (.ifCond .eq 8, 3) := by decide +kernel
theorem dX8_weighs_55 : decode cX8_weighs 55 = .ok (.bipush (-11), 2) := by decide +kernel
theorem dX8_weighs_57 : decode cX8_weighs 57 = .ok (.goto 4, 3) := by decide +kernel
theorem dX8_weighs_60 : decode cX8_weighs 60 = .ok (.iload_n 2, 1) := by decide +kernel
theorem dX8_weighs_61 : decode cX8_weighs 61 = .ok (.ireturn, 1) := by decide +kernel
theorem dX8_plunges_0 : decode cX8_plunges 0 = .ok (.aload_n 0, 1) := by decide +kernel
theorem dX8_plunges_1 : decode cX8_plunges 1 = .ok (.iload_n 1, 1) := by decide +kernel
theorem dX8_plunges_2 : decode cX8_plunges 2 = .ok (.invokevirtual 70, 3) := by decide +kernel
theorem dX8_plunges_5 : decode cX8_plunges 5 = .ok (.ifCond .eq 22, 3) := by decide +kernel
theorem dX8_plunges_8 : decode cX8_plunges 8 = .ok (.iload_n 2, 1) := by decide +kernel
theorem dX8_plunges_9 : decode cX8_plunges 9 = .ok (.iconst 1, 1) := by decide +kernel
theorem dX8_plunges_10 : decode cX8_plunges 10 = .ok (.bipush 30, 2) := by decide +kernel
theorem dX8_plunges_12 : decode cX8_plunges 12 = .ok (.invokestatic 62, 3) := by decide +kernel
theorem dX8_plunges_15 : decode cX8_plunges 15 = .ok (.ifCond .eq 12, 3) := by decide +kernel
theorem dX8_plunges_18 : decode cX8_plunges 18 = .ok (.iload_n 3, 1) := by decide +kernel
theorem dX8_plunges_19 : decode cX8_plunges 19 = .ok (.iconst 0, 1) := by decide +kernel
theorem dX8_plunges_20 : decode cX8_plunges 20 = .ok (.iload_n 2, 1) := by decide +kernel
theorem dX8_plunges_21 : decode cX8_plunges 21 = .ok (.invokestatic 62, 3) := by decide +kernel
theorem dX8_plunges_24 : decode cX8_plunges 24 = .ok (.ifCond .ne 5, 3) := by decide +kernel
theorem dX8_plunges_27 : decode cX8_plunges 27 = .ok (.iconst (-1), 1) := by decide +kernel
theorem dX8_plunges_28 : decode cX8_plunges 28 = .ok (.ireturn, 1) := by decide +kernel
theorem dX8_plunges_29 : decode cX8_plunges 29 = .ok (.aload_n 0, 1) := by decide +kernel
theorem dX8_plunges_30 : decode cX8_plunges 30 = .ok (.iload_n 1, 1) := by decide +kernel
theorem dX8_plunges_31 : decode cX8_plunges 31 = .ok (.invokevirtual 248, 3) := by decide +kernel
theorem dX8_plunges_34 : decode cX8_plunges 34 = .ok (.ifCond .eq 6, 3) := by decide +kernel
theorem dX8_plunges_37 : decode cX8_plunges 37 = .ok (.bipush (-11), 2) := by decide +kernel
theorem dX8_plunges_39 : decode cX8_plunges 39 = .ok (.ireturn, 1) := by decide +kernel
theorem dX8_plunges_40 : decode cX8_plunges 40 = .ok (.iload_n 3, 1) := by decide +kernel
theorem dX8_plunges_41 : decode cX8_plunges 41 = .ok (.ifCond .ne 7, 3) := by decide +kernel
theorem dX8_plunges_44 : decode cX8_plunges 44 = .ok (.iload_n 2, 1) := by decide +kernel
theorem dX8_plunges_45 : decode cX8_plunges 45 = .ok (.goto 4, 3) := by decide +kernel
theorem dX8_plunges_48 : decode cX8_plunges 48 = .ok (.iload_n 3, 1) := by decide +kernel
theorem dX8_plunges_49 : decode cX8_plunges 49 = .ok (.istore 4, 2) := by decide +kernel
theorem dX8_plunges_51 : decode cX8_plunges 51 = .ok (.iconst 0, 1) := by decide +kernel
theorem dX8_plunges_52 : decode cX8_plunges 52 = .ok (.istore 5, 2) := by decide +kernel
theorem dX8_plunges_54 : decode cX8_plunges 54 = .ok (.iload 5, 2) := by decide +kernel
theorem dX8_plunges_56 : decode cX8_plunges 56 = .ok (.iload 4, 2) := by decide +kernel
theorem dX8_plunges_58 : decode cX8_plunges 58 = .ok (.if_icmp .ge 14, 3) := by decide +kernel
theorem dX8_plunges_61 : decode cX8_plunges 61 = .ok (.aload_n 0, 1) := by decide +kernel
theorem dX8_plunges_62 : decode cX8_plunges 62 = .ok (.iload_n 1, 1) := by decide +kernel
theorem dX8_plunges_63 : decode cX8_plunges 63 = .ok (.invokevirtual 242, 3) := by decide +kernel
theorem dX8_plunges_66 : decode cX8_plunges 66 = .ok (.iinc 5 1, 3) := by decide +kernel
theorem dX8_plunges_69 : decode cX8_plunges 69 = .ok (.goto (-15), 3) := by decide +kernel
theorem dX8_plunges_72 : decode cX8_plunges 72 = .ok (.aload_n 0, 1) := by decide +kernel
theorem dX8_plunges_73 : decode cX8_plunges 73 = .ok (.getfield 31, 3) := by decide +kernel
theorem dX8_plunges_76 : decode cX8_plunges 76 = .ok (.iload_n 1, 1) := by decide +kernel
theorem dX8_plunges_77 : decode cX8_plunges 77 = .ok (.iconst 0, 1) := by decide +kernel
theorem dX8_plunges_78 : decode cX8_plunges 78 = .ok (.iastore, 1) := by decide +kernel
theorem dX8_plunges_79 : decode cX8_plunges 79 = .ok (.iload 4, 2) := by decide +kernel
theorem dX8_plunges_81 : decode cX8_plunges 81 = .ok (.ireturn, 1) := by decide +kernel
theorem dX8_bell_0 : decode cX8_bell 0 = .ok (.aload_n 0, 1) := by decide +kernel
theorem dX8_bell_1 : decode cX8_bell 1 = .ok (.iload_n 1, 1) := by decide +kernel
theorem dX8_bell_2 : decode cX8_bell 2 = .ok (.invokevirtual 70, 3) := by decide +kernel
theorem dX8_bell_5 : decode cX8_bell 5 = .ok (.ifCond .eq 12, 3) := by decide +kernel
theorem dX8_bell_8 : decode cX8_bell 8 = .ok (.iload_n 2, 1) := by decide +kernel
theorem dX8_bell_9 : decode cX8_bell 9 = .ok (.iconst 0, 1) := by decide +kernel
theorem dX8_bell_10 : decode cX8_bell 10 = .ok (.iconst 3, 1) := by decide +kernel
theorem dX8_bell_11 : decode cX8_bell 11 = .ok (.invokestatic 62, 3) := by decide +kernel
theorem dX8_bell_14 : decode cX8_bell 14 = .ok (.ifCond .ne 5, 3) := by decide +kernel
theorem dX8_bell_17 : decode cX8_bell 17 = .ok (.iconst (-1), 1) := by decide +kernel
theorem dX8_bell_18 : decode cX8_bell 18 = .ok (.ireturn, 1) := by decide +kernel
theorem dX8_bell_19 : decode cX8_bell 19 = .ok (.aload_n 0, 1) := by decide +kernel
theorem dX8_bell_20 : decode cX8_bell 20 = .ok (.iload_n 1, 1) := by decide +kernel
theorem dX8_bell_21 : decode cX8_bell 21 = .ok (.invokevirtual 248, 3) := by decide +kernel
theorem dX8_bell_24 : decode cX8_bell 24 = .ok (.ifCond .eq 6, 3) := by decide +kernel
theorem dX8_bell_27 : decode cX8_bell 27 = .ok (.bipush (-11), 2) := by decide +kernel
theorem dX8_bell_29 : decode cX8_bell 29 = .ok (.ireturn, 1) := by decide +kernel
theorem dX8_bell_30 : decode cX8_bell 30 = .ok (.iload_n 2, 1) := by decide +kernel
theorem dX8_bell_31 : decode cX8_bell 31 = .ok (.iconst 1, 1) := by decide +kernel
theorem dX8_bell_32 : decode cX8_bell 32 = .ok (.if_icmp .le 6, 3) := by decide +kernel
theorem dX8_bell_35 : decode cX8_bell 35 = .ok (.bipush (-12), 2) := by decide +kernel
theorem dX8_bell_37 : decode cX8_bell 37 = .ok (.ireturn, 1) := by decide +kernel
theorem dX8_bell_38 : decode cX8_bell 38 = .ok (.aload_n 0, 1) := by decide +kernel
theorem dX8_bell_39 : decode cX8_bell 39 = .ok (.iload_n 1, 1) := by decide +kernel
theorem dX8_bell_40 : decode cX8_bell 40 = .ok (.invokevirtual 242, 3) := by decide +kernel
theorem dX8_bell_43 : decode cX8_bell 43 = .ok (.aload_n 0, 1) := by decide +kernel
theorem dX8_bell_44 : decode cX8_bell 44 = .ok (.getfield 31, 3) := by decide +kernel
theorem dX8_bell_47 : decode cX8_bell 47 = .ok (.iload_n 1, 1) := by decide +kernel
theorem dX8_bell_48 : decode cX8_bell 48 = .ok (.dup2, 1) := by decide +kernel
theorem dX8_bell_49 : decode cX8_bell 49 = .ok (.iaload, 1) := by decide +kernel
theorem dX8_bell_50 : decode cX8_bell 50 = .ok (.iconst 1, 1) := by decide +kernel
theorem dX8_bell_51 : decode cX8_bell 51 = .ok (.isub, 1) := by decide +kernel
theorem dX8_bell_52 : decode cX8_bell 52 = .ok (.iastore, 1) := by decide +kernel
theorem dX8_bell_53 : decode cX8_bell 53 = .ok (.iconst 1, 1) := by decide +kernel
theorem dX8_bell_54 : decode cX8_bell 54 = .ok (.ireturn, 1) := by decide +kernel
theorem dX8_gate_0 : decode cX8_gate 0 = .ok (.aload_n 0, 1) := by decide +kernel
theorem dX8_gate_1 : decode cX8_gate 1 = .ok (.iload_n 1, 1) := by decide +kernel
theorem dX8_gate_2 : decode cX8_gate 2 = .ok (.invokevirtual 70, 3) := by decide +kernel
theorem dX8_gate_5 : decode cX8_gate 5 = .ok (.ifCond .eq 12, 3) := by decide +kernel
theorem dX8_gate_8 : decode cX8_gate 8 = .ok (.iload_n 2, 1) := by decide +kernel
theorem dX8_gate_9 : decode cX8_gate 9 = .ok (.iconst 0, 1) := by decide +kernel
theorem dX8_gate_10 : decode cX8_gate 10 = .ok (.iconst 2, 1) := by decide +kernel
theorem dX8_gate_11 : decode cX8_gate 11 = .ok (.invokestatic 62, 3) := by decide +kernel
theorem dX8_gate_14 : decode cX8_gate 14 = .ok (.ifCond .ne 5, 3) := by decide +kernel
theorem dX8_gate_17 : decode cX8_gate 17 = .ok (.iconst (-1), 1) := by decide +kernel
theorem dX8_gate_18 : decode cX8_gate 18 = .ok (.ireturn, 1) := by decide +kernel
theorem dX8_gate_19 : decode cX8_gate 19 = .ok (.aload_n 0, 1) := by decide +kernel
theorem dX8_gate_20 : decode cX8_gate 20 = .ok (.iload_n 1, 1) := by decide +kernel
theorem dX8_gate_21 : decode cX8_gate 21 = .ok (.invokevirtual 248, 3) := by decide +kernel
theorem dX8_gate_24 : decode cX8_gate 24 = .ok (.ifCond .eq 6, 3) := by decide +kernel
theorem dX8_gate_27 : decode cX8_gate 27 = .ok (.bipush (-11), 2) := by decide +kernel
theorem dX8_gate_29 : decode cX8_gate 29 = .ok (.ireturn, 1) := by decide +kernel
theorem dX8_gate_30 : decode cX8_gate 30 = .ok (.iload_n 2, 1) := by decide +kernel
theorem dX8_gate_31 : decode cX8_gate 31 = .ok (.ifCond .ne 12, 3) := by decide +kernel
theorem dX8_gate_34 : decode cX8_gate 34 = .ok (.aload_n 0, 1) := by decide +kernel
theorem dX8_gate_35 : decode cX8_gate 35 = .ok (.getfield 25, 3) := by decide +kernel
theorem dX8_gate_38 : decode cX8_gate 38 = .ok (.iload_n 1, 1) := by decide +kernel
theorem dX8_gate_39 : decode cX8_gate 39 = .ok (.iaload, 1) := by decide +kernel
theorem dX8_gate_40 : decode cX8_gate 40 = .ok (.goto 23, 3) := by decide +kernel
theorem dX8_gate_43 : decode cX8_gate 43 = .ok (.iload_n 2, 1) := by decide +kernel
theorem dX8_gate_44 : decode cX8_gate 44 = .ok (.iconst 1, 1) := by decide +kernel
theorem dX8_gate_45 : decode cX8_gate 45 = .ok (.if_icmp .ne 12, 3) := by decide +kernel
theorem dX8_gate_48 : decode cX8_gate 48 = .ok (.aload_n 0, 1) := by decide +kernel
theorem dX8_gate_49 : decode cX8_gate 49 = .ok (.getfield 28, 3) := by decide +kernel
theorem dX8_gate_52 : decode cX8_gate 52 = .ok (.iload_n 1, 1) := by decide +kernel
theorem dX8_gate_53 : decode cX8_gate 53 = .ok (.iaload, 1) := by decide +kernel
theorem dX8_gate_54 : decode cX8_gate 54 = .ok (.goto 9, 3) := by decide +kernel
theorem dX8_gate_57 : decode cX8_gate 57 = .ok (.aload_n 0, 1) := by decide +kernel
theorem dX8_gate_58 : decode cX8_gate 58 = .ok (.getfield 31, 3) := by decide +kernel
theorem dX8_gate_61 : decode cX8_gate 61 = .ok (.iload_n 1, 1) := by decide +kernel
theorem dX8_gate_62 : decode cX8_gate 62 = .ok (.iaload, 1) := by decide +kernel
theorem dX8_gate_63 : decode cX8_gate 63 = .ok (.ireturn, 1) := by decide +kernel
theorem dX8_feed_0 : decode cX8_feed 0 = .ok (.iload_n 1, 1) := by decide +kernel
theorem dX8_feed_1 : decode cX8_feed 1 = .ok (.iconst 1, 1) := by decide +kernel
theorem dX8_feed_2 : decode cX8_feed 2 = .ok (.bipush 127, 2) := by decide +kernel
theorem dX8_feed_4 : decode cX8_feed 4 = .ok (.invokestatic 62, 3) := by decide +kernel
theorem dX8_feed_7 : decode cX8_feed 7 = .ok (.ifCond .ne 5, 3) := by decide +kernel
theorem dX8_feed_10 : decode cX8_feed 10 = .ok (.iconst (-1), 1) := by decide +kernel
theorem dX8_feed_11 : decode cX8_feed 11 = .ok (.ireturn, 1) := by decide +kernel
theorem dX8_feed_12 : decode cX8_feed 12 = .ok (.aload_n 0, 1) := by decide +kernel
theorem dX8_feed_13 : decode cX8_feed 13 = .ok (.getfield 180, 3) := by decide +kernel
theorem dX8_feed_16 : decode cX8_feed 16 = .ok (.bipush 120, 2) := by decide +kernel
theorem dX8_feed_18 : decode cX8_feed 18 = .ok (.if_icmp .ne 6, 3) := by decide +kernel
theorem dX8_feed_21 : decode cX8_feed 21 = .ok (.bipush (-3), 2) := by decide +kernel
theorem dX8_feed_23 : decode cX8_feed 23 = .ok (.ireturn, 1) := by decide +kernel
theorem dX8_feed_24 : decode cX8_feed 24 = .ok (.aload_n 0, 1) := by decide +kernel
theorem dX8_feed_25 : decode cX8_feed 25 = .ok (.getfield 37, 3) := by decide +kernel
theorem dX8_feed_28 : decode cX8_feed 28 = .ok (.aload_n 0, 1) := by decide +kernel
theorem dX8_feed_29 : decode cX8_feed 29 = .ok (.getfield 180, 3) := by decide +kernel
theorem dX8_feed_32 : decode cX8_feed 32 = .ok (.iload_n 1, 1) := by decide +kernel
theorem dX8_feed_33 : decode cX8_feed 33 = .ok (.iastore, 1) := by decide +kernel
theorem dX8_feed_34 : decode cX8_feed 34 = .ok (.aload_n 0, 1) := by decide +kernel
theorem dX8_feed_35 : decode cX8_feed 35 = .ok (.dup, 1) := by decide +kernel
theorem dX8_feed_36 : decode cX8_feed 36 = .ok (.getfield 180, 3) := by decide +kernel
theorem dX8_feed_39 : decode cX8_feed 39 = .ok (.iconst 1, 1) := by decide +kernel
theorem dX8_feed_40 : decode cX8_feed 40 = .ok (.iadd, 1) := by decide +kernel
theorem dX8_feed_41 : decode cX8_feed 41 = .ok (.putfield 180, 3) := by decide +kernel
theorem dX8_feed_44 : decode cX8_feed 44 = .ok (.aload_n 0, 1) := by decide +kernel
theorem dX8_feed_45 : decode cX8_feed 45 = .ok (.getfield 180, 3) := by decide +kernel
theorem dX8_feed_48 : decode cX8_feed 48 = .ok (.ireturn, 1) := by decide +kernel
theorem dX8_here_0 : decode cX8_here 0 = .ok (.aload_n 0, 1) := by decide +kernel
theorem dX8_here_1 : decode cX8_here 1 = .ok (.getfield 251, 3) := by decide +kernel
theorem dX8_here_4 : decode cX8_here 4 = .ok (.aload_n 0, 1) := by decide +kernel
theorem dX8_here_5 : decode cX8_here 5 = .ok (.getfield 180, 3) := by decide +kernel
theorem dX8_here_8 : decode cX8_here 8 = .ok (.if_icmp .ge 15, 3) := by decide +kernel
theorem dX8_here_11 : decode cX8_here 11 = .ok (.aload_n 0, 1) := by decide +kernel
theorem dX8_here_12 : decode cX8_here 12 = .ok (.getfield 37, 3) := by decide +kernel
theorem dX8_here_15 : decode cX8_here 15 = .ok (.aload_n 0, 1) := by decide +kernel
theorem dX8_here_16 : decode cX8_here 16 = .ok (.getfield 251, 3) := by decide +kernel
theorem dX8_here_19 : decode cX8_here 19 = .ok (.iaload, 1) := by decide +kernel
theorem dX8_here_20 : decode cX8_here 20 = .ok (.goto 4, 3) := by decide +kernel
theorem dX8_here_23 : decode cX8_here 23 = .ok (.iconst 0, 1) := by decide +kernel
theorem dX8_here_24 : decode cX8_here 24 = .ok (.ireturn, 1) := by decide +kernel
theorem dX8_isFigure_0 : decode cX8_isFigure 0 = .ok (.iload_n 0, 1) := by decide +kernel
theorem dX8_isFigure_1 : decode cX8_isFigure 1 = .ok (.bipush 48, 2) := by decide +kernel
theorem dX8_isFigure_3 : decode cX8_isFigure 3 = .ok (.bipush 57, 2) := by decide +kernel
theorem dX8_isFigure_5 : decode cX8_isFigure 5 = .ok (.invokestatic 62, 3) := by decide +kernel
theorem dX8_isFigure_8 : decode cX8_isFigure 8 = .ok (.ireturn, 1) := by decide +kernel
theorem dX8_number_0 : decode cX8_number 0 = .ok (.aload_n 0, 1) := by decide +kernel
theorem dX8_number_1 : decode cX8_number 1 = .ok (.iconst (-1), 1) := by decide +kernel
theorem dX8_number_2 : decode cX8_number 2 = .ok (.putfield 254, 3) := by decide +kernel
theorem dX8_number_5 : decode cX8_number 5 = .ok (.iconst 0, 1) := by decide +kernel
theorem dX8_number_6 : decode cX8_number 6 = .ok (.istore_n 1, 1) := by decide +kernel
theorem dX8_number_7 : decode cX8_number 7 = .ok (.iload_n 1, 1) := by decide +kernel
theorem dX8_number_8 : decode cX8_number 8 = .ok (.iconst 2, 1) := by decide +kernel
theorem dX8_number_9 : decode cX8_number 9 = .ok (.if_icmp .ge 52, 3) := by decide +kernel
theorem dX8_number_12 : decode cX8_number 12 = .ok (.aload_n 0, 1) := by decide +kernel
theorem dX8_number_13 : decode cX8_number 13 = .ok (.invokevirtual 257, 3) := by decide +kernel
theorem dX8_number_16 : decode cX8_number 16 = .ok (.invokestatic 260, 3) := by decide +kernel
theorem dX8_number_19 : decode cX8_number 19 = .ok (.ifCond .eq 42, 3) := by decide +kernel
theorem dX8_number_22 : decode cX8_number 22 = .ok (.aload_n 0, 1) := by decide +kernel
theorem dX8_number_23 : decode cX8_number 23 = .ok (.bipush 10, 2) := by decide +kernel
theorem dX8_number_25 : decode cX8_number 25 = .ok (.iconst 0, 1) := by decide +kernel
theorem dX8_number_26 : decode cX8_number 26 = .ok (.aload_n 0, 1) := by decide +kernel
theorem dX8_number_27 : decode cX8_number 27 = .ok (.getfield 254, 3) := by decide +kernel
theorem dX8_number_30 : decode cX8_number 30 = .ok (.invokestatic 233, 3) := by decide +kernel
theorem dX8_number_33 : decode cX8_number 33 = .ok (.imul, 1) := by decide +kernel
theorem dX8_number_34 : decode cX8_number 34 = .ok (.aload_n 0, 1) := by decide +kernel
theorem dX8_number_35 : decode cX8_number 35 = .ok (.invokevirtual 257, 3) := by decide +kernel
theorem dX8_number_38 : decode cX8_number 38 = .ok (.iadd, 1) := by decide +kernel
theorem dX8_number_39 : decode cX8_number 39 = .ok (.bipush 48, 2) := by decide +kernel
theorem dX8_number_41 : decode cX8_number 41 = .ok (.isub, 1) := by decide +kernel
theorem dX8_number_42 : decode cX8_number 42 = .ok (.putfield 254, 3) := by decide +kernel
theorem dX8_number_45 : decode cX8_number 45 = .ok (.aload_n 0, 1) := by decide +kernel
theorem dX8_number_46 : decode cX8_number 46 = .ok (.dup, 1) := by decide +kernel
theorem dX8_number_47 : decode cX8_number 47 = .ok (.getfield 251, 3) := by decide +kernel
theorem dX8_number_50 : decode cX8_number 50 = .ok (.iconst 1, 1) := by decide +kernel
theorem dX8_number_51 : decode cX8_number 51 = .ok (.iadd, 1) := by decide +kernel
theorem dX8_number_52 : decode cX8_number 52 = .ok (.putfield 251, 3) := by decide +kernel
theorem dX8_number_55 : decode cX8_number 55 = .ok (.iinc 1 1, 3) := by decide +kernel
theorem dX8_number_58 : decode cX8_number 58 = .ok (.goto (-51), 3) := by decide +kernel
theorem dX8_number_61 : decode cX8_number 61 = .ok (.return_, 1) := by decide +kernel
theorem dX8_asking_0 : decode cX8_asking 0 = .ok (.aload_n 0, 1) := by decide +kernel
theorem dX8_asking_1 : decode cX8_asking 1 = .ok (.aload_n 0, 1) := by decide +kernel
theorem dX8_asking_2 : decode cX8_asking 2 = .ok (.invokevirtual 257, 3) := by decide +kernel
theorem dX8_asking_5 : decode cX8_asking 5 = .ok (.bipush 103, 2) := by decide +kernel
theorem dX8_asking_7 : decode cX8_asking 7 = .ok (.if_icmp .ne 7, 3) := by decide +kernel
theorem dX8_asking_10 : decode cX8_asking 10 = .ok (.iconst 1, 1) := by decide +kernel
theorem dX8_asking_11 : decode cX8_asking 11 = .ok (.goto 4, 3) := by decide +kernel
theorem dX8_asking_14 : decode cX8_asking 14 = .ok (.iconst 0, 1) := by decide +kernel
theorem dX8_asking_15 : decode cX8_asking 15 = .ok (.putfield 263, 3) := by decide +kernel
theorem dX8_asking_18 : decode cX8_asking 18 = .ok (.aload_n 0, 1) := by decide +kernel
theorem dX8_asking_19 : decode cX8_asking 19 = .ok (.dup, 1) := by decide +kernel
theorem dX8_asking_20 : decode cX8_asking 20 = .ok (.getfield 251, 3) := by decide +kernel
theorem dX8_asking_23 : decode cX8_asking 23 = .ok (.aload_n 0, 1) := by decide +kernel
theorem dX8_asking_24 : decode cX8_asking 24 = .ok (.getfield 263, 3) := by decide +kernel
theorem dX8_asking_27 : decode cX8_asking 27 = .ok (.ifCond .eq 7, 3) := by decide +kernel
theorem dX8_asking_30 : decode cX8_asking 30 = .ok (.iconst 1, 1) := by decide +kernel
theorem dX8_asking_31 : decode cX8_asking 31 = .ok (.goto 4, 3) := by decide +kernel
theorem dX8_asking_34 : decode cX8_asking 34 = .ok (.iconst 0, 1) := by decide +kernel
theorem dX8_asking_35 : decode cX8_asking 35 = .ok (.iadd, 1) := by decide +kernel
theorem dX8_asking_36 : decode cX8_asking 36 = .ok (.putfield 251, 3) := by decide +kernel
theorem dX8_asking_39 : decode cX8_asking 39 = .ok (.aload_n 0, 1) := by decide +kernel
theorem dX8_asking_40 : decode cX8_asking 40 = .ok (.aload_n 0, 1) := by decide +kernel
theorem dX8_asking_41 : decode cX8_asking 41 = .ok (.invokevirtual 257, 3) := by decide +kernel
theorem dX8_asking_44 : decode cX8_asking 44 = .ok (.putfield 266, 3) := by decide +kernel
theorem dX8_asking_47 : decode cX8_asking 47 = .ok (.aload_n 0, 1) := by decide +kernel
theorem dX8_asking_48 : decode cX8_asking 48 = .ok (.getfield 266, 3) := by decide +kernel
theorem dX8_asking_51 : decode cX8_asking 51 = .ok (.bipush 115, 2) := by decide +kernel
theorem dX8_asking_53 : decode cX8_asking 53 = .ok (.if_icmp .eq 27, 3) := by decide +kernel
theorem dX8_asking_56 : decode cX8_asking 56 = .ok (.aload_n 0, 1) := by decide +kernel
theorem dX8_asking_57 : decode cX8_asking 57 = .ok (.getfield 266, 3) := by decide +kernel
theorem dX8_asking_60 : decode cX8_asking 60 = .ok (.bipush 117, 2) := by decide +kernel
theorem dX8_asking_62 : decode cX8_asking 62 = .ok (.if_icmp .eq 18, 3) := by decide +kernel
theorem dX8_asking_65 : decode cX8_asking 65 = .ok (.aload_n 0, 1) := by decide +kernel
theorem dX8_asking_66 : decode cX8_asking 66 = .ok (.getfield 266, 3) := by decide +kernel
theorem dX8_asking_69 : decode cX8_asking 69 = .ok (.bipush 111, 2) := by decide +kernel
theorem dX8_asking_71 : decode cX8_asking 71 = .ok (.if_icmp .eq 9, 3) := by decide +kernel
theorem dX8_asking_74 : decode cX8_asking 74 = .ok (.aload_n 0, 1) := by decide +kernel
theorem dX8_asking_75 : decode cX8_asking 75 = .ok (.iconst 1, 1) := by decide +kernel
theorem dX8_asking_76 : decode cX8_asking 76 = .ok (.putfield 269, 3) := by decide +kernel
theorem dX8_asking_79 : decode cX8_asking 79 = .ok (.return_, 1) := by decide +kernel
theorem dX8_asking_80 : decode cX8_asking 80 = .ok (.aload_n 0, 1) := by decide +kernel
theorem dX8_asking_81 : decode cX8_asking 81 = .ok (.dup, 1) := by decide +kernel
theorem dX8_asking_82 : decode cX8_asking 82 = .ok (.getfield 251, 3) := by decide +kernel
theorem dX8_asking_85 : decode cX8_asking 85 = .ok (.iconst 1, 1) := by decide +kernel
theorem dX8_asking_86 : decode cX8_asking 86 = .ok (.iadd, 1) := by decide +kernel
theorem dX8_asking_87 : decode cX8_asking 87 = .ok (.putfield 251, 3) := by decide +kernel
theorem dX8_asking_90 : decode cX8_asking 90 = .ok (.aload_n 0, 1) := by decide +kernel
theorem dX8_asking_91 : decode cX8_asking 91 = .ok (.invokevirtual 257, 3) := by decide +kernel
theorem dX8_asking_94 : decode cX8_asking 94 = .ok (.invokestatic 260, 3) := by decide +kernel
theorem dX8_asking_97 : decode cX8_asking 97 = .ok (.ifCond .ne 9, 3) := by decide +kernel
theorem dX8_asking_100 : decode cX8_asking 100 = .ok (.aload_n 0, 1) := by decide +kernel
theorem dX8_asking_101 : decode cX8_asking 101 = .ok (.iconst 1, 1) := by decide +kernel
theorem dX8_asking_102 : decode cX8_asking 102 = .ok (.putfield 269, 3) := by decide +kernel
theorem dX8_asking_105 : decode cX8_asking 105 = .ok (.return_, 1) := by decide +kernel
theorem dX8_asking_106 : decode cX8_asking 106 = .ok (.aload_n 0, 1) := by decide +kernel
theorem dX8_asking_107 : decode cX8_asking 107 = .ok (.aload_n 0, 1) := by decide +kernel
theorem dX8_asking_108 : decode cX8_asking 108 = .ok (.invokevirtual 257, 3) := by decide +kernel
theorem dX8_asking_111 : decode cX8_asking 111 = .ok (.bipush 48, 2) := by decide +kernel
theorem dX8_asking_113 : decode cX8_asking 113 = .ok (.isub, 1) := by decide +kernel
theorem dX8_asking_114 : decode cX8_asking 114 = .ok (.putfield 272, 3) := by decide +kernel
theorem dX8_asking_117 : decode cX8_asking 117 = .ok (.aload_n 0, 1) := by decide +kernel
theorem dX8_asking_118 : decode cX8_asking 118 = .ok (.dup, 1) := by decide +kernel
theorem dX8_asking_119 : decode cX8_asking 119 = .ok (.getfield 251, 3) := by decide +kernel
theorem dX8_asking_122 : decode cX8_asking 122 = .ok (.iconst 1, 1) := by decide +kernel
theorem dX8_asking_123 : decode cX8_asking 123 = .ok (.iadd, 1) := by decide +kernel
theorem dX8_asking_124 : decode cX8_asking 124 = .ok (.putfield 251, 3) := by decide +kernel
theorem dX8_asking_127 : decode cX8_asking 127 = .ok (.aload_n 0, 1) := by decide +kernel
theorem dX8_asking_128 : decode cX8_asking 128 = .ok (.invokevirtual 257, 3) := by decide +kernel
theorem dX8_asking_131 : decode cX8_asking 131 = .ok (.bipush 32, 2) := by decide +kernel
theorem dX8_asking_133 : decode cX8_asking 133 = .ok (.if_icmp .eq 9, 3) := by decide +kernel
theorem dX8_asking_136 : decode cX8_asking 136 = .ok (.aload_n 0, 1) := by decide +kernel
theorem dX8_asking_137 : decode cX8_asking 137 = .ok (.iconst 1, 1) := by decide +kernel
theorem dX8_asking_138 : decode cX8_asking 138 = .ok (.putfield 269, 3) := by decide +kernel
theorem dX8_asking_141 : decode cX8_asking 141 = .ok (.return_, 1) := by decide +kernel
theorem dX8_asking_142 : decode cX8_asking 142 = .ok (.aload_n 0, 1) := by decide +kernel
theorem dX8_asking_143 : decode cX8_asking 143 = .ok (.dup, 1) := by decide +kernel
theorem dX8_asking_144 : decode cX8_asking 144 = .ok (.getfield 251, 3) := by decide +kernel
theorem dX8_asking_147 : decode cX8_asking 147 = .ok (.iconst 1, 1) := by decide +kernel
theorem dX8_asking_148 : decode cX8_asking 148 = .ok (.iadd, 1) := by decide +kernel
theorem dX8_asking_149 : decode cX8_asking 149 = .ok (.putfield 251, 3) := by decide +kernel
theorem dX8_asking_152 : decode cX8_asking 152 = .ok (.aload_n 0, 1) := by decide +kernel
theorem dX8_asking_153 : decode cX8_asking 153 = .ok (.invokevirtual 275, 3) := by decide +kernel
theorem dX8_asking_156 : decode cX8_asking 156 = .ok (.aload_n 0, 1) := by decide +kernel
theorem dX8_asking_157 : decode cX8_asking 157 = .ok (.aload_n 0, 1) := by decide +kernel
theorem dX8_asking_158 : decode cX8_asking 158 = .ok (.getfield 254, 3) := by decide +kernel
theorem dX8_asking_161 : decode cX8_asking 161 = .ok (.iconst (-1), 1) := by decide +kernel
theorem dX8_asking_162 : decode cX8_asking 162 = .ok (.if_icmp .ne 7, 3) := by decide +kernel
theorem dX8_asking_165 : decode cX8_asking 165 = .ok (.iconst 1, 1) := by decide +kernel
theorem dX8_asking_166 : decode cX8_asking 166 = .ok (.goto 4, 3) := by decide +kernel
theorem dX8_asking_169 : decode cX8_asking 169 = .ok (.iconst 0, 1) := by decide +kernel
theorem dX8_asking_170 : decode cX8_asking 170 = .ok (.putfield 269, 3) := by decide +kernel
theorem dX8_asking_173 : decode cX8_asking 173 = .ok (.return_, 1) := by decide +kernel
theorem dX8_statement_0 : decode cX8_statement 0 = .ok (.aload_n 0, 1) := by decide +kernel
theorem dX8_statement_1 : decode cX8_statement 1 = .ok (.aload_n 0, 1) := by decide +kernel
theorem dX8_statement_2 : decode cX8_statement 2 = .ok (.invokevirtual 257, 3) := by decide +kernel
theorem dX8_statement_5 : decode cX8_statement 5 = .ok (.putfield 266, 3) := by decide +kernel
theorem dX8_statement_8 : decode cX8_statement 8 = .ok (.aload_n 0, 1) := by decide +kernel
theorem dX8_statement_9 : decode cX8_statement 9 = .ok (.getfield 266, 3) := by decide +kernel
theorem dX8_statement_12 : decode cX8_statement 12 = .ok (.bipush 43, 2) := by decide +kernel
theorem dX8_statement_14 : decode cX8_statement 14 = .ok (.if_icmp .eq 17, 3) := by decide +kernel
theorem dX8_statement_17 : decode cX8_statement 17 = .ok (.aload_n 0, 1) := by decide +kernel
theorem dX8_statement_18 : decode cX8_statement 18 = .ok (.getfield 266, 3) := by decide +kernel
theorem dX8_statement_21 : decode cX8_statement 21 = .ok (.bipush 45, 2) := by decide +kernel
theorem dX8_statement_23 : decode cX8_statement 23 = .ok (.if_icmp .eq 8, 3) := by decide +kernel
theorem dX8_statement_26 : decode cX8_statement 26 = .ok (.aload_n 0, 1) := by decide +kernel
theorem dX8_statement_27 : decode cX8_statement 27 = .ok (.invokevirtual 278, 3) := by decide +kernel
theorem dX8_statement_30 : decode cX8_statement 30 = .ok (.return_, 1) := by decide +kernel
theorem dX8_statement_31 : decode cX8_statement 31 = .ok (.aload_n 0, 1) := by decide +kernel
theorem dX8_statement_32 : decode cX8_statement 32 = .ok (.dup, 1) := by decide +kernel
theorem dX8_statement_33 : decode cX8_statement 33 = .ok (.getfield 251, 3) := by decide +kernel
theorem dX8_statement_36 : decode cX8_statement 36 = .ok (.iconst 1, 1) := by decide +kernel
theorem dX8_statement_37 : decode cX8_statement 37 = .ok (.iadd, 1) := by decide +kernel
theorem dX8_statement_38 : decode cX8_statement 38 = .ok (.putfield 251, 3) := by decide +kernel
theorem dX8_statement_41 : decode cX8_statement 41 = .ok (.aload_n 0, 1) := by decide +kernel
theorem dX8_statement_42 : decode cX8_statement 42 = .ok (.invokevirtual 275, 3) := by decide +kernel
theorem dX8_statement_45 : decode cX8_statement 45 = .ok (.return_, 1) := by decide +kernel
theorem dX8_modeTold_0 : decode cX8_modeTold 0 = .ok (.aload_n 0, 1) := by decide +kernel
theorem dX8_modeTold_1 : decode cX8_modeTold 1 = .ok (.getfield 266, 3) := by decide +kernel
theorem dX8_modeTold_4 : decode cX8_modeTold 4 = .ok (.bipush 115, 2) := by decide +kernel
theorem dX8_modeTold_6 : decode cX8_modeTold 6 = .ok (.if_icmp .ne 7, 3) := by decide +kernel
theorem dX8_modeTold_9 : decode cX8_modeTold 9 = .ok (.iconst 2, 1) := by decide +kernel
theorem dX8_modeTold_10 : decode cX8_modeTold 10 = .ok (.goto 17, 3) := by decide +kernel
theorem dX8_modeTold_13 : decode cX8_modeTold 13 = .ok (.aload_n 0, 1) := by decide +kernel
theorem dX8_modeTold_14 : decode cX8_modeTold 14 = .ok (.getfield 266, 3) := by decide +kernel
theorem dX8_modeTold_17 : decode cX8_modeTold 17 = .ok (.bipush 117, 2) := by decide +kernel
theorem dX8_modeTold_19 : decode cX8_modeTold 19 = .ok (.if_icmp .ne 7, 3) := by decide +kernel
theorem dX8_modeTold_22 : decode cX8_modeTold 22 = .ok (.iconst 4, 1) := by decide +kernel
theorem dX8_modeTold_23 : decode cX8_modeTold 23 = .ok (.goto 4, 3) := by decide +kernel
theorem dX8_modeTold_26 : decode cX8_modeTold 26 = .ok (.iconst 5, 1) := by decide +kernel
theorem dX8_modeTold_27 : decode cX8_modeTold 27 = .ok (.ireturn, 1) := by decide +kernel
theorem dX8_does_0 : decode cX8_does 0 = .ok (.aload_n 0, 1) := by decide +kernel
theorem dX8_does_1 : decode cX8_does 1 = .ok (.getfield 266, 3) := by decide +kernel
theorem dX8_does_4 : decode cX8_does 4 = .ok (.bipush 43, 2) := by decide +kernel
theorem dX8_does_6 : decode cX8_does 6 = .ok (.if_icmp .eq 12, 3) := by decide +kernel
theorem dX8_does_9 : decode cX8_does 9 = .ok (.aload_n 0, 1) := by decide +kernel
theorem dX8_does_10 : decode cX8_does 10 = .ok (.getfield 266, 3) := by decide +kernel
theorem dX8_does_13 : decode cX8_does 13 = .ok (.bipush 45, 2) := by decide +kernel
theorem dX8_does_15 : decode cX8_does 15 = .ok (.if_icmp .ne 26, 3) := by decide +kernel
theorem dX8_does_18 : decode cX8_does 18 = .ok (.aload_n 0, 1) := by decide +kernel
theorem dX8_does_19 : decode cX8_does 19 = .ok (.aload_n 0, 1) := by decide +kernel
theorem dX8_does_20 : decode cX8_does 20 = .ok (.getfield 254, 3) := by decide +kernel
theorem dX8_does_23 : decode cX8_does 23 = .ok (.aload_n 0, 1) := by decide +kernel
theorem dX8_does_24 : decode cX8_does 24 = .ok (.getfield 266, 3) := by decide +kernel
theorem dX8_does_27 : decode cX8_does 27 = .ok (.bipush 43, 2) := by decide +kernel
theorem dX8_does_29 : decode cX8_does 29 = .ok (.if_icmp .ne 7, 3) := by decide +kernel
theorem dX8_does_32 : decode cX8_does 32 = .ok (.iconst 0, 1) := by decide +kernel
theorem dX8_does_33 : decode cX8_does 33 = .ok (.goto 4, 3) := by decide +kernel
theorem dX8_does_36 : decode cX8_does 36 = .ok (.iconst 1, 1) := by decide +kernel
theorem dX8_does_37 : decode cX8_does 37 = .ok (.invokevirtual 281, 3) := by decide +kernel
theorem dX8_does_40 : decode cX8_does 40 = .ok (.ireturn, 1) := by decide +kernel
theorem dX8_does_41 : decode cX8_does 41 = .ok (.aload_n 0, 1) := by decide +kernel
theorem dX8_does_42 : decode cX8_does 42 = .ok (.getfield 263, 3) := by decide +kernel
theorem dX8_does_45 : decode cX8_does 45 = .ok (.ifCond .eq 22, 3) := by decide +kernel
theorem dX8_does_48 : decode cX8_does 48 = .ok (.aload_n 0, 1) := by decide +kernel
theorem dX8_does_49 : decode cX8_does 49 = .ok (.aload_n 0, 1) := by decide +kernel
theorem dX8_does_50 : decode cX8_does 50 = .ok (.getfield 272, 3) := by decide +kernel
theorem dX8_does_53 : decode cX8_does 53 = .ok (.aload_n 0, 1) := by decide +kernel
theorem dX8_does_54 : decode cX8_does 54 = .ok (.getfield 254, 3) := by decide +kernel
theorem dX8_does_57 : decode cX8_does 57 = .ok (.aload_n 0, 1) := by decide +kernel
theorem dX8_does_58 : decode cX8_does 58 = .ok (.invokevirtual 284, 3) := by decide +kernel
theorem dX8_does_61 : decode cX8_does 61 = .ok (.invokevirtual 287, 3) := by decide +kernel
theorem dX8_does_64 : decode cX8_does 64 = .ok (.goto 19, 3) := by decide +kernel
theorem dX8_does_67 : decode cX8_does 67 = .ok (.aload_n 0, 1) := by decide +kernel
theorem dX8_does_68 : decode cX8_does 68 = .ok (.aload_n 0, 1) := by decide +kernel
theorem dX8_does_69 : decode cX8_does 69 = .ok (.getfield 272, 3) := by decide +kernel
theorem dX8_does_72 : decode cX8_does 72 = .ok (.aload_n 0, 1) := by decide +kernel
theorem dX8_does_73 : decode cX8_does 73 = .ok (.getfield 254, 3) := by decide +kernel
theorem dX8_does_76 : decode cX8_does 76 = .ok (.aload_n 0, 1) := by decide +kernel
theorem dX8_does_77 : decode cX8_does 77 = .ok (.invokevirtual 284, 3) := by decide +kernel
theorem dX8_does_80 : decode cX8_does 80 = .ok (.invokevirtual 206, 3) := by decide +kernel
theorem dX8_does_83 : decode cX8_does 83 = .ok (.ireturn, 1) := by decide +kernel
theorem dX8_goesThrough_0 : decode cX8_goesThrough 0 = .ok (.aload_n 0, 1) := by decide +kernel
theorem dX8_goesThrough_1 : decode cX8_goesThrough 1 = .ok (.iconst 0, 1) := by decide +kernel
theorem dX8_goesThrough_2 : decode cX8_goesThrough 2 = .ok (.putfield 251, 3) := by decide +kernel
theorem dX8_goesThrough_5 : decode cX8_goesThrough 5 = .ok (.iconst 0, 1) := by decide +kernel
theorem dX8_goesThrough_6 : decode cX8_goesThrough 6 = .ok (.istore_n 2, 1) := by decide +kernel
theorem dX8_goesThrough_7 : decode cX8_goesThrough 7 = .ok (.aload_n 0, 1) := by decide +kernel
theorem dX8_goesThrough_8 : decode cX8_goesThrough 8 = .ok (.getfield 251, 3) := by decide +kernel
theorem dX8_goesThrough_11 : decode cX8_goesThrough 11 = .ok (.istore_n 3, 1) := by decide +kernel
theorem dX8_goesThrough_12 : decode cX8_goesThrough 12 = .ok (.aload_n 0, 1) := by decide +kernel
theorem dX8_goesThrough_13 : decode cX8_goesThrough 13 = .ok (.iconst 0, 1) := by decide +kernel
theorem dX8_goesThrough_14 : decode cX8_goesThrough 14 = .ok (.putfield 269, 3) := by decide +kernel
theorem dX8_goesThrough_17 : decode cX8_goesThrough 17 = .ok (.aload_n 0, 1) := by decide +kernel
theorem dX8_goesThrough_18 : decode cX8_goesThrough 18 = .ok (.invokevirtual 290, 3) := by decide +kernel
theorem dX8_goesThrough_21 : decode cX8_goesThrough 21 = .ok (.aload_n 0, 1) := by decide +kernel
theorem dX8_goesThrough_22 : decode cX8_goesThrough 22 = .ok (.getfield 269, 3) := by decide +kernel
theorem dX8_goesThrough_25 : decode cX8_goesThrough 25 = .ok (.ifCond .eq 12, 3) := by decide +kernel
theorem dX8_goesThrough_28 : decode cX8_goesThrough 28 = .ok (.sipush (-1000), 3) := by decide +kernel
theorem dX8_goesThrough_31 : decode cX8_goesThrough 31 = .ok (.aload_n 0, 1) := by decide +kernel
theorem dX8_goesThrough_32 : decode cX8_goesThrough 32 = .ok (.getfield 251, 3) := by decide +kernel
theorem dX8_goesThrough_35 : decode cX8_goesThrough 35 = .ok (.isub, 1) := by decide +kernel
theorem dX8_goesThrough_36 : decode cX8_goesThrough 36 = .ok (.ireturn, 1) := by decide +kernel
theorem dX8_goesThrough_37 : decode cX8_goesThrough 37 = .ok (.iload_n 1, 1) := by decide +kernel
theorem dX8_goesThrough_38 : decode cX8_goesThrough 38 = .ok (.ifCond .eq 16, 3) := by decide +kernel
theorem dX8_goesThrough_41 : decode cX8_goesThrough 41 = .ok (.aload_n 0, 1) := by decide +kernel
theorem dX8_goesThrough_42 : decode cX8_goesThrough 42 = .ok (.invokevirtual 293, 3) := by decide +kernel
theorem dX8_goesThrough_45 : decode cX8_goesThrough 45 = .ok (.ifCond .ge 9, 3) := by decide +kernel
theorem dX8_goesThrough_48 : decode cX8_goesThrough 48 = .ok (.sipush (-2000), 3) := by decide +kernel
theorem dX8_goesThrough_51 : decode cX8_goesThrough 51 = .ok (.iload_n 3, 1) := by decide +kernel
theorem dX8_goesThrough_52 : decode cX8_goesThrough 52 = .ok (.isub, 1) := by decide +kernel
theorem dX8_goesThrough_53 : decode cX8_goesThrough 53 = .ok (.ireturn, 1) := by decide +kernel
theorem dX8_goesThrough_54 : decode cX8_goesThrough 54 = .ok (.iinc 2 1, 3) := by decide +kernel
theorem dX8_goesThrough_57 : decode cX8_goesThrough 57 = .ok (.aload_n 0, 1) := by decide +kernel
theorem dX8_goesThrough_58 : decode cX8_goesThrough 58 = .ok (.getfield 251, 3) := by decide +kernel
theorem dX8_goesThrough_61 : decode cX8_goesThrough 61 = .ok (.aload_n 0, 1) := by decide +kernel
theorem dX8_goesThrough_62 : decode cX8_goesThrough 62 = .ok (.getfield 180, 3) := by decide +kernel
theorem dX8_goesThrough_65 : decode cX8_goesThrough 65 = .ok (.if_icmp .ne 5, 3) := by decide +kernel
theorem dX8_goesThrough_68 : decode cX8_goesThrough 68 = .ok (.iload_n 2, 1) := by decide +kernel
theorem dX8_goesThrough_69 : decode cX8_goesThrough 69 = .ok (.ireturn, 1) := by decide +kernel
theorem dX8_goesThrough_70 : decode cX8_goesThrough 70 = .ok (.aload_n 0, 1) := by decide +kernel
theorem dX8_goesThrough_71 : decode cX8_goesThrough 71 = .ok (.invokevirtual 257, 3) := by decide +kernel
theorem dX8_goesThrough_74 : decode cX8_goesThrough 74 = .ok (.bipush 59, 2) := by decide +kernel
theorem dX8_goesThrough_76 : decode cX8_goesThrough 76 = .ok (.if_icmp .eq 12, 3) := by decide +kernel
theorem dX8_goesThrough_79 : decode cX8_goesThrough 79 = .ok (.sipush (-1000), 3) := by decide +kernel
theorem dX8_goesThrough_82 : decode cX8_goesThrough 82 = .ok (.aload_n 0, 1) := by decide +kernel
theorem dX8_goesThrough_83 : decode cX8_goesThrough 83 = .ok (.getfield 251, 3) := by decide +kernel
theorem dX8_goesThrough_86 : decode cX8_goesThrough 86 = .ok (.isub, 1) := by decide +kernel
theorem dX8_goesThrough_87 : decode cX8_goesThrough 87 = .ok (.ireturn, 1) := by decide +kernel
theorem dX8_goesThrough_88 : decode cX8_goesThrough 88 = .ok (.aload_n 0, 1) := by decide +kernel
theorem dX8_goesThrough_89 : decode cX8_goesThrough 89 = .ok (.dup, 1) := by decide +kernel
theorem dX8_goesThrough_90 : decode cX8_goesThrough 90 = .ok (.getfield 251, 3) := by decide +kernel
theorem dX8_goesThrough_93 : decode cX8_goesThrough 93 = .ok (.iconst 1, 1) := by decide +kernel
theorem dX8_goesThrough_94 : decode cX8_goesThrough 94 = .ok (.iadd, 1) := by decide +kernel
theorem dX8_goesThrough_95 : decode cX8_goesThrough 95 = .ok (.putfield 251, 3) := by decide +kernel
theorem dX8_goesThrough_98 : decode cX8_goesThrough 98 = .ok (.goto (-91), 3) := by decide +kernel
theorem dX8_reads_0 : decode cX8_reads 0 = .ok (.aload_n 0, 1) := by decide +kernel
theorem dX8_reads_1 : decode cX8_reads 1 = .ok (.getfield 180, 3) := by decide +kernel
theorem dX8_reads_4 : decode cX8_reads 4 = .ok (.ifCond .ne 9, 3) := by decide +kernel
theorem dX8_reads_7 : decode cX8_reads 7 = .ok (.sipush (-1000), 3) := by decide +kernel
theorem dX8_reads_10 : decode cX8_reads 10 = .ok (.goto 8, 3) := by decide +kernel
theorem dX8_reads_13 : decode cX8_reads 13 = .ok (.aload_n 0, 1) := by decide +kernel
theorem dX8_reads_14 : decode cX8_reads 14 = .ok (.iconst 0, 1) := by decide +kernel
theorem dX8_reads_15 : decode cX8_reads 15 = .ok (.invokevirtual 296, 3) := by decide +kernel
theorem dX8_reads_18 : decode cX8_reads 18 = .ok (.istore_n 1, 1) := by decide +kernel
theorem dX8_reads_19 : decode cX8_reads 19 = .ok (.iload_n 1, 1) := by decide +kernel
theorem dX8_reads_20 : decode cX8_reads 20 = .ok (.ifCond .le 45, 3) := by decide +kernel
theorem dX8_reads_23 : decode cX8_reads 23 = .ok (.aload_n 0, 1) := by decide +kernel
theorem dX8_reads_24 : decode cX8_reads 24 = .ok (.getfield 15, 3) := by decide +kernel
theorem dX8_reads_27 : decode cX8_reads 27 = .ok (.aload_n 0, 1) := by decide +kernel
theorem dX8_reads_28 : decode cX8_reads 28 = .ok (.getfield 22, 3) := by decide +kernel
theorem dX8_reads_31 : decode cX8_reads 31 = .ok (.invokestatic 52, 3) := by decide +kernel
theorem dX8_reads_34 : decode cX8_reads 34 = .ok (.aload_n 0, 1) := by decide +kernel
theorem dX8_reads_35 : decode cX8_reads 35 = .ok (.getfield 56, 3) := by decide +kernel
theorem dX8_reads_38 : decode cX8_reads 38 = .ok (.istore_n 2, 1) := by decide +kernel
theorem dX8_reads_39 : decode cX8_reads 39 = .ok (.aload_n 0, 1) := by decide +kernel
theorem dX8_reads_40 : decode cX8_reads 40 = .ok (.iconst 1, 1) := by decide +kernel
theorem dX8_reads_41 : decode cX8_reads 41 = .ok (.invokevirtual 296, 3) := by decide +kernel
theorem dX8_reads_44 : decode cX8_reads 44 = .ok (.istore_n 1, 1) := by decide +kernel
theorem dX8_reads_45 : decode cX8_reads 45 = .ok (.iload_n 1, 1) := by decide +kernel
theorem dX8_reads_46 : decode cX8_reads 46 = .ok (.ifCond .ge 19, 3) := by decide +kernel
theorem dX8_reads_49 : decode cX8_reads 49 = .ok (.aload_n 0, 1) := by decide +kernel
theorem dX8_reads_50 : decode cX8_reads 50 = .ok (.getfield 22, 3) := by decide +kernel
theorem dX8_reads_53 : decode cX8_reads 53 = .ok (.aload_n 0, 1) := by decide +kernel
theorem dX8_reads_54 : decode cX8_reads 54 = .ok (.getfield 15, 3) := by decide +kernel
theorem dX8_reads_57 : decode cX8_reads 57 = .ok (.invokestatic 52, 3) := by decide +kernel
theorem dX8_reads_60 : decode cX8_reads 60 = .ok (.aload_n 0, 1) := by decide +kernel
theorem dX8_reads_61 : decode cX8_reads 61 = .ok (.iload_n 2, 1) := by decide +kernel
theorem dX8_reads_62 : decode cX8_reads 62 = .ok (.putfield 56, 3) := by decide +kernel
theorem dX8_reads_65 : decode cX8_reads 65 = .ok (.aload_n 0, 1) := by decide +kernel
theorem dX8_reads_66 : decode cX8_reads 66 = .ok (.iconst 0, 1) := by decide +kernel
theorem dX8_reads_67 : decode cX8_reads 67 = .ok (.putfield 180, 3) := by decide +kernel
theorem dX8_reads_70 : decode cX8_reads 70 = .ok (.iload_n 1, 1) := by decide +kernel
theorem dX8_reads_71 : decode cX8_reads 71 = .ok (.ireturn, 1) := by decide +kernel
theorem dX8_writes_0 : decode cX8_writes 0 = .ok (.aload_n 0, 1) := by decide +kernel
theorem dX8_writes_1 : decode cX8_writes 1 = .ok (.getfield 40, 3) := by decide +kernel
theorem dX8_writes_4 : decode cX8_writes 4 = .ok (.aload_n 0, 1) := by decide +kernel
theorem dX8_writes_5 : decode cX8_writes 5 = .ok (.getfield 183, 3) := by decide +kernel
theorem dX8_writes_8 : decode cX8_writes 8 = .ok (.iload_n 1, 1) := by decide +kernel
theorem dX8_writes_9 : decode cX8_writes 9 = .ok (.iastore, 1) := by decide +kernel
theorem dX8_writes_10 : decode cX8_writes 10 = .ok (.aload_n 0, 1) := by decide +kernel
theorem dX8_writes_11 : decode cX8_writes 11 = .ok (.dup, 1) := by decide +kernel
theorem dX8_writes_12 : decode cX8_writes 12 = .ok (.getfield 183, 3) := by decide +kernel
theorem dX8_writes_15 : decode cX8_writes 15 = .ok (.iconst 1, 1) := by decide +kernel
theorem dX8_writes_16 : decode cX8_writes 16 = .ok (.iadd, 1) := by decide +kernel
theorem dX8_writes_17 : decode cX8_writes 17 = .ok (.putfield 183, 3) := by decide +kernel
theorem dX8_writes_20 : decode cX8_writes 20 = .ok (.return_, 1) := by decide +kernel
theorem dX8_writesNumber_0 : decode cX8_writesNumber 0 = .ok (.iload_n 1, 1) := by decide +kernel
theorem dX8_writesNumber_1 : decode cX8_writesNumber 1 = .ok (.bipush 9, 2) := by decide +kernel
theorem dX8_writesNumber_3 : decode cX8_writesNumber 3 = .ok (.if_icmp .le 11, 3) := by decide +kernel
theorem dX8_writesNumber_6 : decode cX8_writesNumber 6 = .ok (.aload_n 0, 1) := by decide +kernel
theorem dX8_writesNumber_7 : decode cX8_writesNumber 7 = .ok (.iload_n 1, 1) := by decide +kernel
theorem dX8_writesNumber_8 : decode cX8_writesNumber 8 = .ok (.bipush 10, 2) := by decide +kernel
theorem dX8_writesNumber_10 : decode cX8_writesNumber 10 = .ok (.idiv, 1) := by decide +kernel
theorem dX8_writesNumber_11 : decode cX8_writesNumber 11 = .ok (.invokevirtual 300, 3) := by decide +kernel
theorem dX8_writesNumber_14 : decode cX8_writesNumber 14 = .ok (.aload_n 0, 1) := by decide +kernel
theorem dX8_writesNumber_15 : decode cX8_writesNumber 15 = .ok (.bipush 48, 2) := by decide +kernel
theorem dX8_writesNumber_17 : decode cX8_writesNumber 17 = .ok (.iload_n 1, 1) := by decide +kernel
theorem dX8_writesNumber_18 : decode cX8_writesNumber 18 = .ok (.bipush 10, 2) := by decide +kernel
theorem dX8_writesNumber_20 : decode cX8_writesNumber 20 = .ok (.irem, 1) := by decide +kernel
theorem dX8_writesNumber_21 : decode cX8_writesNumber 21 = .ok (.iadd, 1) := by decide +kernel
theorem dX8_writesNumber_22 : decode cX8_writesNumber 22 = .ok (.invokevirtual 303, 3) := by decide +kernel
theorem dX8_writesNumber_25 : decode cX8_writesNumber 25 = .ok (.return_, 1) := by decide +kernel
theorem dX8_letterOf_0 : decode cX8_letterOf 0 = .ok (.iload_n 0, 1) := by decide +kernel
theorem dX8_letterOf_1 : decode cX8_letterOf 1 = .ok (.iconst 1, 1) := by decide +kernel
theorem dX8_letterOf_2 : decode cX8_letterOf 2 = .ok (.if_icmp .ne 8, 3) := by decide +kernel
theorem dX8_letterOf_5 : decode cX8_letterOf 5 = .ok (.bipush 108, 2) := by decide +kernel
theorem dX8_letterOf_7 : decode cX8_letterOf 7 = .ok (.goto 35, 3) := by decide +kernel
theorem dX8_letterOf_10 : decode cX8_letterOf 10 = .ok (.iload_n 0, 1) := by decide +kernel
theorem dX8_letterOf_11 : decode cX8_letterOf 11 = .ok (.iconst 2, 1) := by decide +kernel
theorem dX8_letterOf_12 : decode cX8_letterOf 12 = .ok (.if_icmp .ne 8, 3) := by decide +kernel
theorem dX8_letterOf_15 : decode cX8_letterOf 15 = .ok (.bipush 115, 2) := by decide +kernel
theorem dX8_letterOf_17 : decode cX8_letterOf 17 = .ok (.goto 25, 3) := by decide +kernel
theorem dX8_letterOf_20 : decode cX8_letterOf 20 = .ok (.iload_n 0, 1) := by decide +kernel
theorem dX8_letterOf_21 : decode cX8_letterOf 21 = .ok (.iconst 3, 1) := by decide +kernel
theorem dX8_letterOf_22 : decode cX8_letterOf 22 = .ok (.if_icmp .ne 8, 3) := by decide +kernel
theorem dX8_letterOf_25 : decode cX8_letterOf 25 = .ok (.bipush 109, 2) := by decide +kernel
theorem dX8_letterOf_27 : decode cX8_letterOf 27 = .ok (.goto 15, 3) := by decide +kernel
theorem dX8_letterOf_30 : decode cX8_letterOf 30 = .ok (.iload_n 0, 1) := by decide +kernel
theorem dX8_letterOf_31 : decode cX8_letterOf 31 = .ok (.iconst 4, 1) := by decide +kernel
theorem dX8_letterOf_32 : decode cX8_letterOf 32 = .ok (.if_icmp .ne 8, 3) := by decide +kernel
theorem dX8_letterOf_35 : decode cX8_letterOf 35 = .ok (.bipush 117, 2) := by decide +kernel
theorem dX8_letterOf_37 : decode cX8_letterOf 37 = .ok (.goto 5, 3) := by decide +kernel
theorem dX8_letterOf_40 : decode cX8_letterOf 40 = .ok (.bipush 111, 2) := by decide +kernel
theorem dX8_letterOf_42 : decode cX8_letterOf 42 = .ok (.ireturn, 1) := by decide +kernel
theorem dX8_writesHold_0 : decode cX8_writesHold 0 = .ok (.aload_n 0, 1) := by decide +kernel
theorem dX8_writesHold_1 : decode cX8_writesHold 1 = .ok (.iload_n 1, 1) := by decide +kernel
theorem dX8_writesHold_2 : decode cX8_writesHold 2 = .ok (.invokevirtual 300, 3) := by decide +kernel
theorem dX8_writesHold_5 : decode cX8_writesHold 5 = .ok (.aload_n 0, 1) := by decide +kernel
theorem dX8_writesHold_6 : decode cX8_writesHold 6 = .ok (.bipush 58, 2) := by decide +kernel
theorem dX8_writesHold_8 : decode cX8_writesHold 8 = .ok (.invokevirtual 303, 3) := by decide +kernel
theorem dX8_writesHold_11 : decode cX8_writesHold 11 = .ok (.aload_n 0, 1) := by decide +kernel
theorem dX8_writesHold_12 : decode cX8_writesHold 12 = .ok (.bipush 48, 2) := by decide +kernel
theorem dX8_writesHold_14 : decode cX8_writesHold 14 = .ok (.iload_n 2, 1) := by decide +kernel
theorem dX8_writesHold_15 : decode cX8_writesHold 15 = .ok (.iadd, 1) := by decide +kernel
theorem dX8_writesHold_16 : decode cX8_writesHold 16 = .ok (.invokevirtual 303, 3) := by decide +kernel
theorem dX8_writesHold_19 : decode cX8_writesHold 19 = .ok (.aload_n 0, 1) := by decide +kernel
theorem dX8_writesHold_20 : decode cX8_writesHold 20 = .ok (.iload_n 3, 1) := by decide +kernel
theorem dX8_writesHold_21 : decode cX8_writesHold 21 = .ok (.invokestatic 306, 3) := by decide +kernel
theorem dX8_writesHold_24 : decode cX8_writesHold 24 = .ok (.invokevirtual 303, 3) := by decide +kernel
theorem dX8_writesHold_27 : decode cX8_writesHold 27 = .ok (.iload 4, 2) := by decide +kernel
theorem dX8_writesHold_29 : decode cX8_writesHold 29 = .ok (.iconst 1, 1) := by decide +kernel
theorem dX8_writesHold_30 : decode cX8_writesHold 30 = .ok (.if_icmp .le 15, 3) := by decide +kernel
theorem dX8_writesHold_33 : decode cX8_writesHold 33 = .ok (.aload_n 0, 1) := by decide +kernel
theorem dX8_writesHold_34 : decode cX8_writesHold 34 = .ok (.bipush 120, 2) := by decide +kernel
theorem dX8_writesHold_36 : decode cX8_writesHold 36 = .ok (.invokevirtual 303, 3) := by decide +kernel
theorem dX8_writesHold_39 : decode cX8_writesHold 39 = .ok (.aload_n 0, 1) := by decide +kernel
theorem dX8_writesHold_40 : decode cX8_writesHold 40 = .ok (.iload 4, 2) := by decide +kernel
theorem dX8_writesHold_42 : decode cX8_writesHold 42 = .ok (.invokevirtual 300, 3) := by decide +kernel
theorem dX8_writesHold_45 : decode cX8_writesHold 45 = .ok (.aload_n 0, 1) := by decide +kernel
theorem dX8_writesHold_46 : decode cX8_writesHold 46 = .ok (.bipush 32, 2) := by decide +kernel
theorem dX8_writesHold_48 : decode cX8_writesHold 48 = .ok (.invokevirtual 303, 3) := by decide +kernel
theorem dX8_writesHold_51 : decode cX8_writesHold 51 = .ok (.return_, 1) := by decide +kernel
theorem dX8_spells_0 : decode cX8_spells 0 = .ok (.aload_n 0, 1) := by decide +kernel
theorem dX8_spells_1 : decode cX8_spells 1 = .ok (.iconst 0, 1) := by decide +kernel
theorem dX8_spells_2 : decode cX8_spells 2 = .ok (.putfield 183, 3) := by decide +kernel
theorem dX8_spells_5 : decode cX8_spells 5 = .ok (.iconst 0, 1) := by decide +kernel
theorem dX8_spells_6 : decode cX8_spells 6 = .ok (.istore_n 1, 1) := by decide +kernel
theorem dX8_spells_7 : decode cX8_spells 7 = .ok (.iload_n 1, 1) := by decide +kernel
theorem dX8_spells_8 : decode cX8_spells 8 = .ok (.aload_n 0, 1) := by decide +kernel
theorem dX8_spells_9 : decode cX8_spells 9 = .ok (.getfield 15, 3) := by decide +kernel
theorem dX8_spells_12 : decode cX8_spells 12 = .ok (.iconst 0, 1) := by decide +kernel
theorem dX8_spells_13 : decode cX8_spells 13 = .ok (.iaload, 1) := by decide +kernel
theorem dX8_spells_14 : decode cX8_spells 14 = .ok (.if_icmp .ge 63, 3) := by decide +kernel
theorem dX8_spells_17 : decode cX8_spells 17 = .ok (.iconst 0, 1) := by decide +kernel
theorem dX8_spells_18 : decode cX8_spells 18 = .ok (.istore_n 2, 1) := by decide +kernel
theorem dX8_spells_19 : decode cX8_spells 19 = .ok (.iload_n 2, 1) := by decide +kernel
theorem dX8_spells_20 : decode cX8_spells 20 = .ok (.bipush 6, 2) := by decide +kernel
theorem dX8_spells_22 : decode cX8_spells 22 = .ok (.if_icmp .ge 49, 3) := by decide +kernel
theorem dX8_spells_25 : decode cX8_spells 25 = .ok (.iconst 1, 1) := by decide +kernel
theorem dX8_spells_26 : decode cX8_spells 26 = .ok (.istore_n 3, 1) := by decide +kernel
theorem dX8_spells_27 : decode cX8_spells 27 = .ok (.iload_n 3, 1) := by decide +kernel
theorem dX8_spells_28 : decode cX8_spells 28 = .ok (.iconst 5, 1) := by decide +kernel
theorem dX8_spells_29 : decode cX8_spells 29 = .ok (.if_icmp .gt 36, 3) := by decide +kernel
theorem dX8_spells_32 : decode cX8_spells 32 = .ok (.aload_n 0, 1) := by decide +kernel
theorem dX8_spells_33 : decode cX8_spells 33 = .ok (.getfield 15, 3) := by decide +kernel
theorem dX8_spells_36 : decode cX8_spells 36 = .ok (.iload_n 2, 1) := by decide +kernel
theorem dX8_spells_37 : decode cX8_spells 37 = .ok (.iload_n 1, 1) := by decide +kernel
theorem dX8_spells_38 : decode cX8_spells 38 = .ok (.iload_n 3, 1) := by decide +kernel
theorem dX8_spells_39 : decode cX8_spells 39 = .ok (.invokestatic 84, 3) := by decide +kernel
theorem dX8_spells_42 : decode cX8_spells 42 = .ok (.iaload, 1) := by decide +kernel
theorem dX8_spells_43 : decode cX8_spells 43 = .ok (.istore 4, 2) := by decide +kernel
theorem dX8_spells_45 : decode cX8_spells 45 = .ok (.iload 4, 2) := by decide +kernel
theorem dX8_spells_47 : decode cX8_spells 47 = .ok (.ifCond .le 12, 3) := by decide +kernel
theorem dX8_spells_50 : decode cX8_spells 50 = .ok (.aload_n 0, 1) := by decide +kernel
theorem dX8_spells_51 : decode cX8_spells 51 = .ok (.iload_n 1, 1) := by decide +kernel
theorem dX8_spells_52 : decode cX8_spells 52 = .ok (.iload_n 2, 1) := by decide +kernel
theorem dX8_spells_53 : decode cX8_spells 53 = .ok (.iload_n 3, 1) := by decide +kernel
theorem dX8_spells_54 : decode cX8_spells 54 = .ok (.iload 4, 2) := by decide +kernel
theorem dX8_spells_56 : decode cX8_spells 56 = .ok (.invokevirtual 309, 3) := by decide +kernel
theorem dX8_spells_59 : decode cX8_spells 59 = .ok (.iinc 3 1, 3) := by decide +kernel
theorem dX8_spells_62 : decode cX8_spells 62 = .ok (.goto (-35), 3) := by decide +kernel
theorem dX8_spells_65 : decode cX8_spells 65 = .ok (.iinc 2 1, 3) := by decide +kernel
theorem dX8_spells_68 : decode cX8_spells 68 = .ok (.goto (-49), 3) := by decide +kernel
theorem dX8_spells_71 : decode cX8_spells 71 = .ok (.iinc 1 1, 3) := by decide +kernel
theorem dX8_spells_74 : decode cX8_spells 74 = .ok (.goto (-67), 3) := by decide +kernel
theorem dX8_spells_77 : decode cX8_spells 77 = .ok (.aload_n 0, 1) := by decide +kernel
theorem dX8_spells_78 : decode cX8_spells 78 = .ok (.getfield 183, 3) := by decide +kernel
theorem dX8_spells_81 : decode cX8_spells 81 = .ok (.ireturn, 1) := by decide +kernel
theorem dX8_paper_0 : decode cX8_paper 0 = .ok (.iload_n 1, 1) := by decide +kernel
theorem dX8_paper_1 : decode cX8_paper 1 = .ok (.ifCond .ge 7, 3) := by decide +kernel
theorem dX8_paper_4 : decode cX8_paper 4 = .ok (.iconst (-1), 1) := by decide +kernel
theorem dX8_paper_5 : decode cX8_paper 5 = .ok (.goto 22, 3) := by decide +kernel
theorem dX8_paper_8 : decode cX8_paper 8 = .ok (.iload_n 1, 1) := by decide +kernel
theorem dX8_paper_9 : decode cX8_paper 9 = .ok (.aload_n 0, 1) := by decide +kernel
theorem dX8_paper_10 : decode cX8_paper 10 = .ok (.getfield 183, 3) := by decide +kernel
theorem dX8_paper_13 : decode cX8_paper 13 = .ok (.if_icmp .ge 12, 3) := by decide +kernel
theorem dX8_paper_16 : decode cX8_paper 16 = .ok (.aload_n 0, 1) := by decide +kernel
theorem dX8_paper_17 : decode cX8_paper 17 = .ok (.getfield 40, 3) := by decide +kernel
theorem dX8_paper_20 : decode cX8_paper 20 = .ok (.iload_n 1, 1) := by decide +kernel
theorem dX8_paper_21 : decode cX8_paper 21 = .ok (.iaload, 1) := by decide +kernel
theorem dX8_paper_22 : decode cX8_paper 22 = .ok (.goto 5, 3) := by decide +kernel
theorem dX8_paper_25 : decode cX8_paper 25 = .ok (.bipush (-2), 2) := by decide +kernel
theorem dX8_paper_27 : decode cX8_paper 27 = .ok (.ireturn, 1) := by decide +kernel
theorem dX8_isList_0 : decode cX8_isList 0 = .ok (.iload_n 0, 1) := by decide +kernel
theorem dX8_isList_1 : decode cX8_isList 1 = .ok (.iconst 0, 1) := by decide +kernel
theorem dX8_isList_2 : decode cX8_isList 2 = .ok (.iconst 2, 1) := by decide +kernel
theorem dX8_isList_3 : decode cX8_isList 3 = .ok (.invokestatic 62, 3) := by decide +kernel
theorem dX8_isList_6 : decode cX8_isList 6 = .ok (.ireturn, 1) := by decide +kernel
theorem dX8_list_0 : decode cX8_list 0 = .ok (.iload_n 1, 1) := by decide +kernel
theorem dX8_list_1 : decode cX8_list 1 = .ok (.invokestatic 312, 3) := by decide +kernel
theorem dX8_list_4 : decode cX8_list 4 = .ok (.ifCond .eq 9, 3) := by decide +kernel
theorem dX8_list_7 : decode cX8_list 7 = .ok (.iload_n 2, 1) := by decide +kernel
theorem dX8_list_8 : decode cX8_list 8 = .ok (.bipush 36, 2) := by decide +kernel
theorem dX8_list_10 : decode cX8_list 10 = .ok (.if_icmp .le 5, 3) := by decide +kernel
theorem dX8_list_13 : decode cX8_list 13 = .ok (.iconst (-1), 1) := by decide +kernel
theorem dX8_list_14 : decode cX8_list 14 = .ok (.ireturn, 1) := by decide +kernel
theorem dX8_list_15 : decode cX8_list 15 = .ok (.iload_n 2, 1) := by decide +kernel
theorem dX8_list_16 : decode cX8_list 16 = .ok (.ifCond .ge 6, 3) := by decide +kernel
theorem dX8_list_19 : decode cX8_list 19 = .ok (.bipush (-14), 2) := by decide +kernel
theorem dX8_list_21 : decode cX8_list 21 = .ok (.ireturn, 1) := by decide +kernel
theorem dX8_list_22 : decode cX8_list 22 = .ok (.aload_n 0, 1) := by decide +kernel
theorem dX8_list_23 : decode cX8_list 23 = .ok (.getfield 43, 3) := by decide +kernel
theorem dX8_list_26 : decode cX8_list 26 = .ok (.iload_n 1, 1) := by decide +kernel
theorem dX8_list_27 : decode cX8_list 27 = .ok (.iload_n 2, 1) := by decide +kernel
theorem dX8_list_28 : decode cX8_list 28 = .ok (.iastore, 1) := by decide +kernel
theorem dX8_list_29 : decode cX8_list 29 = .ok (.iconst 0, 1) := by decide +kernel
theorem dX8_list_30 : decode cX8_list 30 = .ok (.istore_n 3, 1) := by decide +kernel
theorem dX8_list_31 : decode cX8_list 31 = .ok (.iload_n 3, 1) := by decide +kernel
theorem dX8_list_32 : decode cX8_list 32 = .ok (.bipush 36, 2) := by decide +kernel
theorem dX8_list_34 : decode cX8_list 34 = .ok (.if_icmp .ge 21, 3) := by decide +kernel
theorem dX8_list_37 : decode cX8_list 37 = .ok (.aload_n 0, 1) := by decide +kernel
theorem dX8_list_38 : decode cX8_list 38 = .ok (.getfield 46, 3) := by decide +kernel
theorem dX8_list_41 : decode cX8_list 41 = .ok (.bipush 36, 2) := by decide +kernel
theorem dX8_list_43 : decode cX8_list 43 = .ok (.iload_n 1, 1) := by decide +kernel
theorem dX8_list_44 : decode cX8_list 44 = .ok (.imul, 1) := by decide +kernel
theorem dX8_list_45 : decode cX8_list 45 = .ok (.iload_n 3, 1) := by decide +kernel
theorem dX8_list_46 : decode cX8_list 46 = .ok (.iadd, 1) := by decide +kernel
theorem dX8_list_47 : decode cX8_list 47 = .ok (.iconst 0, 1) := by decide +kernel
theorem dX8_list_48 : decode cX8_list 48 = .ok (.iastore, 1) := by decide +kernel
theorem dX8_list_49 : decode cX8_list 49 = .ok (.iinc 3 1, 3) := by decide +kernel
theorem dX8_list_52 : decode cX8_list 52 = .ok (.goto (-21), 3) := by decide +kernel
theorem dX8_list_55 : decode cX8_list 55 = .ok (.iconst 1, 1) := by decide +kernel
theorem dX8_list_56 : decode cX8_list 56 = .ok (.ireturn, 1) := by decide +kernel
theorem dX8_set_0 : decode cX8_set 0 = .ok (.iload_n 1, 1) := by decide +kernel
theorem dX8_set_1 : decode cX8_set 1 = .ok (.invokestatic 312, 3) := by decide +kernel
theorem dX8_set_4 : decode cX8_set 4 = .ok (.ifCond .ne 5, 3) := by decide +kernel
theorem dX8_set_7 : decode cX8_set 7 = .ok (.iconst (-1), 1) := by decide +kernel
theorem dX8_set_8 : decode cX8_set 8 = .ok (.ireturn, 1) := by decide +kernel
theorem dX8_set_9 : decode cX8_set 9 = .ok (.aload_n 0, 1) := by decide +kernel
theorem dX8_set_10 : decode cX8_set 10 = .ok (.getfield 43, 3) := by decide +kernel
theorem dX8_set_13 : decode cX8_set 13 = .ok (.iload_n 1, 1) := by decide +kernel
theorem dX8_set_14 : decode cX8_set 14 = .ok (.iaload, 1) := by decide +kernel
theorem dX8_set_15 : decode cX8_set 15 = .ok (.ifCond .ge 6, 3) := by decide +kernel
theorem dX8_set_18 : decode cX8_set 18 = .ok (.bipush (-11), 2) := by decide +kernel
theorem dX8_set_20 : decode cX8_set 20 = .ok (.ireturn, 1) := by decide +kernel
theorem dX8_set_21 : decode cX8_set 21 = .ok (.iload_n 2, 1) := by decide +kernel
theorem dX8_set_22 : decode cX8_set 22 = .ok (.iconst 0, 1) := by decide +kernel
theorem dX8_set_23 : decode cX8_set 23 = .ok (.aload_n 0, 1) := by decide +kernel
theorem dX8_set_24 : decode cX8_set 24 = .ok (.getfield 43, 3) := by decide +kernel
theorem dX8_set_27 : decode cX8_set 27 = .ok (.iload_n 1, 1) := by decide +kernel
theorem dX8_set_28 : decode cX8_set 28 = .ok (.iaload, 1) := by decide +kernel
theorem dX8_set_29 : decode cX8_set 29 = .ok (.iconst 1, 1) := by decide +kernel
theorem dX8_set_30 : decode cX8_set 30 = .ok (.isub, 1) := by decide +kernel
theorem dX8_set_31 : decode cX8_set 31 = .ok (.invokestatic 62, 3) := by decide +kernel
theorem dX8_set_34 : decode cX8_set 34 = .ok (.ifCond .ne 6, 3) := by decide +kernel
theorem dX8_set_37 : decode cX8_set 37 = .ok (.bipush (-13), 2) := by decide +kernel
theorem dX8_set_39 : decode cX8_set 39 = .ok (.ireturn, 1) := by decide +kernel
theorem dX8_set_40 : decode cX8_set 40 = .ok (.aload_n 0, 1) := by decide +kernel
theorem dX8_set_41 : decode cX8_set 41 = .ok (.getfield 46, 3) := by decide +kernel
theorem dX8_set_44 : decode cX8_set 44 = .ok (.bipush 36, 2) := by decide +kernel
theorem dX8_set_46 : decode cX8_set 46 = .ok (.iload_n 1, 1) := by decide +kernel
theorem dX8_set_47 : decode cX8_set 47 = .ok (.imul, 1) := by decide +kernel
theorem dX8_set_48 : decode cX8_set 48 = .ok (.iload_n 2, 1) := by decide +kernel
theorem dX8_set_49 : decode cX8_set 49 = .ok (.iadd, 1) := by decide +kernel
theorem dX8_set_50 : decode cX8_set 50 = .ok (.iload_n 3, 1) := by decide +kernel
theorem dX8_set_51 : decode cX8_set 51 = .ok (.iastore, 1) := by decide +kernel
theorem dX8_set_52 : decode cX8_set 52 = .ok (.iconst 1, 1) := by decide +kernel
theorem dX8_set_53 : decode cX8_set 53 = .ok (.ireturn, 1) := by decide +kernel
theorem dX8_get_0 : decode cX8_get 0 = .ok (.iload_n 1, 1) := by decide +kernel
theorem dX8_get_1 : decode cX8_get 1 = .ok (.invokestatic 312, 3) := by decide +kernel
theorem dX8_get_4 : decode cX8_get 4 = .ok (.ifCond .eq 34, 3) := by decide +kernel
theorem dX8_get_7 : decode cX8_get 7 = .ok (.iload_n 2, 1) := by decide +kernel
theorem dX8_get_8 : decode cX8_get 8 = .ok (.iconst 0, 1) := by decide +kernel
theorem dX8_get_9 : decode cX8_get 9 = .ok (.aload_n 0, 1) := by decide +kernel
theorem dX8_get_10 : decode cX8_get 10 = .ok (.getfield 43, 3) := by decide +kernel
theorem dX8_get_13 : decode cX8_get 13 = .ok (.iload_n 1, 1) := by decide +kernel
theorem dX8_get_14 : decode cX8_get 14 = .ok (.iaload, 1) := by decide +kernel
theorem dX8_get_15 : decode cX8_get 15 = .ok (.iconst 1, 1) := by decide +kernel
theorem dX8_get_16 : decode cX8_get 16 = .ok (.isub, 1) := by decide +kernel
theorem dX8_get_17 : decode cX8_get 17 = .ok (.invokestatic 62, 3) := by decide +kernel
theorem dX8_get_20 : decode cX8_get 20 = .ok (.ifCond .eq 18, 3) := by decide +kernel
theorem dX8_get_23 : decode cX8_get 23 = .ok (.aload_n 0, 1) := by decide +kernel
theorem dX8_get_24 : decode cX8_get 24 = .ok (.getfield 46, 3) := by decide +kernel
theorem dX8_get_27 : decode cX8_get 27 = .ok (.bipush 36, 2) := by decide +kernel
theorem dX8_get_29 : decode cX8_get 29 = .ok (.iload_n 1, 1) := by decide +kernel
theorem dX8_get_30 : decode cX8_get 30 = .ok (.imul, 1) := by decide +kernel
theorem dX8_get_31 : decode cX8_get 31 = .ok (.iload_n 2, 1) := by decide +kernel
theorem dX8_get_32 : decode cX8_get 32 = .ok (.iadd, 1) := by decide +kernel
theorem dX8_get_33 : decode cX8_get 33 = .ok (.iaload, 1) := by decide +kernel
theorem dX8_get_34 : decode cX8_get 34 = .ok (.i2l, 1) := by decide +kernel
theorem dX8_get_35 : decode cX8_get 35 = .ok (.goto 6, 3) := by decide +kernel
theorem dX8_get_38 : decode cX8_get 38 = .ok (.ldc2_w 315, 3) := by decide +kernel
theorem dX8_get_41 : decode cX8_get 41 = .ok (.lreturn, 1) := by decide +kernel
theorem dX8_does__0 : decode cX8_does_ 0 = .ok (.iload_n 1, 1) := by decide +kernel
theorem dX8_does__1 : decode cX8_does_ 1 = .ok (.invokestatic 312, 3) := by decide +kernel
theorem dX8_does__4 : decode cX8_does_ 4 = .ok (.ifCond .eq 7, 3) := by decide +kernel
theorem dX8_does__7 : decode cX8_does_ 7 = .ok (.iload_n 2, 1) := by decide +kernel
theorem dX8_does__8 : decode cX8_does_ 8 = .ok (.ifCond .ge 5, 3) := by decide +kernel
theorem dX8_does__11 : decode cX8_does_ 11 = .ok (.iconst (-1), 1) := by decide +kernel
theorem dX8_does__12 : decode cX8_does_ 12 = .ok (.ireturn, 1) := by decide +kernel
theorem dX8_does__13 : decode cX8_does_ 13 = .ok (.aload_n 0, 1) := by decide +kernel
theorem dX8_does__14 : decode cX8_does_ 14 = .ok (.getfield 43, 3) := by decide +kernel
theorem dX8_does__17 : decode cX8_does_ 17 = .ok (.iload_n 1, 1) := by decide +kernel
theorem dX8_does__18 : decode cX8_does_ 18 = .ok (.iaload, 1) := by decide +kernel
theorem dX8_does__19 : decode cX8_does_ 19 = .ok (.ifCond .ge 6, 3) := by decide +kernel
theorem dX8_does__22 : decode cX8_does_ 22 = .ok (.bipush (-11), 2) := by decide +kernel
theorem dX8_does__24 : decode cX8_does_ 24 = .ok (.ireturn, 1) := by decide +kernel
theorem dX8_does__25 : decode cX8_does_ 25 = .ok (.iconst 0, 1) := by decide +kernel
theorem dX8_does__26 : decode cX8_does_ 26 = .ok (.istore_n 3, 1) := by decide +kernel
theorem dX8_does__27 : decode cX8_does_ 27 = .ok (.iload_n 2, 1) := by decide +kernel
theorem dX8_does__28 : decode cX8_does_ 28 = .ok (.istore 4, 2) := by decide +kernel
theorem dX8_does__30 : decode cX8_does_ 30 = .ok (.iload 4, 2) := by decide +kernel
theorem dX8_does__32 : decode cX8_does_ 32 = .ok (.aload_n 0, 1) := by decide +kernel
theorem dX8_does__33 : decode cX8_does_ 33 = .ok (.getfield 43, 3) := by decide +kernel
theorem dX8_does__36 : decode cX8_does_ 36 = .ok (.iload_n 1, 1) := by decide +kernel
theorem dX8_does__37 : decode cX8_does_ 37 = .ok (.iaload, 1) := by decide +kernel
theorem dX8_does__38 : decode cX8_does_ 38 = .ok (.iconst 2, 1) := by decide +kernel
theorem dX8_does__39 : decode cX8_does_ 39 = .ok (.isub, 1) := by decide +kernel
theorem dX8_does__40 : decode cX8_does_ 40 = .ok (.if_icmp .ge 58, 3) := by decide +kernel
theorem dX8_does__43 : decode cX8_does_ 43 = .ok (.bipush 36, 2) := by decide +kernel
theorem dX8_does__45 : decode cX8_does_ 45 = .ok (.iload_n 1, 1) := by decide +kernel
theorem dX8_does__46 : decode cX8_does_ 46 = .ok (.imul, 1) := by decide +kernel
theorem dX8_does__47 : decode cX8_does_ 47 = .ok (.iload 4, 2) := by decide +kernel
theorem dX8_does__49 : decode cX8_does_ 49 = .ok (.iadd, 1) := by decide +kernel
theorem dX8_does__50 : decode cX8_does_ 50 = .ok (.istore 5, 2) := by decide +kernel
theorem dX8_does__52 : decode cX8_does_ 52 = .ok (.iload_n 3, 1) := by decide +kernel
theorem dX8_does__53 : decode cX8_does_ 53 = .ok (.aload_n 0, 1) := by decide +kernel
theorem dX8_does__54 : decode cX8_does_ 54 = .ok (.aload_n 0, 1) := by decide +kernel
theorem dX8_does__55 : decode cX8_does_ 55 = .ok (.getfield 46, 3) := by decide +kernel
theorem dX8_does__58 : decode cX8_does_ 58 = .ok (.iload 5, 2) := by decide +kernel
theorem dX8_does__60 : decode cX8_does_ 60 = .ok (.iaload, 1) := by decide +kernel
theorem dX8_does__61 : decode cX8_does_ 61 = .ok (.aload_n 0, 1) := by decide +kernel
theorem dX8_does__62 : decode cX8_does_ 62 = .ok (.getfield 46, 3) := by decide +kernel
theorem dX8_does__65 : decode cX8_does_ 65 = .ok (.iload 5, 2) := by decide +kernel
theorem dX8_does__67 : decode cX8_does_ 67 = .ok (.iconst 1, 1) := by decide +kernel
theorem dX8_does__68 : decode cX8_does_ 68 = .ok (.iadd, 1) := by decide +kernel
theorem dX8_does__69 : decode cX8_does_ 69 = .ok (.iaload, 1) := by decide +kernel
theorem dX8_does__70 : decode cX8_does_ 70 = .ok (.aload_n 0, 1) := by decide +kernel
theorem dX8_does__71 : decode cX8_does_ 71 = .ok (.getfield 46, 3) := by decide +kernel
theorem dX8_does__74 : decode cX8_does_ 74 = .ok (.iload 5, 2) := by decide +kernel
theorem dX8_does__76 : decode cX8_does_ 76 = .ok (.iconst 2, 1) := by decide +kernel
theorem dX8_does__77 : decode cX8_does_ 77 = .ok (.iadd, 1) := by decide +kernel
theorem dX8_does__78 : decode cX8_does_ 78 = .ok (.iaload, 1) := by decide +kernel
theorem dX8_does__79 : decode cX8_does_ 79 = .ok (.invokevirtual 206, 3) := by decide +kernel
theorem dX8_does__82 : decode cX8_does_ 82 = .ok (.ifCond .lt 7, 3) := by decide +kernel
theorem dX8_does__85 : decode cX8_does_ 85 = .ok (.iconst 1, 1) := by decide +kernel
theorem dX8_does__86 : decode cX8_does_ 86 = .ok (.goto 4, 3) := by decide +kernel
theorem dX8_does__89 : decode cX8_does_ 89 = .ok (.iconst 0, 1) := by decide +kernel
theorem dX8_does__90 : decode cX8_does_ 90 = .ok (.iadd, 1) := by decide +kernel
theorem dX8_does__91 : decode cX8_does_ 91 = .ok (.istore_n 3, 1) := by decide +kernel
theorem dX8_does__92 : decode cX8_does_ 92 = .ok (.iinc 4 3, 3) := by decide +kernel
theorem dX8_does__95 : decode cX8_does_ 95 = .ok (.goto (-65), 3) := by decide +kernel
theorem dX8_does__98 : decode cX8_does_ 98 = .ok (.iload_n 3, 1) := by decide +kernel
theorem dX8_does__99 : decode cX8_does_ 99 = .ok (.ireturn, 1) := by decide +kernel
theorem dX8_into_0 : decode cX8_into 0 = .ok (.aload_n 0, 1) := by decide +kernel
theorem dX8_into_1 : decode cX8_into 1 = .ok (.iload_n 1, 1) := by decide +kernel
theorem dX8_into_2 : decode cX8_into 2 = .ok (.invokevirtual 70, 3) := by decide +kernel
theorem dX8_into_5 : decode cX8_into 5 = .ok (.ifCond .eq 10, 3) := by decide +kernel
theorem dX8_into_8 : decode cX8_into 8 = .ok (.iload_n 2, 1) := by decide +kernel
theorem dX8_into_9 : decode cX8_into 9 = .ok (.invokestatic 312, 3) := by decide +kernel
theorem dX8_into_12 : decode cX8_into 12 = .ok (.ifCond .ne 5, 3) := by decide +kernel
theorem dX8_into_15 : decode cX8_into 15 = .ok (.iconst (-1), 1) := by decide +kernel
theorem dX8_into_16 : decode cX8_into 16 = .ok (.ireturn, 1) := by decide +kernel
theorem dX8_into_17 : decode cX8_into 17 = .ok (.aload_n 0, 1) := by decide +kernel
theorem dX8_into_18 : decode cX8_into 18 = .ok (.getfield 43, 3) := by decide +kernel
theorem dX8_into_21 : decode cX8_into 21 = .ok (.iload_n 2, 1) := by decide +kernel
theorem dX8_into_22 : decode cX8_into 22 = .ok (.iaload, 1) := by decide +kernel
theorem dX8_into_23 : decode cX8_into 23 = .ok (.ifCond .ge 6, 3) := by decide +kernel
theorem dX8_into_26 : decode cX8_into 26 = .ok (.bipush (-11), 2) := by decide +kernel
theorem dX8_into_28 : decode cX8_into 28 = .ok (.ireturn, 1) := by decide +kernel
theorem dX8_into_29 : decode cX8_into 29 = .ok (.iload_n 3, 1) := by decide +kernel
theorem dX8_into_30 : decode cX8_into 30 = .ok (.ifCond .ge 6, 3) := by decide +kernel
theorem dX8_into_33 : decode cX8_into 33 = .ok (.bipush (-13), 2) := by decide +kernel
theorem dX8_into_35 : decode cX8_into 35 = .ok (.ireturn, 1) := by decide +kernel
theorem dX8_into_36 : decode cX8_into 36 = .ok (.iconst 0, 1) := by decide +kernel
theorem dX8_into_37 : decode cX8_into 37 = .ok (.istore 4, 2) := by decide +kernel
theorem dX8_into_39 : decode cX8_into 39 = .ok (.iload 4, 2) := by decide +kernel
theorem dX8_into_41 : decode cX8_into 41 = .ok (.bipush 30, 2) := by decide +kernel
theorem dX8_into_43 : decode cX8_into 43 = .ok (.if_icmp .ge 55, 3) := by decide +kernel
theorem dX8_into_46 : decode cX8_into 46 = .ok (.iload_n 3, 1) := by decide +kernel
theorem dX8_into_47 : decode cX8_into 47 = .ok (.aload_n 0, 1) := by decide +kernel
theorem dX8_into_48 : decode cX8_into 48 = .ok (.getfield 43, 3) := by decide +kernel
theorem dX8_into_51 : decode cX8_into 51 = .ok (.iload_n 2, 1) := by decide +kernel
theorem dX8_into_52 : decode cX8_into 52 = .ok (.iaload, 1) := by decide +kernel
theorem dX8_into_53 : decode cX8_into 53 = .ok (.iload 4, 2) := by decide +kernel
theorem dX8_into_55 : decode cX8_into 55 = .ok (.isub, 1) := by decide +kernel
theorem dX8_into_56 : decode cX8_into 56 = .ok (.if_icmp .ge 42, 3) := by decide +kernel
theorem dX8_into_59 : decode cX8_into 59 = .ok (.aload_n 0, 1) := by decide +kernel
theorem dX8_into_60 : decode cX8_into 60 = .ok (.getfield 46, 3) := by decide +kernel
theorem dX8_into_63 : decode cX8_into 63 = .ok (.bipush 36, 2) := by decide +kernel
theorem dX8_into_65 : decode cX8_into 65 = .ok (.iload_n 2, 1) := by decide +kernel
theorem dX8_into_66 : decode cX8_into 66 = .ok (.imul, 1) := by decide +kernel
theorem dX8_into_67 : decode cX8_into 67 = .ok (.iload_n 3, 1) := by decide +kernel
theorem dX8_into_68 : decode cX8_into 68 = .ok (.iadd, 1) := by decide +kernel
theorem dX8_into_69 : decode cX8_into 69 = .ok (.iload 4, 2) := by decide +kernel
theorem dX8_into_71 : decode cX8_into 71 = .ok (.iadd, 1) := by decide +kernel
theorem dX8_into_72 : decode cX8_into 72 = .ok (.aload_n 0, 1) := by decide +kernel
theorem dX8_into_73 : decode cX8_into 73 = .ok (.getfield 15, 3) := by decide +kernel
theorem dX8_into_76 : decode cX8_into 76 = .ok (.iload 4, 2) := by decide +kernel
theorem dX8_into_78 : decode cX8_into 78 = .ok (.iconst 5, 1) := by decide +kernel
theorem dX8_into_79 : decode cX8_into 79 = .ok (.idiv, 1) := by decide +kernel
theorem dX8_into_80 : decode cX8_into 80 = .ok (.iload_n 1, 1) := by decide +kernel
theorem dX8_into_81 : decode cX8_into 81 = .ok (.iload 4, 2) := by decide +kernel
theorem dX8_into_83 : decode cX8_into 83 = .ok (.iconst 5, 1) := by decide +kernel
theorem dX8_into_84 : decode cX8_into 84 = .ok (.irem, 1) := by decide +kernel
theorem dX8_into_85 : decode cX8_into 85 = .ok (.iconst 1, 1) := by decide +kernel
theorem dX8_into_86 : decode cX8_into 86 = .ok (.iadd, 1) := by decide +kernel
theorem dX8_into_87 : decode cX8_into 87 = .ok (.invokestatic 84, 3) := by decide +kernel
theorem dX8_into_90 : decode cX8_into 90 = .ok (.iaload, 1) := by decide +kernel
theorem dX8_into_91 : decode cX8_into 91 = .ok (.iastore, 1) := by decide +kernel
theorem dX8_into_92 : decode cX8_into 92 = .ok (.iinc 4 1, 3) := by decide +kernel
theorem dX8_into_95 : decode cX8_into 95 = .ok (.goto (-56), 3) := by decide +kernel
theorem dX8_into_98 : decode cX8_into 98 = .ok (.iload 4, 2) := by decide +kernel
theorem dX8_into_100 : decode cX8_into 100 = .ok (.ireturn, 1) := by decide +kernel
theorem dX8_image_0 : decode cX8_image 0 = .ok (.aload_n 0, 1) := by decide +kernel
theorem dX8_image_1 : decode cX8_image 1 = .ok (.getfield 15, 3) := by decide +kernel
theorem dX8_image_4 : decode cX8_image 4 = .ok (.aload_n 0, 1) := by decide +kernel
theorem dX8_image_5 : decode cX8_image 5 = .ok (.getfield 49, 3) := by decide +kernel
theorem dX8_image_8 : decode cX8_image 8 = .ok (.invokestatic 52, 3) := by decide +kernel
theorem dX8_image_11 : decode cX8_image 11 = .ok (.aload_n 0, 1) := by decide +kernel
theorem dX8_image_12 : decode cX8_image 12 = .ok (.iconst 1, 1) := by decide +kernel
theorem dX8_image_13 : decode cX8_image 13 = .ok (.putfield 317, 3) := by decide +kernel
theorem dX8_image_16 : decode cX8_image 16 = .ok (.aload_n 0, 1) := by decide +kernel
theorem dX8_image_17 : decode cX8_image 17 = .ok (.getfield 15, 3) := by decide +kernel
theorem dX8_image_20 : decode cX8_image 20 = .ok (.iconst 0, 1) := by decide +kernel
theorem dX8_image_21 : decode cX8_image 21 = .ok (.iaload, 1) := by decide +kernel
theorem dX8_image_22 : decode cX8_image 22 = .ok (.ireturn, 1) := by decide +kernel
theorem dX8_back_0 : decode cX8_back 0 = .ok (.aload_n 0, 1) := by decide +kernel
theorem dX8_back_1 : decode cX8_back 1 = .ok (.getfield 317, 3) := by decide +kernel
theorem dX8_back_4 : decode cX8_back 4 = .ok (.ifCond .ne 6, 3) := by decide +kernel
theorem dX8_back_7 : decode cX8_back 7 = .ok (.bipush (-5), 2) := by decide +kernel
theorem dX8_back_9 : decode cX8_back 9 = .ok (.ireturn, 1) := by decide +kernel
theorem dX8_back_10 : decode cX8_back 10 = .ok (.aload_n 0, 1) := by decide +kernel
theorem dX8_back_11 : decode cX8_back 11 = .ok (.getfield 49, 3) := by decide +kernel
theorem dX8_back_14 : decode cX8_back 14 = .ok (.aload_n 0, 1) := by decide +kernel
theorem dX8_back_15 : decode cX8_back 15 = .ok (.getfield 15, 3) := by decide +kernel
theorem dX8_back_18 : decode cX8_back 18 = .ok (.invokestatic 52, 3) := by decide +kernel
theorem dX8_back_21 : decode cX8_back 21 = .ok (.aload_n 0, 1) := by decide +kernel
theorem dX8_back_22 : decode cX8_back 22 = .ok (.getfield 15, 3) := by decide +kernel
theorem dX8_back_25 : decode cX8_back 25 = .ok (.iconst 0, 1) := by decide +kernel
theorem dX8_back_26 : decode cX8_back 26 = .ok (.iaload, 1) := by decide +kernel
theorem dX8_back_27 : decode cX8_back 27 = .ok (.ireturn, 1) := by decide +kernel
theorem dL_law_0 : decode cL_law 0 = .ok (.new 7, 3) := by decide +kernel
theorem dL_law_3 : decode cL_law 3 = .ok (.dup, 1) := by decide +kernel
theorem dL_law_4 : decode cL_law 4 = .ok (.invokespecial 9, 3) := by decide +kernel
theorem dL_law_7 : decode cL_law 7 = .ok (.astore_n 1, 1) := by decide +kernel
theorem dL_law_8 : decode cL_law 8 = .ok (.new 10, 3) := by decide +kernel
theorem dL_law_11 : decode cL_law 11 = .ok (.dup, 1) := by decide +kernel
theorem dL_law_12 : decode cL_law 12 = .ok (.invokespecial 12, 3) := by decide +kernel
theorem dL_law_15 : decode cL_law 15 = .ok (.astore_n 2, 1) := by decide +kernel
theorem dL_law_16 : decode cL_law 16 = .ok (.iconst 0, 1) := by decide +kernel
theorem dL_law_17 : decode cL_law 17 = .ok (.istore_n 3, 1) := by decide +kernel
theorem dL_law_18 : decode cL_law 18 = .ok (.iload_n 3, 1) := by decide +kernel
theorem dL_law_19 : decode cL_law 19 = .ok (.aload_n 0, 1) := by decide +kernel
theorem dL_law_20 : decode cL_law 20 = .ok (.arraylength, 1) := by decide +kernel
theorem dL_law_21 : decode cL_law 21 = .ok (.iconst 4, 1) := by decide +kernel
theorem dL_law_22 : decode cL_law 22 = .ok (.isub, 1) := by decide +kernel
theorem dL_law_23 : decode cL_law 23 = .ok (.if_icmp .gt 1217, 3) := by decide +kernel
theorem dL_law_26 : decode cL_law 26 = .ok (.aload_n 0, 1) := by decide +kernel
theorem dL_law_27 : decode cL_law 27 = .ok (.iload_n 3, 1) := by decide +kernel
theorem dL_law_28 : decode cL_law 28 = .ok (.iaload, 1) := by decide +kernel
theorem dL_law_29 : decode cL_law 29 = .ok (.bipush 63, 2) := by decide +kernel
theorem dL_law_31 : decode cL_law 31 = .ok (.iand, 1) := by decide +kernel
theorem dL_law_32 : decode cL_law 32 = .ok (.tableswitch 1202 0 34 #[156, 189, 222, 265, 308, 331, 354, 367, 410, 443, 466, 489, 512, 535, 558, 601, 644, 677, 720, 743, 786, 809, 852, 885, 918, 941, 954, 967, 990, 1023, 1066, 1100, 1133, 1176, 1189], 156) := by decide +kernel
theorem dL_law_188 : decode cL_law 188 = .ok (.aload_n 1, 1) := by decide +kernel
theorem dL_law_189 : decode cL_law 189 = .ok (.aload_n 0, 1) := by decide +kernel
theorem dL_law_190 : decode cL_law 190 = .ok (.iload_n 3, 1) := by decide +kernel
theorem dL_law_191 : decode cL_law 191 = .ok (.iconst 1, 1) := by decide +kernel
theorem dL_law_192 : decode cL_law 192 = .ok (.iadd, 1) := by decide +kernel
theorem dL_law_193 : decode cL_law 193 = .ok (.iaload, 1) := by decide +kernel
theorem dL_law_194 : decode cL_law 194 = .ok (.aload_n 0, 1) := by decide +kernel
theorem dL_law_195 : decode cL_law 195 = .ok (.iload_n 3, 1) := by decide +kernel
theorem dL_law_196 : decode cL_law 196 = .ok (.iconst 2, 1) := by decide +kernel
theorem dL_law_197 : decode cL_law 197 = .ok (.iadd, 1) := by decide +kernel
theorem dL_law_198 : decode cL_law 198 = .ok (.iaload, 1) := by decide +kernel
theorem dL_law_199 : decode cL_law 199 = .ok (.invokevirtual 13, 3) := by decide +kernel
theorem dL_law_202 : decode cL_law 202 = .ok (.aload_n 2, 1) := by decide +kernel
theorem dL_law_203 : decode cL_law 203 = .ok (.aload_n 0, 1) := by decide +kernel
theorem dL_law_204 : decode cL_law 204 = .ok (.iload_n 3, 1) := by decide +kernel
theorem dL_law_205 : decode cL_law 205 = .ok (.iconst 1, 1) := by decide +kernel
theorem dL_law_206 : decode cL_law 206 = .ok (.iadd, 1) := by decide +kernel
theorem dL_law_207 : decode cL_law 207 = .ok (.iaload, 1) := by decide +kernel
theorem dL_law_208 : decode cL_law 208 = .ok (.aload_n 0, 1) := by decide +kernel
theorem dL_law_209 : decode cL_law 209 = .ok (.iload_n 3, 1) := by decide +kernel
theorem dL_law_210 : decode cL_law 210 = .ok (.iconst 2, 1) := by decide +kernel
theorem dL_law_211 : decode cL_law 211 = .ok (.iadd, 1) := by decide +kernel
theorem dL_law_212 : decode cL_law 212 = .ok (.iaload, 1) := by decide +kernel
theorem dL_law_213 : decode cL_law 213 = .ok (.invokevirtual 17, 3) := by decide +kernel
theorem dL_law_216 : decode cL_law 216 = .ok (.if_icmp .eq 1018, 3) := by decide +kernel
theorem dL_law_219 : decode cL_law 219 = .ok (.iconst 0, 1) := by decide +kernel
theorem dL_law_220 : decode cL_law 220 = .ok (.ireturn, 1) := by decide +kernel
theorem dL_law_221 : decode cL_law 221 = .ok (.aload_n 1, 1) := by decide +kernel
theorem dL_law_222 : decode cL_law 222 = .ok (.aload_n 0, 1) := by decide +kernel
theorem dL_law_223 : decode cL_law 223 = .ok (.iload_n 3, 1) := by decide +kernel
theorem dL_law_224 : decode cL_law 224 = .ok (.iconst 1, 1) := by decide +kernel
theorem dL_law_225 : decode cL_law 225 = .ok (.iadd, 1) := by decide +kernel
theorem dL_law_226 : decode cL_law 226 = .ok (.iaload, 1) := by decide +kernel
theorem dL_law_227 : decode cL_law 227 = .ok (.aload_n 0, 1) := by decide +kernel
theorem dL_law_228 : decode cL_law 228 = .ok (.iload_n 3, 1) := by decide +kernel
theorem dL_law_229 : decode cL_law 229 = .ok (.iconst 2, 1) := by decide +kernel
theorem dL_law_230 : decode cL_law 230 = .ok (.iadd, 1) := by decide +kernel
theorem dL_law_231 : decode cL_law 231 = .ok (.iaload, 1) := by decide +kernel
theorem dL_law_232 : decode cL_law 232 = .ok (.invokevirtual 18, 3) := by decide +kernel
theorem dL_law_235 : decode cL_law 235 = .ok (.aload_n 2, 1) := by decide +kernel
theorem dL_law_236 : decode cL_law 236 = .ok (.aload_n 0, 1) := by decide +kernel
theorem dL_law_237 : decode cL_law 237 = .ok (.iload_n 3, 1) := by decide +kernel
theorem dL_law_238 : decode cL_law 238 = .ok (.iconst 1, 1) := by decide +kernel
theorem dL_law_239 : decode cL_law 239 = .ok (.iadd, 1) := by decide +kernel
theorem dL_law_240 : decode cL_law 240 = .ok (.iaload, 1) := by decide +kernel
theorem dL_law_241 : decode cL_law 241 = .ok (.aload_n 0, 1) := by decide +kernel
theorem dL_law_242 : decode cL_law 242 = .ok (.iload_n 3, 1) := by decide +kernel
theorem dL_law_243 : decode cL_law 243 = .ok (.iconst 2, 1) := by decide +kernel
theorem dL_law_244 : decode cL_law 244 = .ok (.iadd, 1) := by decide +kernel
theorem dL_law_245 : decode cL_law 245 = .ok (.iaload, 1) := by decide +kernel
theorem dL_law_246 : decode cL_law 246 = .ok (.invokevirtual 21, 3) := by decide +kernel
theorem dL_law_249 : decode cL_law 249 = .ok (.if_icmp .eq 985, 3) := by decide +kernel
theorem dL_law_252 : decode cL_law 252 = .ok (.iconst 0, 1) := by decide +kernel
theorem dL_law_253 : decode cL_law 253 = .ok (.ireturn, 1) := by decide +kernel
theorem dL_law_254 : decode cL_law 254 = .ok (.aload_n 1, 1) := by decide +kernel
theorem dL_law_255 : decode cL_law 255 = .ok (.aload_n 0, 1) := by decide +kernel
theorem dL_law_256 : decode cL_law 256 = .ok (.iload_n 3, 1) := by decide +kernel
theorem dL_law_257 : decode cL_law 257 = .ok (.iconst 1, 1) := by decide +kernel
theorem dL_law_258 : decode cL_law 258 = .ok (.iadd, 1) := by decide +kernel
theorem dL_law_259 : decode cL_law 259 = .ok (.iaload, 1) := by decide +kernel
theorem dL_law_260 : decode cL_law 260 = .ok (.aload_n 0, 1) := by decide +kernel
theorem dL_law_261 : decode cL_law 261 = .ok (.iload_n 3, 1) := by decide +kernel
theorem dL_law_262 : decode cL_law 262 = .ok (.iconst 2, 1) := by decide +kernel
theorem dL_law_263 : decode cL_law 263 = .ok (.iadd, 1) := by decide +kernel
theorem dL_law_264 : decode cL_law 264 = .ok (.iaload, 1) := by decide +kernel
theorem dL_law_265 : decode cL_law 265 = .ok (.aload_n 0, 1) := by decide +kernel
theorem dL_law_266 : decode cL_law 266 = .ok (.iload_n 3, 1) := by decide +kernel
theorem dL_law_267 : decode cL_law 267 = .ok (.iconst 3, 1) := by decide +kernel
theorem dL_law_268 : decode cL_law 268 = .ok (.iadd, 1) := by decide +kernel
theorem dL_law_269 : decode cL_law 269 = .ok (.iaload, 1) := by decide +kernel
theorem dL_law_270 : decode cL_law 270 = .ok (.invokevirtual 22, 3) := by decide +kernel
theorem dL_law_273 : decode cL_law 273 = .ok (.aload_n 2, 1) := by decide +kernel
theorem dL_law_274 : decode cL_law 274 = .ok (.aload_n 0, 1) := by decide +kernel
theorem dL_law_275 : decode cL_law 275 = .ok (.iload_n 3, 1) := by decide +kernel
theorem dL_law_276 : decode cL_law 276 = .ok (.iconst 1, 1) := by decide +kernel
theorem dL_law_277 : decode cL_law 277 = .ok (.iadd, 1) := by decide +kernel
theorem dL_law_278 : decode cL_law 278 = .ok (.iaload, 1) := by decide +kernel
theorem dL_law_279 : decode cL_law 279 = .ok (.aload_n 0, 1) := by decide +kernel
theorem dL_law_280 : decode cL_law 280 = .ok (.iload_n 3, 1) := by decide +kernel
theorem dL_law_281 : decode cL_law 281 = .ok (.iconst 2, 1) := by decide +kernel
theorem dL_law_282 : decode cL_law 282 = .ok (.iadd, 1) := by decide +kernel
theorem dL_law_283 : decode cL_law 283 = .ok (.iaload, 1) := by decide +kernel
theorem dL_law_284 : decode cL_law 284 = .ok (.aload_n 0, 1) := by decide +kernel
theorem dL_law_285 : decode cL_law 285 = .ok (.iload_n 3, 1) := by decide +kernel
theorem dL_law_286 : decode cL_law 286 = .ok (.iconst 3, 1) := by decide +kernel
theorem dL_law_287 : decode cL_law 287 = .ok (.iadd, 1) := by decide +kernel
theorem dL_law_288 : decode cL_law 288 = .ok (.iaload, 1) := by decide +kernel
theorem dL_law_289 : decode cL_law 289 = .ok (.invokevirtual 26, 3) := by decide +kernel
theorem dL_law_292 : decode cL_law 292 = .ok (.if_icmp .eq 942, 3) := by decide +kernel
theorem dL_law_295 : decode cL_law 295 = .ok (.iconst 0, 1) := by decide +kernel
theorem dL_law_296 : decode cL_law 296 = .ok (.ireturn, 1) := by decide +kernel
theorem dL_law_297 : decode cL_law 297 = .ok (.aload_n 1, 1) := by decide +kernel
theorem dL_law_298 : decode cL_law 298 = .ok (.aload_n 0, 1) := by decide +kernel
theorem dL_law_299 : decode cL_law 299 = .ok (.iload_n 3, 1) := by decide +kernel
theorem dL_law_300 : decode cL_law 300 = .ok (.iconst 1, 1) := by decide +kernel
theorem dL_law_301 : decode cL_law 301 = .ok (.iadd, 1) := by decide +kernel
theorem dL_law_302 : decode cL_law 302 = .ok (.iaload, 1) := by decide +kernel
theorem dL_law_303 : decode cL_law 303 = .ok (.aload_n 0, 1) := by decide +kernel
theorem dL_law_304 : decode cL_law 304 = .ok (.iload_n 3, 1) := by decide +kernel
theorem dL_law_305 : decode cL_law 305 = .ok (.iconst 2, 1) := by decide +kernel
theorem dL_law_306 : decode cL_law 306 = .ok (.iadd, 1) := by decide +kernel
theorem dL_law_307 : decode cL_law 307 = .ok (.iaload, 1) := by decide +kernel
theorem dL_law_308 : decode cL_law 308 = .ok (.aload_n 0, 1) := by decide +kernel
theorem dL_law_309 : decode cL_law 309 = .ok (.iload_n 3, 1) := by decide +kernel
theorem dL_law_310 : decode cL_law 310 = .ok (.iconst 3, 1) := by decide +kernel
theorem dL_law_311 : decode cL_law 311 = .ok (.iadd, 1) := by decide +kernel
theorem dL_law_312 : decode cL_law 312 = .ok (.iaload, 1) := by decide +kernel
theorem dL_law_313 : decode cL_law 313 = .ok (.invokevirtual 27, 3) := by decide +kernel
theorem dL_law_316 : decode cL_law 316 = .ok (.aload_n 2, 1) := by decide +kernel
theorem dL_law_317 : decode cL_law 317 = .ok (.aload_n 0, 1) := by decide +kernel
theorem dL_law_318 : decode cL_law 318 = .ok (.iload_n 3, 1) := by decide +kernel
theorem dL_law_319 : decode cL_law 319 = .ok (.iconst 1, 1) := by decide +kernel
theorem dL_law_320 : decode cL_law 320 = .ok (.iadd, 1) := by decide +kernel
theorem dL_law_321 : decode cL_law 321 = .ok (.iaload, 1) := by decide +kernel
theorem dL_law_322 : decode cL_law 322 = .ok (.aload_n 0, 1) := by decide +kernel
theorem dL_law_323 : decode cL_law 323 = .ok (.iload_n 3, 1) := by decide +kernel
theorem dL_law_324 : decode cL_law 324 = .ok (.iconst 2, 1) := by decide +kernel
theorem dL_law_325 : decode cL_law 325 = .ok (.iadd, 1) := by decide +kernel
theorem dL_law_326 : decode cL_law 326 = .ok (.iaload, 1) := by decide +kernel
theorem dL_law_327 : decode cL_law 327 = .ok (.aload_n 0, 1) := by decide +kernel
theorem dL_law_328 : decode cL_law 328 = .ok (.iload_n 3, 1) := by decide +kernel
theorem dL_law_329 : decode cL_law 329 = .ok (.iconst 3, 1) := by decide +kernel
theorem dL_law_330 : decode cL_law 330 = .ok (.iadd, 1) := by decide +kernel
theorem dL_law_331 : decode cL_law 331 = .ok (.iaload, 1) := by decide +kernel
theorem dL_law_332 : decode cL_law 332 = .ok (.invokevirtual 30, 3) := by decide +kernel
theorem dL_law_335 : decode cL_law 335 = .ok (.if_icmp .eq 899, 3) := by decide +kernel
theorem dL_law_338 : decode cL_law 338 = .ok (.iconst 0, 1) := by decide +kernel
theorem dL_law_339 : decode cL_law 339 = .ok (.ireturn, 1) := by decide +kernel
theorem dL_law_340 : decode cL_law 340 = .ok (.aload_n 1, 1) := by decide +kernel
theorem dL_law_341 : decode cL_law 341 = .ok (.aload_n 0, 1) := by decide +kernel
theorem dL_law_342 : decode cL_law 342 = .ok (.iload_n 3, 1) := by decide +kernel
theorem dL_law_343 : decode cL_law 343 = .ok (.iconst 1, 1) := by decide +kernel
theorem dL_law_344 : decode cL_law 344 = .ok (.iadd, 1) := by decide +kernel
theorem dL_law_345 : decode cL_law 345 = .ok (.iaload, 1) := by decide +kernel
theorem dL_law_346 : decode cL_law 346 = .ok (.invokevirtual 31, 3) := by decide +kernel
theorem dL_law_349 : decode cL_law 349 = .ok (.aload_n 2, 1) := by decide +kernel
theorem dL_law_350 : decode cL_law 350 = .ok (.aload_n 0, 1) := by decide +kernel
theorem dL_law_351 : decode cL_law 351 = .ok (.iload_n 3, 1) := by decide +kernel
theorem dL_law_352 : decode cL_law 352 = .ok (.iconst 1, 1) := by decide +kernel
theorem dL_law_353 : decode cL_law 353 = .ok (.iadd, 1) := by decide +kernel
theorem dL_law_354 : decode cL_law 354 = .ok (.iaload, 1) := by decide +kernel
theorem dL_law_355 : decode cL_law 355 = .ok (.invokevirtual 35, 3) := by decide +kernel
theorem dL_law_358 : decode cL_law 358 = .ok (.if_icmp .eq 876, 3) := by decide +kernel
theorem dL_law_361 : decode cL_law 361 = .ok (.iconst 0, 1) := by decide +kernel
theorem dL_law_362 : decode cL_law 362 = .ok (.ireturn, 1) := by decide +kernel
theorem dL_law_363 : decode cL_law 363 = .ok (.aload_n 1, 1) := by decide +kernel
theorem dL_law_364 : decode cL_law 364 = .ok (.aload_n 0, 1) := by decide +kernel
theorem dL_law_365 : decode cL_law 365 = .ok (.iload_n 3, 1) := by decide +kernel
theorem dL_law_366 : decode cL_law 366 = .ok (.iconst 1, 1) := by decide +kernel
theorem dL_law_367 : decode cL_law 367 = .ok (.iadd, 1) := by decide +kernel
theorem dL_law_368 : decode cL_law 368 = .ok (.iaload, 1) := by decide +kernel
theorem dL_law_369 : decode cL_law 369 = .ok (.invokevirtual 36, 3) := by decide +kernel
theorem dL_law_372 : decode cL_law 372 = .ok (.aload_n 2, 1) := by decide +kernel
theorem dL_law_373 : decode cL_law 373 = .ok (.aload_n 0, 1) := by decide +kernel
theorem dL_law_374 : decode cL_law 374 = .ok (.iload_n 3, 1) := by decide +kernel
theorem dL_law_375 : decode cL_law 375 = .ok (.iconst 1, 1) := by decide +kernel
theorem dL_law_376 : decode cL_law 376 = .ok (.iadd, 1) := by decide +kernel
theorem dL_law_377 : decode cL_law 377 = .ok (.iaload, 1) := by decide +kernel
theorem dL_law_378 : decode cL_law 378 = .ok (.invokevirtual 39, 3) := by decide +kernel
theorem dL_law_381 : decode cL_law 381 = .ok (.if_icmp .eq 853, 3) := by decide +kernel
theorem dL_law_384 : decode cL_law 384 = .ok (.iconst 0, 1) := by decide +kernel
theorem dL_law_385 : decode cL_law 385 = .ok (.ireturn, 1) := by decide +kernel
theorem dL_law_386 : decode cL_law 386 = .ok (.aload_n 1, 1) := by decide +kernel
theorem dL_law_387 : decode cL_law 387 = .ok (.invokevirtual 40, 3) := by decide +kernel
theorem dL_law_390 : decode cL_law 390 = .ok (.aload_n 2, 1) := by decide +kernel
theorem dL_law_391 : decode cL_law 391 = .ok (.invokevirtual 44, 3) := by decide +kernel
theorem dL_law_394 : decode cL_law 394 = .ok (.if_icmp .eq 840, 3) := by decide +kernel
theorem dL_law_397 : decode cL_law 397 = .ok (.iconst 0, 1) := by decide +kernel
theorem dL_law_398 : decode cL_law 398 = .ok (.ireturn, 1) := by decide +kernel
theorem dL_law_399 : decode cL_law 399 = .ok (.aload_n 1, 1) := by decide +kernel
theorem dL_law_400 : decode cL_law 400 = .ok (.aload_n 0, 1) := by decide +kernel
theorem dL_law_401 : decode cL_law 401 = .ok (.iload_n 3, 1) := by decide +kernel
theorem dL_law_402 : decode cL_law 402 = .ok (.iconst 1, 1) := by decide +kernel
theorem dL_law_403 : decode cL_law 403 = .ok (.iadd, 1) := by decide +kernel
theorem dL_law_404 : decode cL_law 404 = .ok (.iaload, 1) := by decide +kernel
theorem dL_law_405 : decode cL_law 405 = .ok (.aload_n 0, 1) := by decide +kernel
theorem dL_law_406 : decode cL_law 406 = .ok (.iload_n 3, 1) := by decide +kernel
theorem dL_law_407 : decode cL_law 407 = .ok (.iconst 2, 1) := by decide +kernel
theorem dL_law_408 : decode cL_law 408 = .ok (.iadd, 1) := by decide +kernel
theorem dL_law_409 : decode cL_law 409 = .ok (.iaload, 1) := by decide +kernel
theorem dL_law_410 : decode cL_law 410 = .ok (.aload_n 0, 1) := by decide +kernel
theorem dL_law_411 : decode cL_law 411 = .ok (.iload_n 3, 1) := by decide +kernel
theorem dL_law_412 : decode cL_law 412 = .ok (.iconst 3, 1) := by decide +kernel
theorem dL_law_413 : decode cL_law 413 = .ok (.iadd, 1) := by decide +kernel
theorem dL_law_414 : decode cL_law 414 = .ok (.iaload, 1) := by decide +kernel
theorem dL_law_415 : decode cL_law 415 = .ok (.invokevirtual 45, 3) := by decide +kernel
theorem dL_law_418 : decode cL_law 418 = .ok (.aload_n 2, 1) := by decide +kernel
theorem dL_law_419 : decode cL_law 419 = .ok (.aload_n 0, 1) := by decide +kernel
theorem dL_law_420 : decode cL_law 420 = .ok (.iload_n 3, 1) := by decide +kernel
theorem dL_law_421 : decode cL_law 421 = .ok (.iconst 1, 1) := by decide +kernel
theorem dL_law_422 : decode cL_law 422 = .ok (.iadd, 1) := by decide +kernel
theorem dL_law_423 : decode cL_law 423 = .ok (.iaload, 1) := by decide +kernel
theorem dL_law_424 : decode cL_law 424 = .ok (.aload_n 0, 1) := by decide +kernel
theorem dL_law_425 : decode cL_law 425 = .ok (.iload_n 3, 1) := by decide +kernel
theorem dL_law_426 : decode cL_law 426 = .ok (.iconst 2, 1) := by decide +kernel
theorem dL_law_427 : decode cL_law 427 = .ok (.iadd, 1) := by decide +kernel
theorem dL_law_428 : decode cL_law 428 = .ok (.iaload, 1) := by decide +kernel
theorem dL_law_429 : decode cL_law 429 = .ok (.aload_n 0, 1) := by decide +kernel
theorem dL_law_430 : decode cL_law 430 = .ok (.iload_n 3, 1) := by decide +kernel
theorem dL_law_431 : decode cL_law 431 = .ok (.iconst 3, 1) := by decide +kernel
theorem dL_law_432 : decode cL_law 432 = .ok (.iadd, 1) := by decide +kernel
theorem dL_law_433 : decode cL_law 433 = .ok (.iaload, 1) := by decide +kernel
theorem dL_law_434 : decode cL_law 434 = .ok (.invokevirtual 48, 3) := by decide +kernel
theorem dL_law_437 : decode cL_law 437 = .ok (.if_icmp .eq 797, 3) := by decide +kernel
theorem dL_law_440 : decode cL_law 440 = .ok (.iconst 0, 1) := by decide +kernel
theorem dL_law_441 : decode cL_law 441 = .ok (.ireturn, 1) := by decide +kernel
theorem dL_law_442 : decode cL_law 442 = .ok (.aload_n 1, 1) := by decide +kernel
theorem dL_law_443 : decode cL_law 443 = .ok (.aload_n 0, 1) := by decide +kernel
theorem dL_law_444 : decode cL_law 444 = .ok (.iload_n 3, 1) := by decide +kernel
theorem dL_law_445 : decode cL_law 445 = .ok (.iconst 1, 1) := by decide +kernel
theorem dL_law_446 : decode cL_law 446 = .ok (.iadd, 1) := by decide +kernel
theorem dL_law_447 : decode cL_law 447 = .ok (.iaload, 1) := by decide +kernel
theorem dL_law_448 : decode cL_law 448 = .ok (.aload_n 0, 1) := by decide +kernel
theorem dL_law_449 : decode cL_law 449 = .ok (.iload_n 3, 1) := by decide +kernel
theorem dL_law_450 : decode cL_law 450 = .ok (.iconst 2, 1) := by decide +kernel
theorem dL_law_451 : decode cL_law 451 = .ok (.iadd, 1) := by decide +kernel
theorem dL_law_452 : decode cL_law 452 = .ok (.iaload, 1) := by decide +kernel
theorem dL_law_453 : decode cL_law 453 = .ok (.invokevirtual 49, 3) := by decide +kernel
theorem dL_law_456 : decode cL_law 456 = .ok (.aload_n 2, 1) := by decide +kernel
theorem dL_law_457 : decode cL_law 457 = .ok (.aload_n 0, 1) := by decide +kernel
theorem dL_law_458 : decode cL_law 458 = .ok (.iload_n 3, 1) := by decide +kernel
theorem dL_law_459 : decode cL_law 459 = .ok (.iconst 1, 1) := by decide +kernel
theorem dL_law_460 : decode cL_law 460 = .ok (.iadd, 1) := by decide +kernel
theorem dL_law_461 : decode cL_law 461 = .ok (.iaload, 1) := by decide +kernel
theorem dL_law_462 : decode cL_law 462 = .ok (.aload_n 0, 1) := by decide +kernel
theorem dL_law_463 : decode cL_law 463 = .ok (.iload_n 3, 1) := by decide +kernel
theorem dL_law_464 : decode cL_law 464 = .ok (.iconst 2, 1) := by decide +kernel
theorem dL_law_465 : decode cL_law 465 = .ok (.iadd, 1) := by decide +kernel
theorem dL_law_466 : decode cL_law 466 = .ok (.iaload, 1) := by decide +kernel
theorem dL_law_467 : decode cL_law 467 = .ok (.invokevirtual 52, 3) := by decide +kernel
theorem dL_law_470 : decode cL_law 470 = .ok (.if_icmp .eq 764, 3) := by decide +kernel
theorem dL_law_473 : decode cL_law 473 = .ok (.iconst 0, 1) := by decide +kernel
theorem dL_law_474 : decode cL_law 474 = .ok (.ireturn, 1) := by decide +kernel
theorem dL_law_475 : decode cL_law 475 = .ok (.aload_n 1, 1) := by decide +kernel
theorem dL_law_476 : decode cL_law 476 = .ok (.aload_n 0, 1) := by decide +kernel
theorem dL_law_477 : decode cL_law 477 = .ok (.iload_n 3, 1) := by decide +kernel
theorem dL_law_478 : decode cL_law 478 = .ok (.iconst 1, 1) := by decide +kernel
theorem dL_law_479 : decode cL_law 479 = .ok (.iadd, 1) := by decide +kernel
theorem dL_law_480 : decode cL_law 480 = .ok (.iaload, 1) := by decide +kernel
theorem dL_law_481 : decode cL_law 481 = .ok (.invokevirtual 53, 3) := by decide +kernel
theorem dL_law_484 : decode cL_law 484 = .ok (.aload_n 2, 1) := by decide +kernel
theorem dL_law_485 : decode cL_law 485 = .ok (.aload_n 0, 1) := by decide +kernel
theorem dL_law_486 : decode cL_law 486 = .ok (.iload_n 3, 1) := by decide +kernel
theorem dL_law_487 : decode cL_law 487 = .ok (.iconst 1, 1) := by decide +kernel
theorem dL_law_488 : decode cL_law 488 = .ok (.iadd, 1) := by decide +kernel
theorem dL_law_489 : decode cL_law 489 = .ok (.iaload, 1) := by decide +kernel
theorem dL_law_490 : decode cL_law 490 = .ok (.invokevirtual 56, 3) := by decide +kernel
theorem dL_law_493 : decode cL_law 493 = .ok (.if_icmp .eq 741, 3) := by decide +kernel
theorem dL_law_496 : decode cL_law 496 = .ok (.iconst 0, 1) := by decide +kernel
theorem dL_law_497 : decode cL_law 497 = .ok (.ireturn, 1) := by decide +kernel
theorem dL_law_498 : decode cL_law 498 = .ok (.aload_n 1, 1) := by decide +kernel
theorem dL_law_499 : decode cL_law 499 = .ok (.aload_n 0, 1) := by decide +kernel
theorem dL_law_500 : decode cL_law 500 = .ok (.iload_n 3, 1) := by decide +kernel
theorem dL_law_501 : decode cL_law 501 = .ok (.iconst 1, 1) := by decide +kernel
theorem dL_law_502 : decode cL_law 502 = .ok (.iadd, 1) := by decide +kernel
theorem dL_law_503 : decode cL_law 503 = .ok (.iaload, 1) := by decide +kernel
theorem dL_law_504 : decode cL_law 504 = .ok (.invokevirtual 57, 3) := by decide +kernel
theorem dL_law_507 : decode cL_law 507 = .ok (.aload_n 2, 1) := by decide +kernel
theorem dL_law_508 : decode cL_law 508 = .ok (.aload_n 0, 1) := by decide +kernel
theorem dL_law_509 : decode cL_law 509 = .ok (.iload_n 3, 1) := by decide +kernel
theorem dL_law_510 : decode cL_law 510 = .ok (.iconst 1, 1) := by decide +kernel
theorem dL_law_511 : decode cL_law 511 = .ok (.iadd, 1) := by decide +kernel
theorem dL_law_512 : decode cL_law 512 = .ok (.iaload, 1) := by decide +kernel
theorem dL_law_513 : decode cL_law 513 = .ok (.invokevirtual 60, 3) := by decide +kernel
theorem dL_law_516 : decode cL_law 516 = .ok (.if_icmp .eq 718, 3) := by decide +kernel
theorem dL_law_519 : decode cL_law 519 = .ok (.iconst 0, 1) := by decide +kernel
theorem dL_law_520 : decode cL_law 520 = .ok (.ireturn, 1) := by decide +kernel
theorem dL_law_521 : decode cL_law 521 = .ok (.aload_n 1, 1) := by decide +kernel
theorem dL_law_522 : decode cL_law 522 = .ok (.aload_n 0, 1) := by decide +kernel
theorem dL_law_523 : decode cL_law 523 = .ok (.iload_n 3, 1) := by decide +kernel
theorem dL_law_524 : decode cL_law 524 = .ok (.iconst 1, 1) := by decide +kernel
theorem dL_law_525 : decode cL_law 525 = .ok (.iadd, 1) := by decide +kernel
theorem dL_law_526 : decode cL_law 526 = .ok (.iaload, 1) := by decide +kernel
theorem dL_law_527 : decode cL_law 527 = .ok (.invokevirtual 61, 3) := by decide +kernel
theorem dL_law_530 : decode cL_law 530 = .ok (.aload_n 2, 1) := by decide +kernel
theorem dL_law_531 : decode cL_law 531 = .ok (.aload_n 0, 1) := by decide +kernel
theorem dL_law_532 : decode cL_law 532 = .ok (.iload_n 3, 1) := by decide +kernel
theorem dL_law_533 : decode cL_law 533 = .ok (.iconst 1, 1) := by decide +kernel
theorem dL_law_534 : decode cL_law 534 = .ok (.iadd, 1) := by decide +kernel
theorem dL_law_535 : decode cL_law 535 = .ok (.iaload, 1) := by decide +kernel
theorem dL_law_536 : decode cL_law 536 = .ok (.invokevirtual 64, 3) := by decide +kernel
theorem dL_law_539 : decode cL_law 539 = .ok (.if_icmp .eq 695, 3) := by decide +kernel
theorem dL_law_542 : decode cL_law 542 = .ok (.iconst 0, 1) := by decide +kernel
theorem dL_law_543 : decode cL_law 543 = .ok (.ireturn, 1) := by decide +kernel
theorem dL_law_544 : decode cL_law 544 = .ok (.aload_n 1, 1) := by decide +kernel
theorem dL_law_545 : decode cL_law 545 = .ok (.aload_n 0, 1) := by decide +kernel
theorem dL_law_546 : decode cL_law 546 = .ok (.iload_n 3, 1) := by decide +kernel
theorem dL_law_547 : decode cL_law 547 = .ok (.iconst 1, 1) := by decide +kernel
theorem dL_law_548 : decode cL_law 548 = .ok (.iadd, 1) := by decide +kernel
theorem dL_law_549 : decode cL_law 549 = .ok (.iaload, 1) := by decide +kernel
theorem dL_law_550 : decode cL_law 550 = .ok (.invokevirtual 65, 3) := by decide +kernel
theorem dL_law_553 : decode cL_law 553 = .ok (.aload_n 2, 1) := by decide +kernel
theorem dL_law_554 : decode cL_law 554 = .ok (.aload_n 0, 1) := by decide +kernel
theorem dL_law_555 : decode cL_law 555 = .ok (.iload_n 3, 1) := by decide +kernel
theorem dL_law_556 : decode cL_law 556 = .ok (.iconst 1, 1) := by decide +kernel
theorem dL_law_557 : decode cL_law 557 = .ok (.iadd, 1) := by decide +kernel
theorem dL_law_558 : decode cL_law 558 = .ok (.iaload, 1) := by decide +kernel
theorem dL_law_559 : decode cL_law 559 = .ok (.invokevirtual 68, 3) := by decide +kernel
theorem dL_law_562 : decode cL_law 562 = .ok (.if_icmp .eq 672, 3) := by decide +kernel
theorem dL_law_565 : decode cL_law 565 = .ok (.iconst 0, 1) := by decide +kernel
theorem dL_law_566 : decode cL_law 566 = .ok (.ireturn, 1) := by decide +kernel
theorem dL_law_567 : decode cL_law 567 = .ok (.aload_n 1, 1) := by decide +kernel
theorem dL_law_568 : decode cL_law 568 = .ok (.aload_n 0, 1) := by decide +kernel
theorem dL_law_569 : decode cL_law 569 = .ok (.iload_n 3, 1) := by decide +kernel
theorem dL_law_570 : decode cL_law 570 = .ok (.iconst 1, 1) := by decide +kernel
theorem dL_law_571 : decode cL_law 571 = .ok (.iadd, 1) := by decide +kernel
theorem dL_law_572 : decode cL_law 572 = .ok (.iaload, 1) := by decide +kernel
theorem dL_law_573 : decode cL_law 573 = .ok (.invokevirtual 69, 3) := by decide +kernel
theorem dL_law_576 : decode cL_law 576 = .ok (.aload_n 2, 1) := by decide +kernel
theorem dL_law_577 : decode cL_law 577 = .ok (.aload_n 0, 1) := by decide +kernel
theorem dL_law_578 : decode cL_law 578 = .ok (.iload_n 3, 1) := by decide +kernel
theorem dL_law_579 : decode cL_law 579 = .ok (.iconst 1, 1) := by decide +kernel
theorem dL_law_580 : decode cL_law 580 = .ok (.iadd, 1) := by decide +kernel
theorem dL_law_581 : decode cL_law 581 = .ok (.iaload, 1) := by decide +kernel
theorem dL_law_582 : decode cL_law 582 = .ok (.invokevirtual 72, 3) := by decide +kernel
theorem dL_law_585 : decode cL_law 585 = .ok (.if_icmp .eq 649, 3) := by decide +kernel
theorem dL_law_588 : decode cL_law 588 = .ok (.iconst 0, 1) := by decide +kernel
theorem dL_law_589 : decode cL_law 589 = .ok (.ireturn, 1) := by decide +kernel
theorem dL_law_590 : decode cL_law 590 = .ok (.aload_n 1, 1) := by decide +kernel
theorem dL_law_591 : decode cL_law 591 = .ok (.aload_n 0, 1) := by decide +kernel
theorem dL_law_592 : decode cL_law 592 = .ok (.iload_n 3, 1) := by decide +kernel
theorem dL_law_593 : decode cL_law 593 = .ok (.iconst 1, 1) := by decide +kernel
theorem dL_law_594 : decode cL_law 594 = .ok (.iadd, 1) := by decide +kernel
theorem dL_law_595 : decode cL_law 595 = .ok (.iaload, 1) := by decide +kernel
theorem dL_law_596 : decode cL_law 596 = .ok (.aload_n 0, 1) := by decide +kernel
theorem dL_law_597 : decode cL_law 597 = .ok (.iload_n 3, 1) := by decide +kernel
theorem dL_law_598 : decode cL_law 598 = .ok (.iconst 2, 1) := by decide +kernel
theorem dL_law_599 : decode cL_law 599 = .ok (.iadd, 1) := by decide +kernel
theorem dL_law_600 : decode cL_law 600 = .ok (.iaload, 1) := by decide +kernel
theorem dL_law_601 : decode cL_law 601 = .ok (.aload_n 0, 1) := by decide +kernel
theorem dL_law_602 : decode cL_law 602 = .ok (.iload_n 3, 1) := by decide +kernel
theorem dL_law_603 : decode cL_law 603 = .ok (.iconst 3, 1) := by decide +kernel
theorem dL_law_604 : decode cL_law 604 = .ok (.iadd, 1) := by decide +kernel
theorem dL_law_605 : decode cL_law 605 = .ok (.iaload, 1) := by decide +kernel
theorem dL_law_606 : decode cL_law 606 = .ok (.invokevirtual 73, 3) := by decide +kernel
theorem dL_law_609 : decode cL_law 609 = .ok (.aload_n 2, 1) := by decide +kernel
theorem dL_law_610 : decode cL_law 610 = .ok (.aload_n 0, 1) := by decide +kernel
theorem dL_law_611 : decode cL_law 611 = .ok (.iload_n 3, 1) := by decide +kernel
theorem dL_law_612 : decode cL_law 612 = .ok (.iconst 1, 1) := by decide +kernel
theorem dL_law_613 : decode cL_law 613 = .ok (.iadd, 1) := by decide +kernel
theorem dL_law_614 : decode cL_law 614 = .ok (.iaload, 1) := by decide +kernel
theorem dL_law_615 : decode cL_law 615 = .ok (.aload_n 0, 1) := by decide +kernel
theorem dL_law_616 : decode cL_law 616 = .ok (.iload_n 3, 1) := by decide +kernel
theorem dL_law_617 : decode cL_law 617 = .ok (.iconst 2, 1) := by decide +kernel
theorem dL_law_618 : decode cL_law 618 = .ok (.iadd, 1) := by decide +kernel
theorem dL_law_619 : decode cL_law 619 = .ok (.iaload, 1) := by decide +kernel
theorem dL_law_620 : decode cL_law 620 = .ok (.aload_n 0, 1) := by decide +kernel
theorem dL_law_621 : decode cL_law 621 = .ok (.iload_n 3, 1) := by decide +kernel
theorem dL_law_622 : decode cL_law 622 = .ok (.iconst 3, 1) := by decide +kernel
theorem dL_law_623 : decode cL_law 623 = .ok (.iadd, 1) := by decide +kernel
theorem dL_law_624 : decode cL_law 624 = .ok (.iaload, 1) := by decide +kernel
theorem dL_law_625 : decode cL_law 625 = .ok (.invokevirtual 76, 3) := by decide +kernel
theorem dL_law_628 : decode cL_law 628 = .ok (.if_icmp .eq 606, 3) := by decide +kernel
theorem dL_law_631 : decode cL_law 631 = .ok (.iconst 0, 1) := by decide +kernel
theorem dL_law_632 : decode cL_law 632 = .ok (.ireturn, 1) := by decide +kernel
theorem dL_law_633 : decode cL_law 633 = .ok (.aload_n 1, 1) := by decide +kernel
theorem dL_law_634 : decode cL_law 634 = .ok (.aload_n 0, 1) := by decide +kernel
theorem dL_law_635 : decode cL_law 635 = .ok (.iload_n 3, 1) := by decide +kernel
theorem dL_law_636 : decode cL_law 636 = .ok (.iconst 1, 1) := by decide +kernel
theorem dL_law_637 : decode cL_law 637 = .ok (.iadd, 1) := by decide +kernel
theorem dL_law_638 : decode cL_law 638 = .ok (.iaload, 1) := by decide +kernel
theorem dL_law_639 : decode cL_law 639 = .ok (.aload_n 0, 1) := by decide +kernel
theorem dL_law_640 : decode cL_law 640 = .ok (.iload_n 3, 1) := by decide +kernel
theorem dL_law_641 : decode cL_law 641 = .ok (.iconst 2, 1) := by decide +kernel
theorem dL_law_642 : decode cL_law 642 = .ok (.iadd, 1) := by decide +kernel
theorem dL_law_643 : decode cL_law 643 = .ok (.iaload, 1) := by decide +kernel
theorem dL_law_644 : decode cL_law 644 = .ok (.aload_n 0, 1) := by decide +kernel
theorem dL_law_645 : decode cL_law 645 = .ok (.iload_n 3, 1) := by decide +kernel
theorem dL_law_646 : decode cL_law 646 = .ok (.iconst 3, 1) := by decide +kernel
theorem dL_law_647 : decode cL_law 647 = .ok (.iadd, 1) := by decide +kernel
theorem dL_law_648 : decode cL_law 648 = .ok (.iaload, 1) := by decide +kernel
theorem dL_law_649 : decode cL_law 649 = .ok (.invokevirtual 77, 3) := by decide +kernel
theorem dL_law_652 : decode cL_law 652 = .ok (.aload_n 2, 1) := by decide +kernel
theorem dL_law_653 : decode cL_law 653 = .ok (.aload_n 0, 1) := by decide +kernel
theorem dL_law_654 : decode cL_law 654 = .ok (.iload_n 3, 1) := by decide +kernel
theorem dL_law_655 : decode cL_law 655 = .ok (.iconst 1, 1) := by decide +kernel
theorem dL_law_656 : decode cL_law 656 = .ok (.iadd, 1) := by decide +kernel
theorem dL_law_657 : decode cL_law 657 = .ok (.iaload, 1) := by decide +kernel
theorem dL_law_658 : decode cL_law 658 = .ok (.aload_n 0, 1) := by decide +kernel
theorem dL_law_659 : decode cL_law 659 = .ok (.iload_n 3, 1) := by decide +kernel
theorem dL_law_660 : decode cL_law 660 = .ok (.iconst 2, 1) := by decide +kernel
theorem dL_law_661 : decode cL_law 661 = .ok (.iadd, 1) := by decide +kernel
theorem dL_law_662 : decode cL_law 662 = .ok (.iaload, 1) := by decide +kernel
theorem dL_law_663 : decode cL_law 663 = .ok (.aload_n 0, 1) := by decide +kernel
theorem dL_law_664 : decode cL_law 664 = .ok (.iload_n 3, 1) := by decide +kernel
theorem dL_law_665 : decode cL_law 665 = .ok (.iconst 3, 1) := by decide +kernel
theorem dL_law_666 : decode cL_law 666 = .ok (.iadd, 1) := by decide +kernel
theorem dL_law_667 : decode cL_law 667 = .ok (.iaload, 1) := by decide +kernel
theorem dL_law_668 : decode cL_law 668 = .ok (.invokevirtual 80, 3) := by decide +kernel
theorem dL_law_671 : decode cL_law 671 = .ok (.if_icmp .eq 563, 3) := by decide +kernel
theorem dL_law_674 : decode cL_law 674 = .ok (.iconst 0, 1) := by decide +kernel
theorem dL_law_675 : decode cL_law 675 = .ok (.ireturn, 1) := by decide +kernel
theorem dL_law_676 : decode cL_law 676 = .ok (.aload_n 1, 1) := by decide +kernel
theorem dL_law_677 : decode cL_law 677 = .ok (.aload_n 0, 1) := by decide +kernel
theorem dL_law_678 : decode cL_law 678 = .ok (.iload_n 3, 1) := by decide +kernel
theorem dL_law_679 : decode cL_law 679 = .ok (.iconst 1, 1) := by decide +kernel
theorem dL_law_680 : decode cL_law 680 = .ok (.iadd, 1) := by decide +kernel
theorem dL_law_681 : decode cL_law 681 = .ok (.iaload, 1) := by decide +kernel
theorem dL_law_682 : decode cL_law 682 = .ok (.aload_n 0, 1) := by decide +kernel
theorem dL_law_683 : decode cL_law 683 = .ok (.iload_n 3, 1) := by decide +kernel
theorem dL_law_684 : decode cL_law 684 = .ok (.iconst 2, 1) := by decide +kernel
theorem dL_law_685 : decode cL_law 685 = .ok (.iadd, 1) := by decide +kernel
theorem dL_law_686 : decode cL_law 686 = .ok (.iaload, 1) := by decide +kernel
theorem dL_law_687 : decode cL_law 687 = .ok (.invokevirtual 81, 3) := by decide +kernel
theorem dL_law_690 : decode cL_law 690 = .ok (.aload_n 2, 1) := by decide +kernel
theorem dL_law_691 : decode cL_law 691 = .ok (.aload_n 0, 1) := by decide +kernel
theorem dL_law_692 : decode cL_law 692 = .ok (.iload_n 3, 1) := by decide +kernel
theorem dL_law_693 : decode cL_law 693 = .ok (.iconst 1, 1) := by decide +kernel
theorem dL_law_694 : decode cL_law 694 = .ok (.iadd, 1) := by decide +kernel
theorem dL_law_695 : decode cL_law 695 = .ok (.iaload, 1) := by decide +kernel
theorem dL_law_696 : decode cL_law 696 = .ok (.aload_n 0, 1) := by decide +kernel
theorem dL_law_697 : decode cL_law 697 = .ok (.iload_n 3, 1) := by decide +kernel
theorem dL_law_698 : decode cL_law 698 = .ok (.iconst 2, 1) := by decide +kernel
theorem dL_law_699 : decode cL_law 699 = .ok (.iadd, 1) := by decide +kernel
theorem dL_law_700 : decode cL_law 700 = .ok (.iaload, 1) := by decide +kernel
theorem dL_law_701 : decode cL_law 701 = .ok (.invokevirtual 84, 3) := by decide +kernel
theorem dL_law_704 : decode cL_law 704 = .ok (.if_icmp .eq 530, 3) := by decide +kernel
theorem dL_law_707 : decode cL_law 707 = .ok (.iconst 0, 1) := by decide +kernel
theorem dL_law_708 : decode cL_law 708 = .ok (.ireturn, 1) := by decide +kernel
theorem dL_law_709 : decode cL_law 709 = .ok (.aload_n 1, 1) := by decide +kernel
theorem dL_law_710 : decode cL_law 710 = .ok (.aload_n 0, 1) := by decide +kernel
theorem dL_law_711 : decode cL_law 711 = .ok (.iload_n 3, 1) := by decide +kernel
theorem dL_law_712 : decode cL_law 712 = .ok (.iconst 1, 1) := by decide +kernel
theorem dL_law_713 : decode cL_law 713 = .ok (.iadd, 1) := by decide +kernel
theorem dL_law_714 : decode cL_law 714 = .ok (.iaload, 1) := by decide +kernel
theorem dL_law_715 : decode cL_law 715 = .ok (.aload_n 0, 1) := by decide +kernel
theorem dL_law_716 : decode cL_law 716 = .ok (.iload_n 3, 1) := by decide +kernel
theorem dL_law_717 : decode cL_law 717 = .ok (.iconst 2, 1) := by decide +kernel
theorem dL_law_718 : decode cL_law 718 = .ok (.iadd, 1) := by decide +kernel
theorem dL_law_719 : decode cL_law 719 = .ok (.iaload, 1) := by decide +kernel
theorem dL_law_720 : decode cL_law 720 = .ok (.aload_n 0, 1) := by decide +kernel
theorem dL_law_721 : decode cL_law 721 = .ok (.iload_n 3, 1) := by decide +kernel
theorem dL_law_722 : decode cL_law 722 = .ok (.iconst 3, 1) := by decide +kernel
theorem dL_law_723 : decode cL_law 723 = .ok (.iadd, 1) := by decide +kernel
theorem dL_law_724 : decode cL_law 724 = .ok (.iaload, 1) := by decide +kernel
theorem dL_law_725 : decode cL_law 725 = .ok (.invokevirtual 85, 3) := by decide +kernel
theorem dL_law_728 : decode cL_law 728 = .ok (.aload_n 2, 1) := by decide +kernel
theorem dL_law_729 : decode cL_law 729 = .ok (.aload_n 0, 1) := by decide +kernel
theorem dL_law_730 : decode cL_law 730 = .ok (.iload_n 3, 1) := by decide +kernel
theorem dL_law_731 : decode cL_law 731 = .ok (.iconst 1, 1) := by decide +kernel
theorem dL_law_732 : decode cL_law 732 = .ok (.iadd, 1) := by decide +kernel
theorem dL_law_733 : decode cL_law 733 = .ok (.iaload, 1) := by decide +kernel
theorem dL_law_734 : decode cL_law 734 = .ok (.aload_n 0, 1) := by decide +kernel
theorem dL_law_735 : decode cL_law 735 = .ok (.iload_n 3, 1) := by decide +kernel
theorem dL_law_736 : decode cL_law 736 = .ok (.iconst 2, 1) := by decide +kernel
theorem dL_law_737 : decode cL_law 737 = .ok (.iadd, 1) := by decide +kernel
theorem dL_law_738 : decode cL_law 738 = .ok (.iaload, 1) := by decide +kernel
theorem dL_law_739 : decode cL_law 739 = .ok (.aload_n 0, 1) := by decide +kernel
theorem dL_law_740 : decode cL_law 740 = .ok (.iload_n 3, 1) := by decide +kernel
theorem dL_law_741 : decode cL_law 741 = .ok (.iconst 3, 1) := by decide +kernel
theorem dL_law_742 : decode cL_law 742 = .ok (.iadd, 1) := by decide +kernel
theorem dL_law_743 : decode cL_law 743 = .ok (.iaload, 1) := by decide +kernel
theorem dL_law_744 : decode cL_law 744 = .ok (.invokevirtual 88, 3) := by decide +kernel
theorem dL_law_747 : decode cL_law 747 = .ok (.if_icmp .eq 487, 3) := by decide +kernel
theorem dL_law_750 : decode cL_law 750 = .ok (.iconst 0, 1) := by decide +kernel
theorem dL_law_751 : decode cL_law 751 = .ok (.ireturn, 1) := by decide +kernel
theorem dL_law_752 : decode cL_law 752 = .ok (.aload_n 1, 1) := by decide +kernel
theorem dL_law_753 : decode cL_law 753 = .ok (.aload_n 0, 1) := by decide +kernel
theorem dL_law_754 : decode cL_law 754 = .ok (.iload_n 3, 1) := by decide +kernel
theorem dL_law_755 : decode cL_law 755 = .ok (.iconst 1, 1) := by decide +kernel
theorem dL_law_756 : decode cL_law 756 = .ok (.iadd, 1) := by decide +kernel
theorem dL_law_757 : decode cL_law 757 = .ok (.iaload, 1) := by decide +kernel
theorem dL_law_758 : decode cL_law 758 = .ok (.invokevirtual 89, 3) := by decide +kernel
theorem dL_law_761 : decode cL_law 761 = .ok (.aload_n 2, 1) := by decide +kernel
theorem dL_law_762 : decode cL_law 762 = .ok (.aload_n 0, 1) := by decide +kernel
theorem dL_law_763 : decode cL_law 763 = .ok (.iload_n 3, 1) := by decide +kernel
theorem dL_law_764 : decode cL_law 764 = .ok (.iconst 1, 1) := by decide +kernel
theorem dL_law_765 : decode cL_law 765 = .ok (.iadd, 1) := by decide +kernel
theorem dL_law_766 : decode cL_law 766 = .ok (.iaload, 1) := by decide +kernel
theorem dL_law_767 : decode cL_law 767 = .ok (.invokevirtual 92, 3) := by decide +kernel
theorem dL_law_770 : decode cL_law 770 = .ok (.if_icmp .eq 464, 3) := by decide +kernel
theorem dL_law_773 : decode cL_law 773 = .ok (.iconst 0, 1) := by decide +kernel
theorem dL_law_774 : decode cL_law 774 = .ok (.ireturn, 1) := by decide +kernel
theorem dL_law_775 : decode cL_law 775 = .ok (.aload_n 1, 1) := by decide +kernel
theorem dL_law_776 : decode cL_law 776 = .ok (.aload_n 0, 1) := by decide +kernel
theorem dL_law_777 : decode cL_law 777 = .ok (.iload_n 3, 1) := by decide +kernel
theorem dL_law_778 : decode cL_law 778 = .ok (.iconst 1, 1) := by decide +kernel
theorem dL_law_779 : decode cL_law 779 = .ok (.iadd, 1) := by decide +kernel
theorem dL_law_780 : decode cL_law 780 = .ok (.iaload, 1) := by decide +kernel
theorem dL_law_781 : decode cL_law 781 = .ok (.aload_n 0, 1) := by decide +kernel
theorem dL_law_782 : decode cL_law 782 = .ok (.iload_n 3, 1) := by decide +kernel
theorem dL_law_783 : decode cL_law 783 = .ok (.iconst 2, 1) := by decide +kernel
theorem dL_law_784 : decode cL_law 784 = .ok (.iadd, 1) := by decide +kernel
theorem dL_law_785 : decode cL_law 785 = .ok (.iaload, 1) := by decide +kernel
theorem dL_law_786 : decode cL_law 786 = .ok (.aload_n 0, 1) := by decide +kernel
theorem dL_law_787 : decode cL_law 787 = .ok (.iload_n 3, 1) := by decide +kernel
theorem dL_law_788 : decode cL_law 788 = .ok (.iconst 3, 1) := by decide +kernel
theorem dL_law_789 : decode cL_law 789 = .ok (.iadd, 1) := by decide +kernel
theorem dL_law_790 : decode cL_law 790 = .ok (.iaload, 1) := by decide +kernel
theorem dL_law_791 : decode cL_law 791 = .ok (.invokevirtual 93, 3) := by decide +kernel
theorem dL_law_794 : decode cL_law 794 = .ok (.aload_n 2, 1) := by decide +kernel
theorem dL_law_795 : decode cL_law 795 = .ok (.aload_n 0, 1) := by decide +kernel
theorem dL_law_796 : decode cL_law 796 = .ok (.iload_n 3, 1) := by decide +kernel
theorem dL_law_797 : decode cL_law 797 = .ok (.iconst 1, 1) := by decide +kernel
theorem dL_law_798 : decode cL_law 798 = .ok (.iadd, 1) := by decide +kernel
theorem dL_law_799 : decode cL_law 799 = .ok (.iaload, 1) := by decide +kernel
theorem dL_law_800 : decode cL_law 800 = .ok (.aload_n 0, 1) := by decide +kernel
theorem dL_law_801 : decode cL_law 801 = .ok (.iload_n 3, 1) := by decide +kernel
theorem dL_law_802 : decode cL_law 802 = .ok (.iconst 2, 1) := by decide +kernel
theorem dL_law_803 : decode cL_law 803 = .ok (.iadd, 1) := by decide +kernel
theorem dL_law_804 : decode cL_law 804 = .ok (.iaload, 1) := by decide +kernel
theorem dL_law_805 : decode cL_law 805 = .ok (.aload_n 0, 1) := by decide +kernel
theorem dL_law_806 : decode cL_law 806 = .ok (.iload_n 3, 1) := by decide +kernel
theorem dL_law_807 : decode cL_law 807 = .ok (.iconst 3, 1) := by decide +kernel
theorem dL_law_808 : decode cL_law 808 = .ok (.iadd, 1) := by decide +kernel
theorem dL_law_809 : decode cL_law 809 = .ok (.iaload, 1) := by decide +kernel
theorem dL_law_810 : decode cL_law 810 = .ok (.invokevirtual 96, 3) := by decide +kernel
theorem dL_law_813 : decode cL_law 813 = .ok (.if_icmp .eq 421, 3) := by decide +kernel
theorem dL_law_816 : decode cL_law 816 = .ok (.iconst 0, 1) := by decide +kernel
theorem dL_law_817 : decode cL_law 817 = .ok (.ireturn, 1) := by decide +kernel
theorem dL_law_818 : decode cL_law 818 = .ok (.aload_n 1, 1) := by decide +kernel
theorem dL_law_819 : decode cL_law 819 = .ok (.aload_n 0, 1) := by decide +kernel
theorem dL_law_820 : decode cL_law 820 = .ok (.iload_n 3, 1) := by decide +kernel
theorem dL_law_821 : decode cL_law 821 = .ok (.iconst 1, 1) := by decide +kernel
theorem dL_law_822 : decode cL_law 822 = .ok (.iadd, 1) := by decide +kernel
theorem dL_law_823 : decode cL_law 823 = .ok (.iaload, 1) := by decide +kernel
theorem dL_law_824 : decode cL_law 824 = .ok (.invokevirtual 97, 3) := by decide +kernel
theorem dL_law_827 : decode cL_law 827 = .ok (.aload_n 2, 1) := by decide +kernel
theorem dL_law_828 : decode cL_law 828 = .ok (.aload_n 0, 1) := by decide +kernel
theorem dL_law_829 : decode cL_law 829 = .ok (.iload_n 3, 1) := by decide +kernel
theorem dL_law_830 : decode cL_law 830 = .ok (.iconst 1, 1) := by decide +kernel
theorem dL_law_831 : decode cL_law 831 = .ok (.iadd, 1) := by decide +kernel
theorem dL_law_832 : decode cL_law 832 = .ok (.iaload, 1) := by decide +kernel
theorem dL_law_833 : decode cL_law 833 = .ok (.invokevirtual 100, 3) := by decide +kernel
theorem dL_law_836 : decode cL_law 836 = .ok (.if_icmp .eq 398, 3) := by decide +kernel
theorem dL_law_839 : decode cL_law 839 = .ok (.iconst 0, 1) := by decide +kernel
theorem dL_law_840 : decode cL_law 840 = .ok (.ireturn, 1) := by decide +kernel
theorem dL_law_841 : decode cL_law 841 = .ok (.aload_n 1, 1) := by decide +kernel
theorem dL_law_842 : decode cL_law 842 = .ok (.aload_n 0, 1) := by decide +kernel
theorem dL_law_843 : decode cL_law 843 = .ok (.iload_n 3, 1) := by decide +kernel
theorem dL_law_844 : decode cL_law 844 = .ok (.iconst 1, 1) := by decide +kernel
theorem dL_law_845 : decode cL_law 845 = .ok (.iadd, 1) := by decide +kernel
theorem dL_law_846 : decode cL_law 846 = .ok (.iaload, 1) := by decide +kernel
theorem dL_law_847 : decode cL_law 847 = .ok (.aload_n 0, 1) := by decide +kernel
theorem dL_law_848 : decode cL_law 848 = .ok (.iload_n 3, 1) := by decide +kernel
theorem dL_law_849 : decode cL_law 849 = .ok (.iconst 2, 1) := by decide +kernel
theorem dL_law_850 : decode cL_law 850 = .ok (.iadd, 1) := by decide +kernel
theorem dL_law_851 : decode cL_law 851 = .ok (.iaload, 1) := by decide +kernel
theorem dL_law_852 : decode cL_law 852 = .ok (.aload_n 0, 1) := by decide +kernel
theorem dL_law_853 : decode cL_law 853 = .ok (.iload_n 3, 1) := by decide +kernel
theorem dL_law_854 : decode cL_law 854 = .ok (.iconst 3, 1) := by decide +kernel
theorem dL_law_855 : decode cL_law 855 = .ok (.iadd, 1) := by decide +kernel
theorem dL_law_856 : decode cL_law 856 = .ok (.iaload, 1) := by decide +kernel
theorem dL_law_857 : decode cL_law 857 = .ok (.invokevirtual 101, 3) := by decide +kernel
theorem dL_law_860 : decode cL_law 860 = .ok (.aload_n 2, 1) := by decide +kernel
theorem dL_law_861 : decode cL_law 861 = .ok (.aload_n 0, 1) := by decide +kernel
theorem dL_law_862 : decode cL_law 862 = .ok (.iload_n 3, 1) := by decide +kernel
theorem dL_law_863 : decode cL_law 863 = .ok (.iconst 1, 1) := by decide +kernel
theorem dL_law_864 : decode cL_law 864 = .ok (.iadd, 1) := by decide +kernel
theorem dL_law_865 : decode cL_law 865 = .ok (.iaload, 1) := by decide +kernel
theorem dL_law_866 : decode cL_law 866 = .ok (.aload_n 0, 1) := by decide +kernel
theorem dL_law_867 : decode cL_law 867 = .ok (.iload_n 3, 1) := by decide +kernel
theorem dL_law_868 : decode cL_law 868 = .ok (.iconst 2, 1) := by decide +kernel
theorem dL_law_869 : decode cL_law 869 = .ok (.iadd, 1) := by decide +kernel
theorem dL_law_870 : decode cL_law 870 = .ok (.iaload, 1) := by decide +kernel
theorem dL_law_871 : decode cL_law 871 = .ok (.aload_n 0, 1) := by decide +kernel
theorem dL_law_872 : decode cL_law 872 = .ok (.iload_n 3, 1) := by decide +kernel
theorem dL_law_873 : decode cL_law 873 = .ok (.iconst 3, 1) := by decide +kernel
theorem dL_law_874 : decode cL_law 874 = .ok (.iadd, 1) := by decide +kernel
theorem dL_law_875 : decode cL_law 875 = .ok (.iaload, 1) := by decide +kernel
theorem dL_law_876 : decode cL_law 876 = .ok (.invokevirtual 104, 3) := by decide +kernel
theorem dL_law_879 : decode cL_law 879 = .ok (.if_icmp .eq 355, 3) := by decide +kernel
theorem dL_law_882 : decode cL_law 882 = .ok (.iconst 0, 1) := by decide +kernel
theorem dL_law_883 : decode cL_law 883 = .ok (.ireturn, 1) := by decide +kernel
theorem dL_law_884 : decode cL_law 884 = .ok (.aload_n 1, 1) := by decide +kernel
theorem dL_law_885 : decode cL_law 885 = .ok (.aload_n 0, 1) := by decide +kernel
theorem dL_law_886 : decode cL_law 886 = .ok (.iload_n 3, 1) := by decide +kernel
theorem dL_law_887 : decode cL_law 887 = .ok (.iconst 1, 1) := by decide +kernel
theorem dL_law_888 : decode cL_law 888 = .ok (.iadd, 1) := by decide +kernel
theorem dL_law_889 : decode cL_law 889 = .ok (.iaload, 1) := by decide +kernel
theorem dL_law_890 : decode cL_law 890 = .ok (.aload_n 0, 1) := by decide +kernel
theorem dL_law_891 : decode cL_law 891 = .ok (.iload_n 3, 1) := by decide +kernel
theorem dL_law_892 : decode cL_law 892 = .ok (.iconst 2, 1) := by decide +kernel
theorem dL_law_893 : decode cL_law 893 = .ok (.iadd, 1) := by decide +kernel
theorem dL_law_894 : decode cL_law 894 = .ok (.iaload, 1) := by decide +kernel
theorem dL_law_895 : decode cL_law 895 = .ok (.invokevirtual 105, 3) := by decide +kernel
theorem dL_law_898 : decode cL_law 898 = .ok (.aload_n 2, 1) := by decide +kernel
theorem dL_law_899 : decode cL_law 899 = .ok (.aload_n 0, 1) := by decide +kernel
theorem dL_law_900 : decode cL_law 900 = .ok (.iload_n 3, 1) := by decide +kernel
theorem dL_law_901 : decode cL_law 901 = .ok (.iconst 1, 1) := by decide +kernel
theorem dL_law_902 : decode cL_law 902 = .ok (.iadd, 1) := by decide +kernel
theorem dL_law_903 : decode cL_law 903 = .ok (.iaload, 1) := by decide +kernel
theorem dL_law_904 : decode cL_law 904 = .ok (.aload_n 0, 1) := by decide +kernel
theorem dL_law_905 : decode cL_law 905 = .ok (.iload_n 3, 1) := by decide +kernel
theorem dL_law_906 : decode cL_law 906 = .ok (.iconst 2, 1) := by decide +kernel
theorem dL_law_907 : decode cL_law 907 = .ok (.iadd, 1) := by decide +kernel
theorem dL_law_908 : decode cL_law 908 = .ok (.iaload, 1) := by decide +kernel
theorem dL_law_909 : decode cL_law 909 = .ok (.invokevirtual 108, 3) := by decide +kernel
theorem dL_law_912 : decode cL_law 912 = .ok (.if_icmp .eq 322, 3) := by decide +kernel
theorem dL_law_915 : decode cL_law 915 = .ok (.iconst 0, 1) := by decide +kernel
theorem dL_law_916 : decode cL_law 916 = .ok (.ireturn, 1) := by decide +kernel
theorem dL_law_917 : decode cL_law 917 = .ok (.aload_n 1, 1) := by decide +kernel
theorem dL_law_918 : decode cL_law 918 = .ok (.aload_n 0, 1) := by decide +kernel
theorem dL_law_919 : decode cL_law 919 = .ok (.iload_n 3, 1) := by decide +kernel
theorem dL_law_920 : decode cL_law 920 = .ok (.iconst 1, 1) := by decide +kernel
theorem dL_law_921 : decode cL_law 921 = .ok (.iadd, 1) := by decide +kernel
theorem dL_law_922 : decode cL_law 922 = .ok (.iaload, 1) := by decide +kernel
theorem dL_law_923 : decode cL_law 923 = .ok (.aload_n 0, 1) := by decide +kernel
theorem dL_law_924 : decode cL_law 924 = .ok (.iload_n 3, 1) := by decide +kernel
theorem dL_law_925 : decode cL_law 925 = .ok (.iconst 2, 1) := by decide +kernel
theorem dL_law_926 : decode cL_law 926 = .ok (.iadd, 1) := by decide +kernel
theorem dL_law_927 : decode cL_law 927 = .ok (.iaload, 1) := by decide +kernel
theorem dL_law_928 : decode cL_law 928 = .ok (.invokevirtual 109, 3) := by decide +kernel
theorem dL_law_931 : decode cL_law 931 = .ok (.aload_n 2, 1) := by decide +kernel
theorem dL_law_932 : decode cL_law 932 = .ok (.aload_n 0, 1) := by decide +kernel
theorem dL_law_933 : decode cL_law 933 = .ok (.iload_n 3, 1) := by decide +kernel
theorem dL_law_934 : decode cL_law 934 = .ok (.iconst 1, 1) := by decide +kernel
theorem dL_law_935 : decode cL_law 935 = .ok (.iadd, 1) := by decide +kernel
theorem dL_law_936 : decode cL_law 936 = .ok (.iaload, 1) := by decide +kernel
theorem dL_law_937 : decode cL_law 937 = .ok (.aload_n 0, 1) := by decide +kernel
theorem dL_law_938 : decode cL_law 938 = .ok (.iload_n 3, 1) := by decide +kernel
theorem dL_law_939 : decode cL_law 939 = .ok (.iconst 2, 1) := by decide +kernel
theorem dL_law_940 : decode cL_law 940 = .ok (.iadd, 1) := by decide +kernel
theorem dL_law_941 : decode cL_law 941 = .ok (.iaload, 1) := by decide +kernel
theorem dL_law_942 : decode cL_law 942 = .ok (.invokevirtual 112, 3) := by decide +kernel
theorem dL_law_945 : decode cL_law 945 = .ok (.if_icmp .eq 289, 3) := by decide +kernel
theorem dL_law_948 : decode cL_law 948 = .ok (.iconst 0, 1) := by decide +kernel
theorem dL_law_949 : decode cL_law 949 = .ok (.ireturn, 1) := by decide +kernel
theorem dL_law_950 : decode cL_law 950 = .ok (.aload_n 1, 1) := by decide +kernel
theorem dL_law_951 : decode cL_law 951 = .ok (.aload_n 0, 1) := by decide +kernel
theorem dL_law_952 : decode cL_law 952 = .ok (.iload_n 3, 1) := by decide +kernel
theorem dL_law_953 : decode cL_law 953 = .ok (.iconst 1, 1) := by decide +kernel
theorem dL_law_954 : decode cL_law 954 = .ok (.iadd, 1) := by decide +kernel
theorem dL_law_955 : decode cL_law 955 = .ok (.iaload, 1) := by decide +kernel
theorem dL_law_956 : decode cL_law 956 = .ok (.invokevirtual 113, 3) := by decide +kernel
theorem dL_law_959 : decode cL_law 959 = .ok (.aload_n 2, 1) := by decide +kernel
theorem dL_law_960 : decode cL_law 960 = .ok (.aload_n 0, 1) := by decide +kernel
theorem dL_law_961 : decode cL_law 961 = .ok (.iload_n 3, 1) := by decide +kernel
theorem dL_law_962 : decode cL_law 962 = .ok (.iconst 1, 1) := by decide +kernel
theorem dL_law_963 : decode cL_law 963 = .ok (.iadd, 1) := by decide +kernel
theorem dL_law_964 : decode cL_law 964 = .ok (.iaload, 1) := by decide +kernel
theorem dL_law_965 : decode cL_law 965 = .ok (.invokevirtual 116, 3) := by decide +kernel
theorem dL_law_968 : decode cL_law 968 = .ok (.if_icmp .eq 266, 3) := by decide +kernel
theorem dL_law_971 : decode cL_law 971 = .ok (.iconst 0, 1) := by decide +kernel
theorem dL_law_972 : decode cL_law 972 = .ok (.ireturn, 1) := by decide +kernel
theorem dL_law_973 : decode cL_law 973 = .ok (.aload_n 1, 1) := by decide +kernel
theorem dL_law_974 : decode cL_law 974 = .ok (.invokevirtual 117, 3) := by decide +kernel
theorem dL_law_977 : decode cL_law 977 = .ok (.aload_n 2, 1) := by decide +kernel
theorem dL_law_978 : decode cL_law 978 = .ok (.invokevirtual 120, 3) := by decide +kernel
theorem dL_law_981 : decode cL_law 981 = .ok (.if_icmp .eq 253, 3) := by decide +kernel
theorem dL_law_984 : decode cL_law 984 = .ok (.iconst 0, 1) := by decide +kernel
theorem dL_law_985 : decode cL_law 985 = .ok (.ireturn, 1) := by decide +kernel
theorem dL_law_986 : decode cL_law 986 = .ok (.aload_n 1, 1) := by decide +kernel
theorem dL_law_987 : decode cL_law 987 = .ok (.invokevirtual 121, 3) := by decide +kernel
theorem dL_law_990 : decode cL_law 990 = .ok (.aload_n 2, 1) := by decide +kernel
theorem dL_law_991 : decode cL_law 991 = .ok (.invokevirtual 124, 3) := by decide +kernel
theorem dL_law_994 : decode cL_law 994 = .ok (.if_icmp .eq 240, 3) := by decide +kernel
theorem dL_law_997 : decode cL_law 997 = .ok (.iconst 0, 1) := by decide +kernel
theorem dL_law_998 : decode cL_law 998 = .ok (.ireturn, 1) := by decide +kernel
theorem dL_law_999 : decode cL_law 999 = .ok (.aload_n 1, 1) := by decide +kernel
theorem dL_law_1000 : decode cL_law 1000 = .ok (.aload_n 0, 1) := by decide +kernel
theorem dL_law_1001 : decode cL_law 1001 = .ok (.iload_n 3, 1) := by decide +kernel
theorem dL_law_1002 : decode cL_law 1002 = .ok (.iconst 1, 1) := by decide +kernel
theorem dL_law_1003 : decode cL_law 1003 = .ok (.iadd, 1) := by decide +kernel
theorem dL_law_1004 : decode cL_law 1004 = .ok (.iaload, 1) := by decide +kernel
theorem dL_law_1005 : decode cL_law 1005 = .ok (.invokevirtual 125, 3) := by decide +kernel
theorem dL_law_1008 : decode cL_law 1008 = .ok (.aload_n 2, 1) := by decide +kernel
theorem dL_law_1009 : decode cL_law 1009 = .ok (.aload_n 0, 1) := by decide +kernel
theorem dL_law_1010 : decode cL_law 1010 = .ok (.iload_n 3, 1) := by decide +kernel
theorem dL_law_1011 : decode cL_law 1011 = .ok (.iconst 1, 1) := by decide +kernel
theorem dL_law_1012 : decode cL_law 1012 = .ok (.iadd, 1) := by decide +kernel
theorem dL_law_1013 : decode cL_law 1013 = .ok (.iaload, 1) := by decide +kernel
theorem dL_law_1014 : decode cL_law 1014 = .ok (.invokevirtual 128, 3) := by decide +kernel
theorem dL_law_1017 : decode cL_law 1017 = .ok (.if_icmp .eq 217, 3) := by decide +kernel
theorem dL_law_1020 : decode cL_law 1020 = .ok (.iconst 0, 1) := by decide +kernel
theorem dL_law_1021 : decode cL_law 1021 = .ok (.ireturn, 1) := by decide +kernel
theorem dL_law_1022 : decode cL_law 1022 = .ok (.aload_n 1, 1) := by decide +kernel
theorem dL_law_1023 : decode cL_law 1023 = .ok (.aload_n 0, 1) := by decide +kernel
theorem dL_law_1024 : decode cL_law 1024 = .ok (.iload_n 3, 1) := by decide +kernel
theorem dL_law_1025 : decode cL_law 1025 = .ok (.iconst 1, 1) := by decide +kernel
theorem dL_law_1026 : decode cL_law 1026 = .ok (.iadd, 1) := by decide +kernel
theorem dL_law_1027 : decode cL_law 1027 = .ok (.iaload, 1) := by decide +kernel
theorem dL_law_1028 : decode cL_law 1028 = .ok (.aload_n 0, 1) := by decide +kernel
theorem dL_law_1029 : decode cL_law 1029 = .ok (.iload_n 3, 1) := by decide +kernel
theorem dL_law_1030 : decode cL_law 1030 = .ok (.iconst 2, 1) := by decide +kernel
theorem dL_law_1031 : decode cL_law 1031 = .ok (.iadd, 1) := by decide +kernel
theorem dL_law_1032 : decode cL_law 1032 = .ok (.iaload, 1) := by decide +kernel
theorem dL_law_1033 : decode cL_law 1033 = .ok (.invokevirtual 129, 3) := by decide +kernel
theorem dL_law_1036 : decode cL_law 1036 = .ok (.aload_n 2, 1) := by decide +kernel
theorem dL_law_1037 : decode cL_law 1037 = .ok (.aload_n 0, 1) := by decide +kernel
theorem dL_law_1038 : decode cL_law 1038 = .ok (.iload_n 3, 1) := by decide +kernel
theorem dL_law_1039 : decode cL_law 1039 = .ok (.iconst 1, 1) := by decide +kernel
theorem dL_law_1040 : decode cL_law 1040 = .ok (.iadd, 1) := by decide +kernel
theorem dL_law_1041 : decode cL_law 1041 = .ok (.iaload, 1) := by decide +kernel
theorem dL_law_1042 : decode cL_law 1042 = .ok (.aload_n 0, 1) := by decide +kernel
theorem dL_law_1043 : decode cL_law 1043 = .ok (.iload_n 3, 1) := by decide +kernel
theorem dL_law_1044 : decode cL_law 1044 = .ok (.iconst 2, 1) := by decide +kernel
theorem dL_law_1045 : decode cL_law 1045 = .ok (.iadd, 1) := by decide +kernel
theorem dL_law_1046 : decode cL_law 1046 = .ok (.iaload, 1) := by decide +kernel
theorem dL_law_1047 : decode cL_law 1047 = .ok (.invokevirtual 132, 3) := by decide +kernel
theorem dL_law_1050 : decode cL_law 1050 = .ok (.if_icmp .eq 184, 3) := by decide +kernel
theorem dL_law_1053 : decode cL_law 1053 = .ok (.iconst 0, 1) := by decide +kernel
theorem dL_law_1054 : decode cL_law 1054 = .ok (.ireturn, 1) := by decide +kernel
theorem dL_law_1055 : decode cL_law 1055 = .ok (.aload_n 1, 1) := by decide +kernel
theorem dL_law_1056 : decode cL_law 1056 = .ok (.aload_n 0, 1) := by decide +kernel
theorem dL_law_1057 : decode cL_law 1057 = .ok (.iload_n 3, 1) := by decide +kernel
theorem dL_law_1058 : decode cL_law 1058 = .ok (.iconst 1, 1) := by decide +kernel
theorem dL_law_1059 : decode cL_law 1059 = .ok (.iadd, 1) := by decide +kernel
theorem dL_law_1060 : decode cL_law 1060 = .ok (.iaload, 1) := by decide +kernel
theorem dL_law_1061 : decode cL_law 1061 = .ok (.aload_n 0, 1) := by decide +kernel
theorem dL_law_1062 : decode cL_law 1062 = .ok (.iload_n 3, 1) := by decide +kernel
theorem dL_law_1063 : decode cL_law 1063 = .ok (.iconst 2, 1) := by decide +kernel
theorem dL_law_1064 : decode cL_law 1064 = .ok (.iadd, 1) := by decide +kernel
theorem dL_law_1065 : decode cL_law 1065 = .ok (.iaload, 1) := by decide +kernel
theorem dL_law_1066 : decode cL_law 1066 = .ok (.aload_n 0, 1) := by decide +kernel
theorem dL_law_1067 : decode cL_law 1067 = .ok (.iload_n 3, 1) := by decide +kernel
theorem dL_law_1068 : decode cL_law 1068 = .ok (.iconst 3, 1) := by decide +kernel
theorem dL_law_1069 : decode cL_law 1069 = .ok (.iadd, 1) := by decide +kernel
theorem dL_law_1070 : decode cL_law 1070 = .ok (.iaload, 1) := by decide +kernel
theorem dL_law_1071 : decode cL_law 1071 = .ok (.invokevirtual 133, 3) := by decide +kernel
theorem dL_law_1074 : decode cL_law 1074 = .ok (.aload_n 2, 1) := by decide +kernel
theorem dL_law_1075 : decode cL_law 1075 = .ok (.aload_n 0, 1) := by decide +kernel
theorem dL_law_1076 : decode cL_law 1076 = .ok (.iload_n 3, 1) := by decide +kernel
theorem dL_law_1077 : decode cL_law 1077 = .ok (.iconst 1, 1) := by decide +kernel
theorem dL_law_1078 : decode cL_law 1078 = .ok (.iadd, 1) := by decide +kernel
theorem dL_law_1079 : decode cL_law 1079 = .ok (.iaload, 1) := by decide +kernel
theorem dL_law_1080 : decode cL_law 1080 = .ok (.aload_n 0, 1) := by decide +kernel
theorem dL_law_1081 : decode cL_law 1081 = .ok (.iload_n 3, 1) := by decide +kernel
theorem dL_law_1082 : decode cL_law 1082 = .ok (.iconst 2, 1) := by decide +kernel
theorem dL_law_1083 : decode cL_law 1083 = .ok (.iadd, 1) := by decide +kernel
theorem dL_law_1084 : decode cL_law 1084 = .ok (.iaload, 1) := by decide +kernel
theorem dL_law_1085 : decode cL_law 1085 = .ok (.aload_n 0, 1) := by decide +kernel
theorem dL_law_1086 : decode cL_law 1086 = .ok (.iload_n 3, 1) := by decide +kernel
theorem dL_law_1087 : decode cL_law 1087 = .ok (.iconst 3, 1) := by decide +kernel
theorem dL_law_1088 : decode cL_law 1088 = .ok (.iadd, 1) := by decide +kernel
theorem dL_law_1089 : decode cL_law 1089 = .ok (.iaload, 1) := by decide +kernel
theorem dL_law_1090 : decode cL_law 1090 = .ok (.invokevirtual 136, 3) := by decide +kernel
theorem dL_law_1093 : decode cL_law 1093 = .ok (.if_icmp .eq 141, 3) := by decide +kernel
theorem dL_law_1096 : decode cL_law 1096 = .ok (.iconst 0, 1) := by decide +kernel
theorem dL_law_1097 : decode cL_law 1097 = .ok (.ireturn, 1) := by decide +kernel
theorem dL_law_1098 : decode cL_law 1098 = .ok (.aload_n 1, 1) := by decide +kernel
theorem dL_law_1099 : decode cL_law 1099 = .ok (.aload_n 0, 1) := by decide +kernel
theorem dL_law_1100 : decode cL_law 1100 = .ok (.iload_n 3, 1) := by decide +kernel
theorem dL_law_1101 : decode cL_law 1101 = .ok (.iconst 1, 1) := by decide +kernel
theorem dL_law_1102 : decode cL_law 1102 = .ok (.iadd, 1) := by decide +kernel
theorem dL_law_1103 : decode cL_law 1103 = .ok (.iaload, 1) := by decide +kernel
theorem dL_law_1104 : decode cL_law 1104 = .ok (.aload_n 0, 1) := by decide +kernel
theorem dL_law_1105 : decode cL_law 1105 = .ok (.iload_n 3, 1) := by decide +kernel
theorem dL_law_1106 : decode cL_law 1106 = .ok (.iconst 2, 1) := by decide +kernel
theorem dL_law_1107 : decode cL_law 1107 = .ok (.iadd, 1) := by decide +kernel
theorem dL_law_1108 : decode cL_law 1108 = .ok (.iaload, 1) := by decide +kernel
theorem dL_law_1109 : decode cL_law 1109 = .ok (.invokevirtual 137, 3) := by decide +kernel
theorem dL_law_1112 : decode cL_law 1112 = .ok (.aload_n 2, 1) := by decide +kernel
theorem dL_law_1113 : decode cL_law 1113 = .ok (.aload_n 0, 1) := by decide +kernel
theorem dL_law_1114 : decode cL_law 1114 = .ok (.iload_n 3, 1) := by decide +kernel
theorem dL_law_1115 : decode cL_law 1115 = .ok (.iconst 1, 1) := by decide +kernel
theorem dL_law_1116 : decode cL_law 1116 = .ok (.iadd, 1) := by decide +kernel
theorem dL_law_1117 : decode cL_law 1117 = .ok (.iaload, 1) := by decide +kernel
theorem dL_law_1118 : decode cL_law 1118 = .ok (.aload_n 0, 1) := by decide +kernel
theorem dL_law_1119 : decode cL_law 1119 = .ok (.iload_n 3, 1) := by decide +kernel
theorem dL_law_1120 : decode cL_law 1120 = .ok (.iconst 2, 1) := by decide +kernel
theorem dL_law_1121 : decode cL_law 1121 = .ok (.iadd, 1) := by decide +kernel
theorem dL_law_1122 : decode cL_law 1122 = .ok (.iaload, 1) := by decide +kernel
theorem dL_law_1123 : decode cL_law 1123 = .ok (.invokevirtual 141, 3) := by decide +kernel
theorem dL_law_1126 : decode cL_law 1126 = .ok (.lcmp, 1) := by decide +kernel
theorem dL_law_1127 : decode cL_law 1127 = .ok (.ifCond .eq 107, 3) := by decide +kernel
theorem dL_law_1130 : decode cL_law 1130 = .ok (.iconst 0, 1) := by decide +kernel
theorem dL_law_1131 : decode cL_law 1131 = .ok (.ireturn, 1) := by decide +kernel
theorem dL_law_1132 : decode cL_law 1132 = .ok (.aload_n 1, 1) := by decide +kernel
theorem dL_law_1133 : decode cL_law 1133 = .ok (.aload_n 0, 1) := by decide +kernel
theorem dL_law_1134 : decode cL_law 1134 = .ok (.iload_n 3, 1) := by decide +kernel
theorem dL_law_1135 : decode cL_law 1135 = .ok (.iconst 1, 1) := by decide +kernel
theorem dL_law_1136 : decode cL_law 1136 = .ok (.iadd, 1) := by decide +kernel
theorem dL_law_1137 : decode cL_law 1137 = .ok (.iaload, 1) := by decide +kernel
theorem dL_law_1138 : decode cL_law 1138 = .ok (.aload_n 0, 1) := by decide +kernel
theorem dL_law_1139 : decode cL_law 1139 = .ok (.iload_n 3, 1) := by decide +kernel
theorem dL_law_1140 : decode cL_law 1140 = .ok (.iconst 2, 1) := by decide +kernel
theorem dL_law_1141 : decode cL_law 1141 = .ok (.iadd, 1) := by decide +kernel
theorem dL_law_1142 : decode cL_law 1142 = .ok (.iaload, 1) := by decide +kernel
theorem dL_law_1143 : decode cL_law 1143 = .ok (.invokevirtual 142, 3) := by decide +kernel
theorem dL_law_1146 : decode cL_law 1146 = .ok (.aload_n 2, 1) := by decide +kernel
theorem dL_law_1147 : decode cL_law 1147 = .ok (.aload_n 0, 1) := by decide +kernel
theorem dL_law_1148 : decode cL_law 1148 = .ok (.iload_n 3, 1) := by decide +kernel
theorem dL_law_1149 : decode cL_law 1149 = .ok (.iconst 1, 1) := by decide +kernel
theorem dL_law_1150 : decode cL_law 1150 = .ok (.iadd, 1) := by decide +kernel
theorem dL_law_1151 : decode cL_law 1151 = .ok (.iaload, 1) := by decide +kernel
theorem dL_law_1152 : decode cL_law 1152 = .ok (.aload_n 0, 1) := by decide +kernel
theorem dL_law_1153 : decode cL_law 1153 = .ok (.iload_n 3, 1) := by decide +kernel
theorem dL_law_1154 : decode cL_law 1154 = .ok (.iconst 2, 1) := by decide +kernel
theorem dL_law_1155 : decode cL_law 1155 = .ok (.iadd, 1) := by decide +kernel
theorem dL_law_1156 : decode cL_law 1156 = .ok (.iaload, 1) := by decide +kernel
theorem dL_law_1157 : decode cL_law 1157 = .ok (.invokevirtual 145, 3) := by decide +kernel
theorem dL_law_1160 : decode cL_law 1160 = .ok (.if_icmp .eq 74, 3) := by decide +kernel
theorem dL_law_1163 : decode cL_law 1163 = .ok (.iconst 0, 1) := by decide +kernel
theorem dL_law_1164 : decode cL_law 1164 = .ok (.ireturn, 1) := by decide +kernel
theorem dL_law_1165 : decode cL_law 1165 = .ok (.aload_n 1, 1) := by decide +kernel
theorem dL_law_1166 : decode cL_law 1166 = .ok (.aload_n 0, 1) := by decide +kernel
theorem dL_law_1167 : decode cL_law 1167 = .ok (.iload_n 3, 1) := by decide +kernel
theorem dL_law_1168 : decode cL_law 1168 = .ok (.iconst 1, 1) := by decide +kernel
theorem dL_law_1169 : decode cL_law 1169 = .ok (.iadd, 1) := by decide +kernel
theorem dL_law_1170 : decode cL_law 1170 = .ok (.iaload, 1) := by decide +kernel
theorem dL_law_1171 : decode cL_law 1171 = .ok (.aload_n 0, 1) := by decide +kernel
theorem dL_law_1172 : decode cL_law 1172 = .ok (.iload_n 3, 1) := by decide +kernel
theorem dL_law_1173 : decode cL_law 1173 = .ok (.iconst 2, 1) := by decide +kernel
theorem dL_law_1174 : decode cL_law 1174 = .ok (.iadd, 1) := by decide +kernel
theorem dL_law_1175 : decode cL_law 1175 = .ok (.iaload, 1) := by decide +kernel
theorem dL_law_1176 : decode cL_law 1176 = .ok (.aload_n 0, 1) := by decide +kernel
theorem dL_law_1177 : decode cL_law 1177 = .ok (.iload_n 3, 1) := by decide +kernel
theorem dL_law_1178 : decode cL_law 1178 = .ok (.iconst 3, 1) := by decide +kernel
theorem dL_law_1179 : decode cL_law 1179 = .ok (.iadd, 1) := by decide +kernel
theorem dL_law_1180 : decode cL_law 1180 = .ok (.iaload, 1) := by decide +kernel
theorem dL_law_1181 : decode cL_law 1181 = .ok (.invokevirtual 146, 3) := by decide +kernel
theorem dL_law_1184 : decode cL_law 1184 = .ok (.aload_n 2, 1) := by decide +kernel
theorem dL_law_1185 : decode cL_law 1185 = .ok (.aload_n 0, 1) := by decide +kernel
theorem dL_law_1186 : decode cL_law 1186 = .ok (.iload_n 3, 1) := by decide +kernel
theorem dL_law_1187 : decode cL_law 1187 = .ok (.iconst 1, 1) := by decide +kernel
theorem dL_law_1188 : decode cL_law 1188 = .ok (.iadd, 1) := by decide +kernel
theorem dL_law_1189 : decode cL_law 1189 = .ok (.iaload, 1) := by decide +kernel
theorem dL_law_1190 : decode cL_law 1190 = .ok (.aload_n 0, 1) := by decide +kernel
theorem dL_law_1191 : decode cL_law 1191 = .ok (.iload_n 3, 1) := by decide +kernel
theorem dL_law_1192 : decode cL_law 1192 = .ok (.iconst 2, 1) := by decide +kernel
theorem dL_law_1193 : decode cL_law 1193 = .ok (.iadd, 1) := by decide +kernel
theorem dL_law_1194 : decode cL_law 1194 = .ok (.iaload, 1) := by decide +kernel
theorem dL_law_1195 : decode cL_law 1195 = .ok (.aload_n 0, 1) := by decide +kernel
theorem dL_law_1196 : decode cL_law 1196 = .ok (.iload_n 3, 1) := by decide +kernel
theorem dL_law_1197 : decode cL_law 1197 = .ok (.iconst 3, 1) := by decide +kernel
theorem dL_law_1198 : decode cL_law 1198 = .ok (.iadd, 1) := by decide +kernel
theorem dL_law_1199 : decode cL_law 1199 = .ok (.iaload, 1) := by decide +kernel
theorem dL_law_1200 : decode cL_law 1200 = .ok (.invokevirtual 149, 3) := by decide +kernel
theorem dL_law_1203 : decode cL_law 1203 = .ok (.if_icmp .eq 31, 3) := by decide +kernel
theorem dL_law_1206 : decode cL_law 1206 = .ok (.iconst 0, 1) := by decide +kernel
theorem dL_law_1207 : decode cL_law 1207 = .ok (.ireturn, 1) := by decide +kernel
theorem dL_law_1208 : decode cL_law 1208 = .ok (.aload_n 1, 1) := by decide +kernel
theorem dL_law_1209 : decode cL_law 1209 = .ok (.invokevirtual 150, 3) := by decide +kernel
theorem dL_law_1212 : decode cL_law 1212 = .ok (.aload_n 2, 1) := by decide +kernel
theorem dL_law_1213 : decode cL_law 1213 = .ok (.invokevirtual 153, 3) := by decide +kernel
theorem dL_law_1216 : decode cL_law 1216 = .ok (.if_icmp .eq 18, 3) := by decide +kernel
theorem dL_law_1219 : decode cL_law 1219 = .ok (.iconst 0, 1) := by decide +kernel
theorem dL_law_1220 : decode cL_law 1220 = .ok (.ireturn, 1) := by decide +kernel
theorem dL_law_1221 : decode cL_law 1221 = .ok (.aload_n 1, 1) := by decide +kernel
theorem dL_law_1222 : decode cL_law 1222 = .ok (.invokevirtual 154, 3) := by decide +kernel
theorem dL_law_1225 : decode cL_law 1225 = .ok (.aload_n 2, 1) := by decide +kernel
theorem dL_law_1226 : decode cL_law 1226 = .ok (.invokevirtual 157, 3) := by decide +kernel
theorem dL_law_1229 : decode cL_law 1229 = .ok (.if_icmp .eq 5, 3) := by decide +kernel
theorem dL_law_1232 : decode cL_law 1232 = .ok (.iconst 0, 1) := by decide +kernel
theorem dL_law_1233 : decode cL_law 1233 = .ok (.ireturn, 1) := by decide +kernel
theorem dL_law_1234 : decode cL_law 1234 = .ok (.iinc 3 4, 3) := by decide +kernel
theorem dL_law_1237 : decode cL_law 1237 = .ok (.goto (-1219), 3) := by decide +kernel
theorem dL_law_1240 : decode cL_law 1240 = .ok (.iconst 1, 1) := by decide +kernel
theorem dL_law_1241 : decode cL_law 1241 = .ok (.ireturn, 1) := by decide +kernel
