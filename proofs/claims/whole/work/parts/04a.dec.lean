theorem dX0_init_0 : decode cX0_init 0 = .ok (.aload_n 0, 1) := by decide +kernel
theorem dX0_init_1 : decode cX0_init 1 = .ok (.invokespecial 3, 3) := by decide +kernel
theorem dX0_init_4 : decode cX0_init 4 = .ok (.aload_n 0, 1) := by decide +kernel
theorem dX0_init_5 : decode cX0_init 5 = .ok (.bipush 16, 2) := by decide +kernel
theorem dX0_init_7 : decode cX0_init 7 = .ok (.newarray .int, 2) := by decide +kernel
theorem dX0_init_9 : decode cX0_init 9 = .ok (.putfield 9, 3) := by decide +kernel
theorem dX0_init_12 : decode cX0_init 12 = .ok (.return_, 1) := by decide +kernel
theorem dX0_put_0 : decode cX0_put 0 = .ok (.iload_n 1, 1) := by decide +kernel
theorem dX0_put_1 : decode cX0_put 1 = .ok (.iconst 4, 1) := by decide +kernel
theorem dX0_put_2 : decode cX0_put 2 = .ok (.imul, 1) := by decide +kernel
theorem dX0_put_3 : decode cX0_put 3 = .ok (.iload_n 2, 1) := by decide +kernel
theorem dX0_put_4 : decode cX0_put 4 = .ok (.iadd, 1) := by decide +kernel
theorem dX0_put_5 : decode cX0_put 5 = .ok (.istore 4, 2) := by decide +kernel
theorem dX0_put_7 : decode cX0_put 7 = .ok (.iload 4, 2) := by decide +kernel
theorem dX0_put_9 : decode cX0_put 9 = .ok (.ifCond .lt 21, 3) := by decide +kernel
theorem dX0_put_12 : decode cX0_put 12 = .ok (.iload 4, 2) := by decide +kernel
theorem dX0_put_14 : decode cX0_put 14 = .ok (.aload_n 0, 1) := by decide +kernel
theorem dX0_put_15 : decode cX0_put 15 = .ok (.getfield 9, 3) := by decide +kernel
theorem dX0_put_18 : decode cX0_put 18 = .ok (.arraylength, 1) := by decide +kernel
theorem dX0_put_19 : decode cX0_put 19 = .ok (.if_icmp .ge 11, 3) := by decide +kernel
theorem dX0_put_22 : decode cX0_put 22 = .ok (.aload_n 0, 1) := by decide +kernel
theorem dX0_put_23 : decode cX0_put 23 = .ok (.getfield 9, 3) := by decide +kernel
theorem dX0_put_26 : decode cX0_put 26 = .ok (.iload 4, 2) := by decide +kernel
theorem dX0_put_28 : decode cX0_put 28 = .ok (.iload_n 3, 1) := by decide +kernel
theorem dX0_put_29 : decode cX0_put 29 = .ok (.iastore, 1) := by decide +kernel
theorem dX0_put_30 : decode cX0_put 30 = .ok (.return_, 1) := by decide +kernel
theorem dX0_at_0 : decode cX0_at 0 = .ok (.iload_n 1, 1) := by decide +kernel
theorem dX0_at_1 : decode cX0_at 1 = .ok (.iconst 4, 1) := by decide +kernel
theorem dX0_at_2 : decode cX0_at 2 = .ok (.imul, 1) := by decide +kernel
theorem dX0_at_3 : decode cX0_at 3 = .ok (.iload_n 2, 1) := by decide +kernel
theorem dX0_at_4 : decode cX0_at 4 = .ok (.iadd, 1) := by decide +kernel
theorem dX0_at_5 : decode cX0_at 5 = .ok (.istore_n 3, 1) := by decide +kernel
theorem dX0_at_6 : decode cX0_at 6 = .ok (.iload_n 3, 1) := by decide +kernel
theorem dX0_at_7 : decode cX0_at 7 = .ok (.ifCond .lt 21, 3) := by decide +kernel
theorem dX0_at_10 : decode cX0_at 10 = .ok (.iload_n 3, 1) := by decide +kernel
theorem dX0_at_11 : decode cX0_at 11 = .ok (.aload_n 0, 1) := by decide +kernel
theorem dX0_at_12 : decode cX0_at 12 = .ok (.getfield 9, 3) := by decide +kernel
theorem dX0_at_15 : decode cX0_at 15 = .ok (.arraylength, 1) := by decide +kernel
theorem dX0_at_16 : decode cX0_at 16 = .ok (.if_icmp .ge 12, 3) := by decide +kernel
theorem dX0_at_19 : decode cX0_at 19 = .ok (.aload_n 0, 1) := by decide +kernel
theorem dX0_at_20 : decode cX0_at 20 = .ok (.getfield 9, 3) := by decide +kernel
theorem dX0_at_23 : decode cX0_at 23 = .ok (.iload_n 3, 1) := by decide +kernel
theorem dX0_at_24 : decode cX0_at 24 = .ok (.iaload, 1) := by decide +kernel
theorem dX0_at_25 : decode cX0_at 25 = .ok (.goto 4, 3) := by decide +kernel
theorem dX0_at_28 : decode cX0_at 28 = .ok (.iconst (-1), 1) := by decide +kernel
theorem dX0_at_29 : decode cX0_at 29 = .ok (.ireturn, 1) := by decide +kernel
theorem dX0_bestQuestion_0 : decode cX0_bestQuestion 0 = .ok (.iload_n 1, 1) := by decide +kernel
theorem dX0_bestQuestion_1 : decode cX0_bestQuestion 1 = .ok (.ifCond .ne 5, 3) := by decide +kernel
theorem dX0_bestQuestion_4 : decode cX0_bestQuestion 4 = .ok (.iconst (-1), 1) := by decide +kernel
theorem dX0_bestQuestion_5 : decode cX0_bestQuestion 5 = .ok (.ireturn, 1) := by decide +kernel
theorem dX0_bestQuestion_6 : decode cX0_bestQuestion 6 = .ok (.iconst 0, 1) := by decide +kernel
theorem dX0_bestQuestion_7 : decode cX0_bestQuestion 7 = .ok (.istore_n 2, 1) := by decide +kernel
theorem dX0_bestQuestion_8 : decode cX0_bestQuestion 8 = .ok (.iconst 1, 1) := by decide +kernel
theorem dX0_bestQuestion_9 : decode cX0_bestQuestion 9 = .ok (.istore_n 3, 1) := by decide +kernel
theorem dX0_bestQuestion_10 : decode cX0_bestQuestion 10 = .ok (.iload_n 3, 1) := by decide +kernel
theorem dX0_bestQuestion_11 : decode cX0_bestQuestion 11 = .ok (.iconst 4, 1) := by decide +kernel
theorem dX0_bestQuestion_12 : decode cX0_bestQuestion 12 = .ok (.if_icmp .ge 26, 3) := by decide +kernel
theorem dX0_bestQuestion_15 : decode cX0_bestQuestion 15 = .ok (.aload_n 0, 1) := by decide +kernel
theorem dX0_bestQuestion_16 : decode cX0_bestQuestion 16 = .ok (.iload_n 3, 1) := by decide +kernel
theorem dX0_bestQuestion_17 : decode cX0_bestQuestion 17 = .ok (.iload_n 1, 1) := by decide +kernel
theorem dX0_bestQuestion_18 : decode cX0_bestQuestion 18 = .ok (.invokevirtual 15, 3) := by decide +kernel
theorem dX0_bestQuestion_21 : decode cX0_bestQuestion 21 = .ok (.aload_n 0, 1) := by decide +kernel
theorem dX0_bestQuestion_22 : decode cX0_bestQuestion 22 = .ok (.iload_n 2, 1) := by decide +kernel
theorem dX0_bestQuestion_23 : decode cX0_bestQuestion 23 = .ok (.iload_n 1, 1) := by decide +kernel
theorem dX0_bestQuestion_24 : decode cX0_bestQuestion 24 = .ok (.invokevirtual 15, 3) := by decide +kernel
theorem dX0_bestQuestion_27 : decode cX0_bestQuestion 27 = .ok (.if_icmp .ge 5, 3) := by decide +kernel
theorem dX0_bestQuestion_30 : decode cX0_bestQuestion 30 = .ok (.iload_n 3, 1) := by decide +kernel
theorem dX0_bestQuestion_31 : decode cX0_bestQuestion 31 = .ok (.istore_n 2, 1) := by decide +kernel
theorem dX0_bestQuestion_32 : decode cX0_bestQuestion 32 = .ok (.iinc 3 1, 3) := by decide +kernel
theorem dX0_bestQuestion_35 : decode cX0_bestQuestion 35 = .ok (.goto (-25), 3) := by decide +kernel
theorem dX0_bestQuestion_38 : decode cX0_bestQuestion 38 = .ok (.iload_n 2, 1) := by decide +kernel
theorem dX0_bestQuestion_39 : decode cX0_bestQuestion 39 = .ok (.ireturn, 1) := by decide +kernel
theorem dX0_mostLeft_0 : decode cX0_mostLeft 0 = .ok (.iconst 0, 1) := by decide +kernel
theorem dX0_mostLeft_1 : decode cX0_mostLeft 1 = .ok (.istore_n 3, 1) := by decide +kernel
theorem dX0_mostLeft_2 : decode cX0_mostLeft 2 = .ok (.iconst 1, 1) := by decide +kernel
theorem dX0_mostLeft_3 : decode cX0_mostLeft 3 = .ok (.istore 4, 2) := by decide +kernel
theorem dX0_mostLeft_5 : decode cX0_mostLeft 5 = .ok (.iload 4, 2) := by decide +kernel
theorem dX0_mostLeft_7 : decode cX0_mostLeft 7 = .ok (.iconst 3, 1) := by decide +kernel
theorem dX0_mostLeft_8 : decode cX0_mostLeft 8 = .ok (.if_icmp .gt 32, 3) := by decide +kernel
theorem dX0_mostLeft_11 : decode cX0_mostLeft 11 = .ok (.iload_n 2, 1) := by decide +kernel
theorem dX0_mostLeft_12 : decode cX0_mostLeft 12 = .ok (.iload 4, 2) := by decide +kernel
theorem dX0_mostLeft_14 : decode cX0_mostLeft 14 = .ok (.ishr, 1) := by decide +kernel
theorem dX0_mostLeft_15 : decode cX0_mostLeft 15 = .ok (.iconst 1, 1) := by decide +kernel
theorem dX0_mostLeft_16 : decode cX0_mostLeft 16 = .ok (.iand, 1) := by decide +kernel
theorem dX0_mostLeft_17 : decode cX0_mostLeft 17 = .ok (.iconst 1, 1) := by decide +kernel
theorem dX0_mostLeft_18 : decode cX0_mostLeft 18 = .ok (.if_icmp .ne 16, 3) := by decide +kernel
theorem dX0_mostLeft_21 : decode cX0_mostLeft 21 = .ok (.iload_n 3, 1) := by decide +kernel
theorem dX0_mostLeft_22 : decode cX0_mostLeft 22 = .ok (.aload_n 0, 1) := by decide +kernel
theorem dX0_mostLeft_23 : decode cX0_mostLeft 23 = .ok (.iload 4, 2) := by decide +kernel
theorem dX0_mostLeft_25 : decode cX0_mostLeft 25 = .ok (.iload_n 1, 1) := by decide +kernel
theorem dX0_mostLeft_26 : decode cX0_mostLeft 26 = .ok (.iload_n 2, 1) := by decide +kernel
theorem dX0_mostLeft_27 : decode cX0_mostLeft 27 = .ok (.invokevirtual 19, 3) := by decide +kernel
theorem dX0_mostLeft_30 : decode cX0_mostLeft 30 = .ok (.invokestatic 23, 3) := by decide +kernel
theorem dX0_mostLeft_33 : decode cX0_mostLeft 33 = .ok (.istore_n 3, 1) := by decide +kernel
theorem dX0_mostLeft_34 : decode cX0_mostLeft 34 = .ok (.iinc 4 1, 3) := by decide +kernel
theorem dX0_mostLeft_37 : decode cX0_mostLeft 37 = .ok (.goto (-32), 3) := by decide +kernel
theorem dX0_mostLeft_40 : decode cX0_mostLeft 40 = .ok (.iload_n 3, 1) := by decide +kernel
theorem dX0_mostLeft_41 : decode cX0_mostLeft 41 = .ok (.ireturn, 1) := by decide +kernel
theorem dX0_kindsLike_0 : decode cX0_kindsLike 0 = .ok (.iconst 0, 1) := by decide +kernel
theorem dX0_kindsLike_1 : decode cX0_kindsLike 1 = .ok (.istore 4, 2) := by decide +kernel
theorem dX0_kindsLike_3 : decode cX0_kindsLike 3 = .ok (.iconst 1, 1) := by decide +kernel
theorem dX0_kindsLike_4 : decode cX0_kindsLike 4 = .ok (.istore 5, 2) := by decide +kernel
theorem dX0_kindsLike_6 : decode cX0_kindsLike 6 = .ok (.iload 5, 2) := by decide +kernel
theorem dX0_kindsLike_8 : decode cX0_kindsLike 8 = .ok (.iconst 3, 1) := by decide +kernel
theorem dX0_kindsLike_9 : decode cX0_kindsLike 9 = .ok (.if_icmp .gt 57, 3) := by decide +kernel
theorem dX0_kindsLike_12 : decode cX0_kindsLike 12 = .ok (.aload_n 0, 1) := by decide +kernel
theorem dX0_kindsLike_13 : decode cX0_kindsLike 13 = .ok (.iload 5, 2) := by decide +kernel
theorem dX0_kindsLike_15 : decode cX0_kindsLike 15 = .ok (.iload_n 2, 1) := by decide +kernel
theorem dX0_kindsLike_16 : decode cX0_kindsLike 16 = .ok (.invokevirtual 28, 3) := by decide +kernel
theorem dX0_kindsLike_19 : decode cX0_kindsLike 19 = .ok (.aload_n 0, 1) := by decide +kernel
theorem dX0_kindsLike_20 : decode cX0_kindsLike 20 = .ok (.iload_n 1, 1) := by decide +kernel
theorem dX0_kindsLike_21 : decode cX0_kindsLike 21 = .ok (.iload_n 2, 1) := by decide +kernel
theorem dX0_kindsLike_22 : decode cX0_kindsLike 22 = .ok (.invokevirtual 28, 3) := by decide +kernel
theorem dX0_kindsLike_25 : decode cX0_kindsLike 25 = .ok (.if_icmp .ne 7, 3) := by decide +kernel
theorem dX0_kindsLike_28 : decode cX0_kindsLike 28 = .ok (.iconst 1, 1) := by decide +kernel
theorem dX0_kindsLike_29 : decode cX0_kindsLike 29 = .ok (.goto 4, 3) := by decide +kernel
theorem dX0_kindsLike_32 : decode cX0_kindsLike 32 = .ok (.iconst 0, 1) := by decide +kernel
theorem dX0_kindsLike_33 : decode cX0_kindsLike 33 = .ok (.istore 6, 2) := by decide +kernel
theorem dX0_kindsLike_35 : decode cX0_kindsLike 35 = .ok (.iload 4, 2) := by decide +kernel
theorem dX0_kindsLike_37 : decode cX0_kindsLike 37 = .ok (.iload 6, 2) := by decide +kernel
theorem dX0_kindsLike_39 : decode cX0_kindsLike 39 = .ok (.ifCond .eq 17, 3) := by decide +kernel
theorem dX0_kindsLike_42 : decode cX0_kindsLike 42 = .ok (.iload_n 3, 1) := by decide +kernel
theorem dX0_kindsLike_43 : decode cX0_kindsLike 43 = .ok (.iload 5, 2) := by decide +kernel
theorem dX0_kindsLike_45 : decode cX0_kindsLike 45 = .ok (.ishr, 1) := by decide +kernel
theorem dX0_kindsLike_46 : decode cX0_kindsLike 46 = .ok (.iconst 1, 1) := by decide +kernel
theorem dX0_kindsLike_47 : decode cX0_kindsLike 47 = .ok (.iand, 1) := by decide +kernel
theorem dX0_kindsLike_48 : decode cX0_kindsLike 48 = .ok (.iconst 1, 1) := by decide +kernel
theorem dX0_kindsLike_49 : decode cX0_kindsLike 49 = .ok (.if_icmp .ne 7, 3) := by decide +kernel
theorem dX0_kindsLike_52 : decode cX0_kindsLike 52 = .ok (.iconst 1, 1) := by decide +kernel
theorem dX0_kindsLike_53 : decode cX0_kindsLike 53 = .ok (.goto 4, 3) := by decide +kernel
theorem dX0_kindsLike_56 : decode cX0_kindsLike 56 = .ok (.iconst 0, 1) := by decide +kernel
theorem dX0_kindsLike_57 : decode cX0_kindsLike 57 = .ok (.iadd, 1) := by decide +kernel
theorem dX0_kindsLike_58 : decode cX0_kindsLike 58 = .ok (.istore 4, 2) := by decide +kernel
theorem dX0_kindsLike_60 : decode cX0_kindsLike 60 = .ok (.iinc 5 1, 3) := by decide +kernel
theorem dX0_kindsLike_63 : decode cX0_kindsLike 63 = .ok (.goto (-57), 3) := by decide +kernel
theorem dX0_kindsLike_66 : decode cX0_kindsLike 66 = .ok (.iload 4, 2) := by decide +kernel
theorem dX0_kindsLike_68 : decode cX0_kindsLike 68 = .ok (.ireturn, 1) := by decide +kernel
theorem dX1_init_0 : decode cX1_init 0 = .ok (.aload_n 0, 1) := by decide +kernel
theorem dX1_init_1 : decode cX1_init 1 = .ok (.invokespecial 3, 3) := by decide +kernel
theorem dX1_init_4 : decode cX1_init 4 = .ok (.aload_n 0, 1) := by decide +kernel
theorem dX1_init_5 : decode cX1_init 5 = .ok (.bipush 80, 2) := by decide +kernel
theorem dX1_init_7 : decode cX1_init 7 = .ok (.newarray .int, 2) := by decide +kernel
theorem dX1_init_9 : decode cX1_init 9 = .ok (.putfield 9, 3) := by decide +kernel
theorem dX1_init_12 : decode cX1_init 12 = .ok (.aload_n 0, 1) := by decide +kernel
theorem dX1_init_13 : decode cX1_init 13 = .ok (.bipush 80, 2) := by decide +kernel
theorem dX1_init_15 : decode cX1_init 15 = .ok (.newarray .int, 2) := by decide +kernel
theorem dX1_init_17 : decode cX1_init 17 = .ok (.putfield 15, 3) := by decide +kernel
theorem dX1_init_20 : decode cX1_init 20 = .ok (.aload_n 0, 1) := by decide +kernel
theorem dX1_init_21 : decode cX1_init 21 = .ok (.bipush 8, 2) := by decide +kernel
theorem dX1_init_23 : decode cX1_init 23 = .ok (.newarray .int, 2) := by decide +kernel
theorem dX1_init_25 : decode cX1_init 25 = .ok (.putfield 18, 3) := by decide +kernel
theorem dX1_init_28 : decode cX1_init 28 = .ok (.return_, 1) := by decide +kernel
theorem dX1_drawFrom_0 : decode cX1_drawFrom 0 = .ok (.aload_n 2, 1) := by decide +kernel
theorem dX1_drawFrom_1 : decode cX1_drawFrom 1 = .ok (.invokevirtual 21, 3) := by decide +kernel
theorem dX1_drawFrom_4 : decode cX1_drawFrom 4 = .ok (.aload_n 0, 1) := by decide +kernel
theorem dX1_drawFrom_5 : decode cX1_drawFrom 5 = .ok (.getfield 18, 3) := by decide +kernel
theorem dX1_drawFrom_8 : decode cX1_drawFrom 8 = .ok (.iconst 0, 1) := by decide +kernel
theorem dX1_drawFrom_9 : decode cX1_drawFrom 9 = .ok (.invokestatic 26, 3) := by decide +kernel
theorem dX1_drawFrom_12 : decode cX1_drawFrom 12 = .ok (.aload_n 0, 1) := by decide +kernel
theorem dX1_drawFrom_13 : decode cX1_drawFrom 13 = .ok (.iconst 0, 1) := by decide +kernel
theorem dX1_drawFrom_14 : decode cX1_drawFrom 14 = .ok (.putfield 32, 3) := by decide +kernel
theorem dX1_drawFrom_17 : decode cX1_drawFrom 17 = .ok (.aload_n 0, 1) := by decide +kernel
theorem dX1_drawFrom_18 : decode cX1_drawFrom 18 = .ok (.iconst 0, 1) := by decide +kernel
theorem dX1_drawFrom_19 : decode cX1_drawFrom 19 = .ok (.putfield 36, 3) := by decide +kernel
theorem dX1_drawFrom_22 : decode cX1_drawFrom 22 = .ok (.iconst 0, 1) := by decide +kernel
theorem dX1_drawFrom_23 : decode cX1_drawFrom 23 = .ok (.istore_n 3, 1) := by decide +kernel
theorem dX1_drawFrom_24 : decode cX1_drawFrom 24 = .ok (.iload_n 3, 1) := by decide +kernel
theorem dX1_drawFrom_25 : decode cX1_drawFrom 25 = .ok (.aload_n 1, 1) := by decide +kernel
theorem dX1_drawFrom_26 : decode cX1_drawFrom 26 = .ok (.invokevirtual 39, 3) := by decide +kernel
theorem dX1_drawFrom_29 : decode cX1_drawFrom 29 = .ok (.if_icmp .ge 24, 3) := by decide +kernel
theorem dX1_drawFrom_32 : decode cX1_drawFrom 32 = .ok (.aload_n 0, 1) := by decide +kernel
theorem dX1_drawFrom_33 : decode cX1_drawFrom 33 = .ok (.aload_n 1, 1) := by decide +kernel
theorem dX1_drawFrom_34 : decode cX1_drawFrom 34 = .ok (.iload_n 3, 1) := by decide +kernel
theorem dX1_drawFrom_35 : decode cX1_drawFrom 35 = .ok (.invokevirtual 45, 3) := by decide +kernel
theorem dX1_drawFrom_38 : decode cX1_drawFrom 38 = .ok (.aload_n 2, 1) := by decide +kernel
theorem dX1_drawFrom_39 : decode cX1_drawFrom 39 = .ok (.invokevirtual 49, 3) := by decide +kernel
theorem dX1_drawFrom_42 : decode cX1_drawFrom 42 = .ok (.ifCond .ne 5, 3) := by decide +kernel
theorem dX1_drawFrom_45 : decode cX1_drawFrom 45 = .ok (.iload_n 3, 1) := by decide +kernel
theorem dX1_drawFrom_46 : decode cX1_drawFrom 46 = .ok (.ireturn, 1) := by decide +kernel
theorem dX1_drawFrom_47 : decode cX1_drawFrom 47 = .ok (.iinc 3 1, 3) := by decide +kernel
theorem dX1_drawFrom_50 : decode cX1_drawFrom 50 = .ok (.goto (-26), 3) := by decide +kernel
theorem dX1_drawFrom_53 : decode cX1_drawFrom 53 = .ok (.aload_n 1, 1) := by decide +kernel
theorem dX1_drawFrom_54 : decode cX1_drawFrom 54 = .ok (.invokevirtual 39, 3) := by decide +kernel
theorem dX1_drawFrom_57 : decode cX1_drawFrom 57 = .ok (.ireturn, 1) := by decide +kernel
theorem dX1_isWhole_0 : decode cX1_isWhole 0 = .ok (.aload_n 0, 1) := by decide +kernel
theorem dX1_isWhole_1 : decode cX1_isWhole 1 = .ok (.getfield 36, 3) := by decide +kernel
theorem dX1_isWhole_4 : decode cX1_isWhole 4 = .ok (.iconst 3, 1) := by decide +kernel
theorem dX1_isWhole_5 : decode cX1_isWhole 5 = .ok (.if_icmp .ne 14, 3) := by decide +kernel
theorem dX1_isWhole_8 : decode cX1_isWhole 8 = .ok (.aload_n 0, 1) := by decide +kernel
theorem dX1_isWhole_9 : decode cX1_isWhole 9 = .ok (.getfield 32, 3) := by decide +kernel
theorem dX1_isWhole_12 : decode cX1_isWhole 12 = .ok (.ifCond .ne 7, 3) := by decide +kernel
theorem dX1_isWhole_15 : decode cX1_isWhole 15 = .ok (.iconst 1, 1) := by decide +kernel
theorem dX1_isWhole_16 : decode cX1_isWhole 16 = .ok (.goto 4, 3) := by decide +kernel
theorem dX1_isWhole_19 : decode cX1_isWhole 19 = .ok (.iconst 0, 1) := by decide +kernel
theorem dX1_isWhole_20 : decode cX1_isWhole 20 = .ok (.ireturn, 1) := by decide +kernel
theorem dX1_closeWires_0 : decode cX1_closeWires 0 = .ok (.iconst 0, 1) := by decide +kernel
theorem dX1_closeWires_1 : decode cX1_closeWires 1 = .ok (.istore_n 2, 1) := by decide +kernel
theorem dX1_closeWires_2 : decode cX1_closeWires 2 = .ok (.iload_n 2, 1) := by decide +kernel
theorem dX1_closeWires_3 : decode cX1_closeWires 3 = .ok (.bipush 8, 2) := by decide +kernel
theorem dX1_closeWires_5 : decode cX1_closeWires 5 = .ok (.if_icmp .ge 28, 3) := by decide +kernel
theorem dX1_closeWires_8 : decode cX1_closeWires 8 = .ok (.aload_n 0, 1) := by decide +kernel
theorem dX1_closeWires_9 : decode cX1_closeWires 9 = .ok (.getfield 18, 3) := by decide +kernel
theorem dX1_closeWires_12 : decode cX1_closeWires 12 = .ok (.iload_n 2, 1) := by decide +kernel
theorem dX1_closeWires_13 : decode cX1_closeWires 13 = .ok (.iaload, 1) := by decide +kernel
theorem dX1_closeWires_14 : decode cX1_closeWires 14 = .ok (.iconst 2, 1) := by decide +kernel
theorem dX1_closeWires_15 : decode cX1_closeWires 15 = .ok (.if_icmp .ne 12, 3) := by decide +kernel
theorem dX1_closeWires_18 : decode cX1_closeWires 18 = .ok (.aload_n 1, 1) := by decide +kernel
theorem dX1_closeWires_19 : decode cX1_closeWires 19 = .ok (.iload_n 2, 1) := by decide +kernel
theorem dX1_closeWires_20 : decode cX1_closeWires 20 = .ok (.bipush 8, 2) := by decide +kernel
theorem dX1_closeWires_22 : decode cX1_closeWires 22 = .ok (.iload_n 2, 1) := by decide +kernel
theorem dX1_closeWires_23 : decode cX1_closeWires 23 = .ok (.iadd, 1) := by decide +kernel
theorem dX1_closeWires_24 : decode cX1_closeWires 24 = .ok (.invokevirtual 53, 3) := by decide +kernel
theorem dX1_closeWires_27 : decode cX1_closeWires 27 = .ok (.iinc 2 1, 3) := by decide +kernel
theorem dX1_closeWires_30 : decode cX1_closeWires 30 = .ok (.goto (-28), 3) := by decide +kernel
theorem dX1_closeWires_33 : decode cX1_closeWires 33 = .ok (.return_, 1) := by decide +kernel
theorem dX1_take_0 : decode cX1_take 0 = .ok (.aload_n 0, 1) := by decide +kernel
theorem dX1_take_1 : decode cX1_take 1 = .ok (.invokevirtual 57, 3) := by decide +kernel
theorem dX1_take_4 : decode cX1_take 4 = .ok (.ifCond .eq 10, 3) := by decide +kernel
theorem dX1_take_7 : decode cX1_take 7 = .ok (.aload_n 0, 1) := by decide +kernel
theorem dX1_take_8 : decode cX1_take 8 = .ok (.iload_n 1, 1) := by decide +kernel
theorem dX1_take_9 : decode cX1_take 9 = .ok (.aload_n 2, 1) := by decide +kernel
theorem dX1_take_10 : decode cX1_take 10 = .ok (.invokevirtual 61, 3) := by decide +kernel
theorem dX1_take_13 : decode cX1_take 13 = .ok (.ireturn, 1) := by decide +kernel
theorem dX1_take_14 : decode cX1_take 14 = .ok (.aload_n 0, 1) := by decide +kernel
theorem dX1_take_15 : decode cX1_take 15 = .ok (.getfield 32, 3) := by decide +kernel
theorem dX1_take_18 : decode cX1_take 18 = .ok (.ifCond .le 10, 3) := by decide +kernel
theorem dX1_take_21 : decode cX1_take 21 = .ok (.aload_n 0, 1) := by decide +kernel
theorem dX1_take_22 : decode cX1_take 22 = .ok (.iload_n 1, 1) := by decide +kernel
theorem dX1_take_23 : decode cX1_take 23 = .ok (.aload_n 2, 1) := by decide +kernel
theorem dX1_take_24 : decode cX1_take 24 = .ok (.invokevirtual 64, 3) := by decide +kernel
theorem dX1_take_27 : decode cX1_take 27 = .ok (.ireturn, 1) := by decide +kernel
theorem dX1_take_28 : decode cX1_take 28 = .ok (.iload_n 1, 1) := by decide +kernel
theorem dX1_take_29 : decode cX1_take 29 = .ok (.aload_n 0, 1) := by decide +kernel
theorem dX1_take_30 : decode cX1_take 30 = .ok (.getfield 36, 3) := by decide +kernel
theorem dX1_take_33 : decode cX1_take 33 = .ok (.iconst 1, 1) := by decide +kernel
theorem dX1_take_34 : decode cX1_take 34 = .ok (.if_icmp .ne 8, 3) := by decide +kernel
theorem dX1_take_37 : decode cX1_take 37 = .ok (.bipush 61, 2) := by decide +kernel
theorem dX1_take_39 : decode cX1_take 39 = .ok (.goto 5, 3) := by decide +kernel
theorem dX1_take_42 : decode cX1_take 42 = .ok (.bipush 44, 2) := by decide +kernel
theorem dX1_take_44 : decode cX1_take 44 = .ok (.if_icmp .eq 5, 3) := by decide +kernel
theorem dX1_take_47 : decode cX1_take 47 = .ok (.iconst 0, 1) := by decide +kernel
theorem dX1_take_48 : decode cX1_take 48 = .ok (.ireturn, 1) := by decide +kernel
theorem dX1_take_49 : decode cX1_take 49 = .ok (.aload_n 0, 1) := by decide +kernel
theorem dX1_take_50 : decode cX1_take 50 = .ok (.aload_n 0, 1) := by decide +kernel
theorem dX1_take_51 : decode cX1_take 51 = .ok (.getfield 36, 3) := by decide +kernel
theorem dX1_take_54 : decode cX1_take 54 = .ok (.iconst 1, 1) := by decide +kernel
theorem dX1_take_55 : decode cX1_take 55 = .ok (.if_icmp .ne 7, 3) := by decide +kernel
theorem dX1_take_58 : decode cX1_take 58 = .ok (.iconst 2, 1) := by decide +kernel
theorem dX1_take_59 : decode cX1_take 59 = .ok (.goto 4, 3) := by decide +kernel
theorem dX1_take_62 : decode cX1_take 62 = .ok (.iconst 0, 1) := by decide +kernel
theorem dX1_take_63 : decode cX1_take 63 = .ok (.putfield 36, 3) := by decide +kernel
theorem dX1_take_66 : decode cX1_take 66 = .ok (.iconst 1, 1) := by decide +kernel
theorem dX1_take_67 : decode cX1_take 67 = .ok (.ireturn, 1) := by decide +kernel
theorem dX1_isTreeDue_0 : decode cX1_isTreeDue 0 = .ok (.aload_n 0, 1) := by decide +kernel
theorem dX1_isTreeDue_1 : decode cX1_isTreeDue 1 = .ok (.getfield 32, 3) := by decide +kernel
theorem dX1_isTreeDue_4 : decode cX1_isTreeDue 4 = .ok (.ifCond .le 36, 3) := by decide +kernel
theorem dX1_isTreeDue_7 : decode cX1_isTreeDue 7 = .ok (.aload_n 0, 1) := by decide +kernel
theorem dX1_isTreeDue_8 : decode cX1_isTreeDue 8 = .ok (.getfield 32, 3) := by decide +kernel
theorem dX1_isTreeDue_11 : decode cX1_isTreeDue 11 = .ok (.aload_n 0, 1) := by decide +kernel
theorem dX1_isTreeDue_12 : decode cX1_isTreeDue 12 = .ok (.getfield 15, 3) := by decide +kernel
theorem dX1_isTreeDue_15 : decode cX1_isTreeDue 15 = .ok (.arraylength, 1) := by decide +kernel
theorem dX1_isTreeDue_16 : decode cX1_isTreeDue 16 = .ok (.if_icmp .gt 24, 3) := by decide +kernel
theorem dX1_isTreeDue_19 : decode cX1_isTreeDue 19 = .ok (.aload_n 0, 1) := by decide +kernel
theorem dX1_isTreeDue_20 : decode cX1_isTreeDue 20 = .ok (.getfield 15, 3) := by decide +kernel
theorem dX1_isTreeDue_23 : decode cX1_isTreeDue 23 = .ok (.aload_n 0, 1) := by decide +kernel
theorem dX1_isTreeDue_24 : decode cX1_isTreeDue 24 = .ok (.getfield 32, 3) := by decide +kernel
theorem dX1_isTreeDue_27 : decode cX1_isTreeDue 27 = .ok (.iconst 1, 1) := by decide +kernel
theorem dX1_isTreeDue_28 : decode cX1_isTreeDue 28 = .ok (.isub, 1) := by decide +kernel
theorem dX1_isTreeDue_29 : decode cX1_isTreeDue 29 = .ok (.iaload, 1) := by decide +kernel
theorem dX1_isTreeDue_30 : decode cX1_isTreeDue 30 = .ok (.iconst 2, 1) := by decide +kernel
theorem dX1_isTreeDue_31 : decode cX1_isTreeDue 31 = .ok (.if_icmp .ge 7, 3) := by decide +kernel
theorem dX1_isTreeDue_34 : decode cX1_isTreeDue 34 = .ok (.iconst 1, 1) := by decide +kernel
theorem dX1_isTreeDue_35 : decode cX1_isTreeDue 35 = .ok (.goto 4, 3) := by decide +kernel
theorem dX1_isTreeDue_38 : decode cX1_isTreeDue 38 = .ok (.iconst 0, 1) := by decide +kernel
theorem dX1_isTreeDue_39 : decode cX1_isTreeDue 39 = .ok (.ireturn, 1) := by decide +kernel
theorem dX1_isTreeDue_40 : decode cX1_isTreeDue 40 = .ok (.aload_n 0, 1) := by decide +kernel
theorem dX1_isTreeDue_41 : decode cX1_isTreeDue 41 = .ok (.getfield 36, 3) := by decide +kernel
theorem dX1_isTreeDue_44 : decode cX1_isTreeDue 44 = .ok (.ifCond .eq 11, 3) := by decide +kernel
theorem dX1_isTreeDue_47 : decode cX1_isTreeDue 47 = .ok (.aload_n 0, 1) := by decide +kernel
theorem dX1_isTreeDue_48 : decode cX1_isTreeDue 48 = .ok (.getfield 36, 3) := by decide +kernel
theorem dX1_isTreeDue_51 : decode cX1_isTreeDue 51 = .ok (.iconst 2, 1) := by decide +kernel
theorem dX1_isTreeDue_52 : decode cX1_isTreeDue 52 = .ok (.if_icmp .ne 7, 3) := by decide +kernel
theorem dX1_isTreeDue_55 : decode cX1_isTreeDue 55 = .ok (.iconst 1, 1) := by decide +kernel
theorem dX1_isTreeDue_56 : decode cX1_isTreeDue 56 = .ok (.goto 4, 3) := by decide +kernel
theorem dX1_isTreeDue_59 : decode cX1_isTreeDue 59 = .ok (.iconst 0, 1) := by decide +kernel
theorem dX1_isTreeDue_60 : decode cX1_isTreeDue 60 = .ok (.ireturn, 1) := by decide +kernel
theorem dX1_takeTree_0 : decode cX1_takeTree 0 = .ok (.iload_n 1, 1) := by decide +kernel
theorem dX1_takeTree_1 : decode cX1_takeTree 1 = .ok (.bipush 97, 2) := by decide +kernel
theorem dX1_takeTree_3 : decode cX1_takeTree 3 = .ok (.isub, 1) := by decide +kernel
theorem dX1_takeTree_4 : decode cX1_takeTree 4 = .ok (.istore_n 3, 1) := by decide +kernel
theorem dX1_takeTree_5 : decode cX1_takeTree 5 = .ok (.iload_n 3, 1) := by decide +kernel
theorem dX1_takeTree_6 : decode cX1_takeTree 6 = .ok (.ifCond .lt 16, 3) := by decide +kernel
theorem dX1_takeTree_9 : decode cX1_takeTree 9 = .ok (.iload_n 3, 1) := by decide +kernel
theorem dX1_takeTree_10 : decode cX1_takeTree 10 = .ok (.bipush 8, 2) := by decide +kernel
theorem dX1_takeTree_12 : decode cX1_takeTree 12 = .ok (.if_icmp .ge 10, 3) := by decide +kernel
theorem dX1_takeTree_15 : decode cX1_takeTree 15 = .ok (.aload_n 0, 1) := by decide +kernel
theorem dX1_takeTree_16 : decode cX1_takeTree 16 = .ok (.iload_n 3, 1) := by decide +kernel
theorem dX1_takeTree_17 : decode cX1_takeTree 17 = .ok (.aload_n 2, 1) := by decide +kernel
theorem dX1_takeTree_18 : decode cX1_takeTree 18 = .ok (.invokevirtual 67, 3) := by decide +kernel
theorem dX1_takeTree_21 : decode cX1_takeTree 21 = .ok (.ireturn, 1) := by decide +kernel
theorem dX1_takeTree_22 : decode cX1_takeTree 22 = .ok (.ldc 70, 2) := by decide +kernel
theorem dX1_takeTree_24 : decode cX1_takeTree 24 = .ok (.iload_n 1, 1) := by decide +kernel
theorem dX1_takeTree_25 : decode cX1_takeTree 25 = .ok (.i2c, 1) := by decide +kernel
theorem dX1_takeTree_26 : decode cX1_takeTree 26 = .ok (.invokevirtual 72, 3) := by decide +kernel
theorem dX1_takeTree_29 : decode cX1_takeTree 29 = .ok (.istore 4, 2) := by decide +kernel
theorem dX1_takeTree_31 : decode cX1_takeTree 31 = .ok (.iload 4, 2) := by decide +kernel
theorem dX1_takeTree_33 : decode cX1_takeTree 33 = .ok (.ifCond .lt 15, 3) := by decide +kernel
theorem dX1_takeTree_36 : decode cX1_takeTree 36 = .ok (.aload_n 0, 1) := by decide +kernel
theorem dX1_takeTree_37 : decode cX1_takeTree 37 = .ok (.getfield 32, 3) := by decide +kernel
theorem dX1_takeTree_40 : decode cX1_takeTree 40 = .ok (.aload_n 0, 1) := by decide +kernel
theorem dX1_takeTree_41 : decode cX1_takeTree 41 = .ok (.getfield 9, 3) := by decide +kernel
theorem dX1_takeTree_44 : decode cX1_takeTree 44 = .ok (.arraylength, 1) := by decide +kernel
theorem dX1_takeTree_45 : decode cX1_takeTree 45 = .ok (.if_icmp .lt 5, 3) := by decide +kernel
theorem dX1_takeTree_48 : decode cX1_takeTree 48 = .ok (.iconst 0, 1) := by decide +kernel
theorem dX1_takeTree_49 : decode cX1_takeTree 49 = .ok (.ireturn, 1) := by decide +kernel
theorem dX1_takeTree_50 : decode cX1_takeTree 50 = .ok (.aload_n 2, 1) := by decide +kernel
theorem dX1_takeTree_51 : decode cX1_takeTree 51 = .ok (.iload 4, 2) := by decide +kernel
theorem dX1_takeTree_53 : decode cX1_takeTree 53 = .ok (.invokevirtual 77, 3) := by decide +kernel
theorem dX1_takeTree_56 : decode cX1_takeTree 56 = .ok (.istore 5, 2) := by decide +kernel
theorem dX1_takeTree_58 : decode cX1_takeTree 58 = .ok (.aload_n 0, 1) := by decide +kernel
theorem dX1_takeTree_59 : decode cX1_takeTree 59 = .ok (.iload 5, 2) := by decide +kernel
theorem dX1_takeTree_61 : decode cX1_takeTree 61 = .ok (.iconst 0, 1) := by decide +kernel
theorem dX1_takeTree_62 : decode cX1_takeTree 62 = .ok (.invokestatic 80, 3) := by decide +kernel
theorem dX1_takeTree_65 : decode cX1_takeTree 65 = .ok (.aload_n 2, 1) := by decide +kernel
theorem dX1_takeTree_66 : decode cX1_takeTree 66 = .ok (.invokevirtual 84, 3) := by decide +kernel
theorem dX1_takeTree_69 : decode cX1_takeTree 69 = .ok (.iload 4, 2) := by decide +kernel
theorem dX1_takeTree_71 : decode cX1_takeTree 71 = .ok (.ifCond .eq 34, 3) := by decide +kernel
theorem dX1_takeTree_74 : decode cX1_takeTree 74 = .ok (.aload_n 0, 1) := by decide +kernel
theorem dX1_takeTree_75 : decode cX1_takeTree 75 = .ok (.getfield 9, 3) := by decide +kernel
theorem dX1_takeTree_78 : decode cX1_takeTree 78 = .ok (.aload_n 0, 1) := by decide +kernel
theorem dX1_takeTree_79 : decode cX1_takeTree 79 = .ok (.getfield 32, 3) := by decide +kernel
theorem dX1_takeTree_82 : decode cX1_takeTree 82 = .ok (.iload 5, 2) := by decide +kernel
theorem dX1_takeTree_84 : decode cX1_takeTree 84 = .ok (.iastore, 1) := by decide +kernel
theorem dX1_takeTree_85 : decode cX1_takeTree 85 = .ok (.aload_n 0, 1) := by decide +kernel
theorem dX1_takeTree_86 : decode cX1_takeTree 86 = .ok (.getfield 15, 3) := by decide +kernel
theorem dX1_takeTree_89 : decode cX1_takeTree 89 = .ok (.aload_n 0, 1) := by decide +kernel
theorem dX1_takeTree_90 : decode cX1_takeTree 90 = .ok (.getfield 32, 3) := by decide +kernel
theorem dX1_takeTree_93 : decode cX1_takeTree 93 = .ok (.iconst 0, 1) := by decide +kernel
theorem dX1_takeTree_94 : decode cX1_takeTree 94 = .ok (.iastore, 1) := by decide +kernel
theorem dX1_takeTree_95 : decode cX1_takeTree 95 = .ok (.aload_n 0, 1) := by decide +kernel
theorem dX1_takeTree_96 : decode cX1_takeTree 96 = .ok (.dup, 1) := by decide +kernel
theorem dX1_takeTree_97 : decode cX1_takeTree 97 = .ok (.getfield 32, 3) := by decide +kernel
theorem dX1_takeTree_100 : decode cX1_takeTree 100 = .ok (.iconst 1, 1) := by decide +kernel
theorem dX1_takeTree_101 : decode cX1_takeTree 101 = .ok (.iadd, 1) := by decide +kernel
theorem dX1_takeTree_102 : decode cX1_takeTree 102 = .ok (.putfield 32, 3) := by decide +kernel
theorem dX1_takeTree_105 : decode cX1_takeTree 105 = .ok (.iconst 1, 1) := by decide +kernel
theorem dX1_takeTree_106 : decode cX1_takeTree 106 = .ok (.ireturn, 1) := by decide +kernel
theorem dX1_takeWire_0 : decode cX1_takeWire 0 = .ok (.iload_n 1, 1) := by decide +kernel
theorem dX1_takeWire_1 : decode cX1_takeWire 1 = .ok (.ifCond .lt 22, 3) := by decide +kernel
theorem dX1_takeWire_4 : decode cX1_takeWire 4 = .ok (.iload_n 1, 1) := by decide +kernel
theorem dX1_takeWire_5 : decode cX1_takeWire 5 = .ok (.aload_n 0, 1) := by decide +kernel
theorem dX1_takeWire_6 : decode cX1_takeWire 6 = .ok (.getfield 18, 3) := by decide +kernel
theorem dX1_takeWire_9 : decode cX1_takeWire 9 = .ok (.arraylength, 1) := by decide +kernel
theorem dX1_takeWire_10 : decode cX1_takeWire 10 = .ok (.if_icmp .ge 13, 3) := by decide +kernel
theorem dX1_takeWire_13 : decode cX1_takeWire 13 = .ok (.aload_n 0, 1) := by decide +kernel
theorem dX1_takeWire_14 : decode cX1_takeWire 14 = .ok (.getfield 18, 3) := by decide +kernel
theorem dX1_takeWire_17 : decode cX1_takeWire 17 = .ok (.iload_n 1, 1) := by decide +kernel
theorem dX1_takeWire_18 : decode cX1_takeWire 18 = .ok (.iaload, 1) := by decide +kernel
theorem dX1_takeWire_19 : decode cX1_takeWire 19 = .ok (.iconst 2, 1) := by decide +kernel
theorem dX1_takeWire_20 : decode cX1_takeWire 20 = .ok (.if_icmp .lt 5, 3) := by decide +kernel
theorem dX1_takeWire_23 : decode cX1_takeWire 23 = .ok (.iconst 0, 1) := by decide +kernel
theorem dX1_takeWire_24 : decode cX1_takeWire 24 = .ok (.ireturn, 1) := by decide +kernel
theorem dX1_takeWire_25 : decode cX1_takeWire 25 = .ok (.aload_n 0, 1) := by decide +kernel
theorem dX1_takeWire_26 : decode cX1_takeWire 26 = .ok (.aload_n 0, 1) := by decide +kernel
theorem dX1_takeWire_27 : decode cX1_takeWire 27 = .ok (.getfield 18, 3) := by decide +kernel
theorem dX1_takeWire_30 : decode cX1_takeWire 30 = .ok (.iload_n 1, 1) := by decide +kernel
theorem dX1_takeWire_31 : decode cX1_takeWire 31 = .ok (.iaload, 1) := by decide +kernel
theorem dX1_takeWire_32 : decode cX1_takeWire 32 = .ok (.ifCond .ne 7, 3) := by decide +kernel
theorem dX1_takeWire_35 : decode cX1_takeWire 35 = .ok (.iload_n 1, 1) := by decide +kernel
theorem dX1_takeWire_36 : decode cX1_takeWire 36 = .ok (.goto 7, 3) := by decide +kernel
theorem dX1_takeWire_39 : decode cX1_takeWire 39 = .ok (.bipush 8, 2) := by decide +kernel
theorem dX1_takeWire_41 : decode cX1_takeWire 41 = .ok (.iload_n 1, 1) := by decide +kernel
theorem dX1_takeWire_42 : decode cX1_takeWire 42 = .ok (.iadd, 1) := by decide +kernel
theorem dX1_takeWire_43 : decode cX1_takeWire 43 = .ok (.aload_n 2, 1) := by decide +kernel
theorem dX1_takeWire_44 : decode cX1_takeWire 44 = .ok (.invokevirtual 84, 3) := by decide +kernel
theorem dX1_takeWire_47 : decode cX1_takeWire 47 = .ok (.aload_n 0, 1) := by decide +kernel
theorem dX1_takeWire_48 : decode cX1_takeWire 48 = .ok (.getfield 18, 3) := by decide +kernel
theorem dX1_takeWire_51 : decode cX1_takeWire 51 = .ok (.iload_n 1, 1) := by decide +kernel
theorem dX1_takeWire_52 : decode cX1_takeWire 52 = .ok (.dup2, 1) := by decide +kernel
theorem dX1_takeWire_53 : decode cX1_takeWire 53 = .ok (.iaload, 1) := by decide +kernel
theorem dX1_takeWire_54 : decode cX1_takeWire 54 = .ok (.iconst 1, 1) := by decide +kernel
theorem dX1_takeWire_55 : decode cX1_takeWire 55 = .ok (.iadd, 1) := by decide +kernel
theorem dX1_takeWire_56 : decode cX1_takeWire 56 = .ok (.iastore, 1) := by decide +kernel
theorem dX1_takeWire_57 : decode cX1_takeWire 57 = .ok (.iconst 1, 1) := by decide +kernel
theorem dX1_takeWire_58 : decode cX1_takeWire 58 = .ok (.ireturn, 1) := by decide +kernel
theorem dX1_takeClosing_0 : decode cX1_takeClosing 0 = .ok (.aload_n 0, 1) := by decide +kernel
theorem dX1_takeClosing_1 : decode cX1_takeClosing 1 = .ok (.getfield 32, 3) := by decide +kernel
theorem dX1_takeClosing_4 : decode cX1_takeClosing 4 = .ok (.iconst 1, 1) := by decide +kernel
theorem dX1_takeClosing_5 : decode cX1_takeClosing 5 = .ok (.isub, 1) := by decide +kernel
theorem dX1_takeClosing_6 : decode cX1_takeClosing 6 = .ok (.istore_n 3, 1) := by decide +kernel
theorem dX1_takeClosing_7 : decode cX1_takeClosing 7 = .ok (.iload_n 3, 1) := by decide +kernel
theorem dX1_takeClosing_8 : decode cX1_takeClosing 8 = .ok (.ifCond .lt 12, 3) := by decide +kernel
theorem dX1_takeClosing_11 : decode cX1_takeClosing 11 = .ok (.iload_n 3, 1) := by decide +kernel
theorem dX1_takeClosing_12 : decode cX1_takeClosing 12 = .ok (.aload_n 0, 1) := by decide +kernel
theorem dX1_takeClosing_13 : decode cX1_takeClosing 13 = .ok (.getfield 9, 3) := by decide +kernel
theorem dX1_takeClosing_16 : decode cX1_takeClosing 16 = .ok (.arraylength, 1) := by decide +kernel
theorem dX1_takeClosing_17 : decode cX1_takeClosing 17 = .ok (.if_icmp .lt 5, 3) := by decide +kernel
theorem dX1_takeClosing_20 : decode cX1_takeClosing 20 = .ok (.iconst 0, 1) := by decide +kernel
theorem dX1_takeClosing_21 : decode cX1_takeClosing 21 = .ok (.ireturn, 1) := by decide +kernel
theorem dX1_takeClosing_22 : decode cX1_takeClosing 22 = .ok (.aload_n 2, 1) := by decide +kernel
theorem dX1_takeClosing_23 : decode cX1_takeClosing 23 = .ok (.aload_n 0, 1) := by decide +kernel
theorem dX1_takeClosing_24 : decode cX1_takeClosing 24 = .ok (.getfield 9, 3) := by decide +kernel
theorem dX1_takeClosing_27 : decode cX1_takeClosing 27 = .ok (.iload_n 3, 1) := by decide +kernel
theorem dX1_takeClosing_28 : decode cX1_takeClosing 28 = .ok (.iaload, 1) := by decide +kernel
theorem dX1_takeClosing_29 : decode cX1_takeClosing 29 = .ok (.invokevirtual 88, 3) := by decide +kernel
theorem dX1_takeClosing_32 : decode cX1_takeClosing 32 = .ok (.istore 4, 2) := by decide +kernel
theorem dX1_takeClosing_34 : decode cX1_takeClosing 34 = .ok (.iload 4, 2) := by decide +kernel
theorem dX1_takeClosing_36 : decode cX1_takeClosing 36 = .ok (.iconst 1, 1) := by decide +kernel
theorem dX1_takeClosing_37 : decode cX1_takeClosing 37 = .ok (.if_icmp .lt 24, 3) := by decide +kernel
theorem dX1_takeClosing_40 : decode cX1_takeClosing 40 = .ok (.iload 4, 2) := by decide +kernel
theorem dX1_takeClosing_42 : decode cX1_takeClosing 42 = .ok (.ldc 91, 2) := by decide +kernel
theorem dX1_takeClosing_44 : decode cX1_takeClosing 44 = .ok (.invokevirtual 93, 3) := by decide +kernel
theorem dX1_takeClosing_47 : decode cX1_takeClosing 47 = .ok (.if_icmp .ge 14, 3) := by decide +kernel
theorem dX1_takeClosing_50 : decode cX1_takeClosing 50 = .ok (.iload_n 1, 1) := by decide +kernel
theorem dX1_takeClosing_51 : decode cX1_takeClosing 51 = .ok (.ldc 91, 2) := by decide +kernel
theorem dX1_takeClosing_53 : decode cX1_takeClosing 53 = .ok (.iload 4, 2) := by decide +kernel
theorem dX1_takeClosing_55 : decode cX1_takeClosing 55 = .ok (.invokevirtual 96, 3) := by decide +kernel
theorem dX1_takeClosing_58 : decode cX1_takeClosing 58 = .ok (.if_icmp .eq 5, 3) := by decide +kernel
theorem dX1_takeClosing_61 : decode cX1_takeClosing 61 = .ok (.iconst 0, 1) := by decide +kernel
theorem dX1_takeClosing_62 : decode cX1_takeClosing 62 = .ok (.ireturn, 1) := by decide +kernel
theorem dX1_takeClosing_63 : decode cX1_takeClosing 63 = .ok (.aload_n 0, 1) := by decide +kernel
theorem dX1_takeClosing_64 : decode cX1_takeClosing 64 = .ok (.iload_n 3, 1) := by decide +kernel
theorem dX1_takeClosing_65 : decode cX1_takeClosing 65 = .ok (.putfield 32, 3) := by decide +kernel
theorem dX1_takeClosing_68 : decode cX1_takeClosing 68 = .ok (.iconst 1, 1) := by decide +kernel
theorem dX1_takeClosing_69 : decode cX1_takeClosing 69 = .ok (.ireturn, 1) := by decide +kernel
theorem dX1_place_0 : decode cX1_place 0 = .ok (.aload_n 0, 1) := by decide +kernel
theorem dX1_place_1 : decode cX1_place 1 = .ok (.getfield 32, 3) := by decide +kernel
theorem dX1_place_4 : decode cX1_place 4 = .ok (.iconst 1, 1) := by decide +kernel
theorem dX1_place_5 : decode cX1_place 5 = .ok (.isub, 1) := by decide +kernel
theorem dX1_place_6 : decode cX1_place 6 = .ok (.istore_n 3, 1) := by decide +kernel
theorem dX1_place_7 : decode cX1_place 7 = .ok (.iload_n 3, 1) := by decide +kernel
theorem dX1_place_8 : decode cX1_place 8 = .ok (.ifCond .lt 47, 3) := by decide +kernel
theorem dX1_place_11 : decode cX1_place 11 = .ok (.iload_n 3, 1) := by decide +kernel
theorem dX1_place_12 : decode cX1_place 12 = .ok (.aload_n 0, 1) := by decide +kernel
theorem dX1_place_13 : decode cX1_place 13 = .ok (.getfield 9, 3) := by decide +kernel
theorem dX1_place_16 : decode cX1_place 16 = .ok (.arraylength, 1) := by decide +kernel
theorem dX1_place_17 : decode cX1_place 17 = .ok (.if_icmp .ge 38, 3) := by decide +kernel
theorem dX1_place_20 : decode cX1_place 20 = .ok (.aload_n 2, 1) := by decide +kernel
theorem dX1_place_21 : decode cX1_place 21 = .ok (.aload_n 0, 1) := by decide +kernel
theorem dX1_place_22 : decode cX1_place 22 = .ok (.getfield 9, 3) := by decide +kernel
theorem dX1_place_25 : decode cX1_place 25 = .ok (.iload_n 3, 1) := by decide +kernel
theorem dX1_place_26 : decode cX1_place 26 = .ok (.iaload, 1) := by decide +kernel
theorem dX1_place_27 : decode cX1_place 27 = .ok (.iconst 1, 1) := by decide +kernel
theorem dX1_place_28 : decode cX1_place 28 = .ok (.aload_n 0, 1) := by decide +kernel
theorem dX1_place_29 : decode cX1_place 29 = .ok (.getfield 15, 3) := by decide +kernel
theorem dX1_place_32 : decode cX1_place 32 = .ok (.iload_n 3, 1) := by decide +kernel
theorem dX1_place_33 : decode cX1_place 33 = .ok (.iaload, 1) := by decide +kernel
theorem dX1_place_34 : decode cX1_place 34 = .ok (.iadd, 1) := by decide +kernel
theorem dX1_place_35 : decode cX1_place 35 = .ok (.invokestatic 80, 3) := by decide +kernel
theorem dX1_place_38 : decode cX1_place 38 = .ok (.iload_n 1, 1) := by decide +kernel
theorem dX1_place_39 : decode cX1_place 39 = .ok (.invokevirtual 100, 3) := by decide +kernel
theorem dX1_place_42 : decode cX1_place 42 = .ok (.aload_n 0, 1) := by decide +kernel
theorem dX1_place_43 : decode cX1_place 43 = .ok (.getfield 15, 3) := by decide +kernel
theorem dX1_place_46 : decode cX1_place 46 = .ok (.iload_n 3, 1) := by decide +kernel
theorem dX1_place_47 : decode cX1_place 47 = .ok (.dup2, 1) := by decide +kernel
theorem dX1_place_48 : decode cX1_place 48 = .ok (.iaload, 1) := by decide +kernel
theorem dX1_place_49 : decode cX1_place 49 = .ok (.iconst 1, 1) := by decide +kernel
theorem dX1_place_50 : decode cX1_place 50 = .ok (.iadd, 1) := by decide +kernel
theorem dX1_place_51 : decode cX1_place 51 = .ok (.iastore, 1) := by decide +kernel
theorem dX1_place_52 : decode cX1_place 52 = .ok (.goto 37, 3) := by decide +kernel
theorem dX1_place_55 : decode cX1_place 55 = .ok (.aload_n 0, 1) := by decide +kernel
theorem dX1_place_56 : decode cX1_place 56 = .ok (.getfield 36, 3) := by decide +kernel
theorem dX1_place_59 : decode cX1_place 59 = .ok (.ifCond .ne 16, 3) := by decide +kernel
theorem dX1_place_62 : decode cX1_place 62 = .ok (.aload_n 0, 1) := by decide +kernel
theorem dX1_place_63 : decode cX1_place 63 = .ok (.iload_n 1, 1) := by decide +kernel
theorem dX1_place_64 : decode cX1_place 64 = .ok (.putfield 103, 3) := by decide +kernel
theorem dX1_place_67 : decode cX1_place 67 = .ok (.aload_n 0, 1) := by decide +kernel
theorem dX1_place_68 : decode cX1_place 68 = .ok (.iconst 1, 1) := by decide +kernel
theorem dX1_place_69 : decode cX1_place 69 = .ok (.putfield 36, 3) := by decide +kernel
theorem dX1_place_72 : decode cX1_place 72 = .ok (.goto 17, 3) := by decide +kernel
theorem dX1_place_75 : decode cX1_place 75 = .ok (.aload_n 2, 1) := by decide +kernel
theorem dX1_place_76 : decode cX1_place 76 = .ok (.aload_n 0, 1) := by decide +kernel
theorem dX1_place_77 : decode cX1_place 77 = .ok (.getfield 103, 3) := by decide +kernel
theorem dX1_place_80 : decode cX1_place 80 = .ok (.iload_n 1, 1) := by decide +kernel
theorem dX1_place_81 : decode cX1_place 81 = .ok (.invokevirtual 100, 3) := by decide +kernel
theorem dX1_place_84 : decode cX1_place 84 = .ok (.aload_n 0, 1) := by decide +kernel
theorem dX1_place_85 : decode cX1_place 85 = .ok (.iconst 3, 1) := by decide +kernel
theorem dX1_place_86 : decode cX1_place 86 = .ok (.putfield 36, 3) := by decide +kernel
theorem dX1_place_89 : decode cX1_place 89 = .ok (.return_, 1) := by decide +kernel
theorem dX2_init_0 : decode cX2_init 0 = .ok (.aload_n 0, 1) := by decide +kernel
theorem dX2_init_1 : decode cX2_init 1 = .ok (.invokespecial 3, 3) := by decide +kernel
theorem dX2_init_4 : decode cX2_init 4 = .ok (.aload_n 0, 1) := by decide +kernel
theorem dX2_init_5 : decode cX2_init 5 = .ok (.iconst 4, 1) := by decide +kernel
theorem dX2_init_6 : decode cX2_init 6 = .ok (.newarray .int, 2) := by decide +kernel
theorem dX2_init_8 : decode cX2_init 8 = .ok (.putfield 9, 3) := by decide +kernel
theorem dX2_init_11 : decode cX2_init 11 = .ok (.iload_n 1, 1) := by decide +kernel
theorem dX2_init_12 : decode cX2_init 12 = .ok (.ifCond .ge 7, 3) := by decide +kernel
theorem dX2_init_15 : decode cX2_init 15 = .ok (.iconst 0, 1) := by decide +kernel
theorem dX2_init_16 : decode cX2_init 16 = .ok (.goto 4, 3) := by decide +kernel
theorem dX2_init_19 : decode cX2_init 19 = .ok (.iload_n 1, 1) := by decide +kernel
theorem dX2_init_20 : decode cX2_init 20 = .ok (.istore_n 2, 1) := by decide +kernel
theorem dX2_init_21 : decode cX2_init 21 = .ok (.aload_n 0, 1) := by decide +kernel
theorem dX2_init_22 : decode cX2_init 22 = .ok (.iload_n 2, 1) := by decide +kernel
theorem dX2_init_23 : decode cX2_init 23 = .ok (.newarray .int, 2) := by decide +kernel
theorem dX2_init_25 : decode cX2_init 25 = .ok (.putfield 15, 3) := by decide +kernel
theorem dX2_init_28 : decode cX2_init 28 = .ok (.aload_n 0, 1) := by decide +kernel
theorem dX2_init_29 : decode cX2_init 29 = .ok (.bipush 16, 2) := by decide +kernel
theorem dX2_init_31 : decode cX2_init 31 = .ok (.iconst 3, 1) := by decide +kernel
theorem dX2_init_32 : decode cX2_init 32 = .ok (.iload_n 2, 1) := by decide +kernel
theorem dX2_init_33 : decode cX2_init 33 = .ok (.imul, 1) := by decide +kernel
theorem dX2_init_34 : decode cX2_init 34 = .ok (.iadd, 1) := by decide +kernel
theorem dX2_init_35 : decode cX2_init 35 = .ok (.newarray .int, 2) := by decide +kernel
theorem dX2_init_37 : decode cX2_init 37 = .ok (.putfield 18, 3) := by decide +kernel
theorem dX2_init_40 : decode cX2_init 40 = .ok (.aload_n 0, 1) := by decide +kernel
theorem dX2_init_41 : decode cX2_init 41 = .ok (.iload_n 2, 1) := by decide +kernel
theorem dX2_init_42 : decode cX2_init 42 = .ok (.newarray .int, 2) := by decide +kernel
theorem dX2_init_44 : decode cX2_init 44 = .ok (.putfield 21, 3) := by decide +kernel
theorem dX2_init_47 : decode cX2_init 47 = .ok (.aload_n 0, 1) := by decide +kernel
theorem dX2_init_48 : decode cX2_init 48 = .ok (.getfield 18, 3) := by decide +kernel
theorem dX2_init_51 : decode cX2_init 51 = .ok (.iconst (-1), 1) := by decide +kernel
theorem dX2_init_52 : decode cX2_init 52 = .ok (.invokestatic 24, 3) := by decide +kernel
theorem dX2_init_55 : decode cX2_init 55 = .ok (.return_, 1) := by decide +kernel
theorem dX2_port_0 : decode cX2_port 0 = .ok (.bipush 16, 2) := by decide +kernel
theorem dX2_port_2 : decode cX2_port 2 = .ok (.iconst 3, 1) := by decide +kernel
theorem dX2_port_3 : decode cX2_port 3 = .ok (.iload_n 0, 1) := by decide +kernel
theorem dX2_port_4 : decode cX2_port 4 = .ok (.imul, 1) := by decide +kernel
theorem dX2_port_5 : decode cX2_port 5 = .ok (.iadd, 1) := by decide +kernel
theorem dX2_port_6 : decode cX2_port 6 = .ok (.iload_n 1, 1) := by decide +kernel
theorem dX2_port_7 : decode cX2_port 7 = .ok (.iadd, 1) := by decide +kernel
theorem dX2_port_8 : decode cX2_port 8 = .ok (.ireturn, 1) := by decide +kernel
theorem dX2_ownerOf_0 : decode cX2_ownerOf 0 = .ok (.iload_n 0, 1) := by decide +kernel
theorem dX2_ownerOf_1 : decode cX2_ownerOf 1 = .ok (.bipush 16, 2) := by decide +kernel
theorem dX2_ownerOf_3 : decode cX2_ownerOf 3 = .ok (.if_icmp .ge 7, 3) := by decide +kernel
theorem dX2_ownerOf_6 : decode cX2_ownerOf 6 = .ok (.iconst (-1), 1) := by decide +kernel
theorem dX2_ownerOf_7 : decode cX2_ownerOf 7 = .ok (.goto 9, 3) := by decide +kernel
theorem dX2_ownerOf_10 : decode cX2_ownerOf 10 = .ok (.iload_n 0, 1) := by decide +kernel
theorem dX2_ownerOf_11 : decode cX2_ownerOf 11 = .ok (.bipush 16, 2) := by decide +kernel
theorem dX2_ownerOf_13 : decode cX2_ownerOf 13 = .ok (.isub, 1) := by decide +kernel
theorem dX2_ownerOf_14 : decode cX2_ownerOf 14 = .ok (.iconst 3, 1) := by decide +kernel
theorem dX2_ownerOf_15 : decode cX2_ownerOf 15 = .ok (.idiv, 1) := by decide +kernel
theorem dX2_ownerOf_16 : decode cX2_ownerOf 16 = .ok (.ireturn, 1) := by decide +kernel
theorem dX2_sideOf_0 : decode cX2_sideOf 0 = .ok (.iload_n 0, 1) := by decide +kernel
theorem dX2_sideOf_1 : decode cX2_sideOf 1 = .ok (.bipush 16, 2) := by decide +kernel
theorem dX2_sideOf_3 : decode cX2_sideOf 3 = .ok (.if_icmp .ge 7, 3) := by decide +kernel
theorem dX2_sideOf_6 : decode cX2_sideOf 6 = .ok (.iconst (-1), 1) := by decide +kernel
theorem dX2_sideOf_7 : decode cX2_sideOf 7 = .ok (.goto 9, 3) := by decide +kernel
theorem dX2_sideOf_10 : decode cX2_sideOf 10 = .ok (.iload_n 0, 1) := by decide +kernel
theorem dX2_sideOf_11 : decode cX2_sideOf 11 = .ok (.bipush 16, 2) := by decide +kernel
theorem dX2_sideOf_13 : decode cX2_sideOf 13 = .ok (.isub, 1) := by decide +kernel
theorem dX2_sideOf_14 : decode cX2_sideOf 14 = .ok (.iconst 3, 1) := by decide +kernel
theorem dX2_sideOf_15 : decode cX2_sideOf 15 = .ok (.irem, 1) := by decide +kernel
theorem dX2_sideOf_16 : decode cX2_sideOf 16 = .ok (.ireturn, 1) := by decide +kernel
theorem dX2_clear_0 : decode cX2_clear 0 = .ok (.aload_n 0, 1) := by decide +kernel
theorem dX2_clear_1 : decode cX2_clear 1 = .ok (.getfield 18, 3) := by decide +kernel
theorem dX2_clear_4 : decode cX2_clear 4 = .ok (.iconst (-1), 1) := by decide +kernel
theorem dX2_clear_5 : decode cX2_clear 5 = .ok (.invokestatic 24, 3) := by decide +kernel
theorem dX2_clear_8 : decode cX2_clear 8 = .ok (.aload_n 0, 1) := by decide +kernel
theorem dX2_clear_9 : decode cX2_clear 9 = .ok (.getfield 9, 3) := by decide +kernel
theorem dX2_clear_12 : decode cX2_clear 12 = .ok (.iconst 0, 1) := by decide +kernel
theorem dX2_clear_13 : decode cX2_clear 13 = .ok (.invokestatic 24, 3) := by decide +kernel
theorem dX2_clear_16 : decode cX2_clear 16 = .ok (.aload_n 0, 1) := by decide +kernel
theorem dX2_clear_17 : decode cX2_clear 17 = .ok (.iconst 0, 1) := by decide +kernel
theorem dX2_clear_18 : decode cX2_clear 18 = .ok (.putfield 30, 3) := by decide +kernel
theorem dX2_clear_21 : decode cX2_clear 21 = .ok (.aload_n 0, 1) := by decide +kernel
theorem dX2_clear_22 : decode cX2_clear 22 = .ok (.iconst 0, 1) := by decide +kernel
theorem dX2_clear_23 : decode cX2_clear 23 = .ok (.putfield 34, 3) := by decide +kernel
theorem dX2_clear_26 : decode cX2_clear 26 = .ok (.aload_n 0, 1) := by decide +kernel
theorem dX2_clear_27 : decode cX2_clear 27 = .ok (.iconst 0, 1) := by decide +kernel
theorem dX2_clear_28 : decode cX2_clear 28 = .ok (.putfield 37, 3) := by decide +kernel
theorem dX2_clear_31 : decode cX2_clear 31 = .ok (.aload_n 0, 1) := by decide +kernel
theorem dX2_clear_32 : decode cX2_clear 32 = .ok (.iconst 0, 1) := by decide +kernel
theorem dX2_clear_33 : decode cX2_clear 33 = .ok (.putfield 40, 3) := by decide +kernel
theorem dX2_clear_36 : decode cX2_clear 36 = .ok (.return_, 1) := by decide +kernel
theorem dX2_copyFrom_0 : decode cX2_copyFrom 0 = .ok (.aload_n 0, 1) := by decide +kernel
theorem dX2_copyFrom_1 : decode cX2_copyFrom 1 = .ok (.aload_n 1, 1) := by decide +kernel
theorem dX2_copyFrom_2 : decode cX2_copyFrom 2 = .ok (.getfield 30, 3) := by decide +kernel
theorem dX2_copyFrom_5 : decode cX2_copyFrom 5 = .ok (.aload_n 0, 1) := by decide +kernel
theorem dX2_copyFrom_6 : decode cX2_copyFrom 6 = .ok (.getfield 15, 3) := by decide +kernel
theorem dX2_copyFrom_9 : decode cX2_copyFrom 9 = .ok (.arraylength, 1) := by decide +kernel
theorem dX2_copyFrom_10 : decode cX2_copyFrom 10 = .ok (.invokestatic 43, 3) := by decide +kernel
theorem dX2_copyFrom_13 : decode cX2_copyFrom 13 = .ok (.putfield 30, 3) := by decide +kernel
theorem dX2_copyFrom_16 : decode cX2_copyFrom 16 = .ok (.aload_n 1, 1) := by decide +kernel
theorem dX2_copyFrom_17 : decode cX2_copyFrom 17 = .ok (.getfield 15, 3) := by decide +kernel
theorem dX2_copyFrom_20 : decode cX2_copyFrom 20 = .ok (.iconst 0, 1) := by decide +kernel
theorem dX2_copyFrom_21 : decode cX2_copyFrom 21 = .ok (.aload_n 0, 1) := by decide +kernel
theorem dX2_copyFrom_22 : decode cX2_copyFrom 22 = .ok (.getfield 15, 3) := by decide +kernel
theorem dX2_copyFrom_25 : decode cX2_copyFrom 25 = .ok (.iconst 0, 1) := by decide +kernel
theorem dX2_copyFrom_26 : decode cX2_copyFrom 26 = .ok (.aload_n 0, 1) := by decide +kernel
theorem dX2_copyFrom_27 : decode cX2_copyFrom 27 = .ok (.getfield 30, 3) := by decide +kernel
theorem dX2_copyFrom_30 : decode cX2_copyFrom 30 = .ok (.invokestatic 49, 3) := by decide +kernel
theorem dX2_copyFrom_33 : decode cX2_copyFrom 33 = .ok (.aload_n 1, 1) := by decide +kernel
theorem dX2_copyFrom_34 : decode cX2_copyFrom 34 = .ok (.getfield 18, 3) := by decide +kernel
theorem dX2_copyFrom_37 : decode cX2_copyFrom 37 = .ok (.iconst 0, 1) := by decide +kernel
theorem dX2_copyFrom_38 : decode cX2_copyFrom 38 = .ok (.aload_n 0, 1) := by decide +kernel
theorem dX2_copyFrom_39 : decode cX2_copyFrom 39 = .ok (.getfield 18, 3) := by decide +kernel
theorem dX2_copyFrom_42 : decode cX2_copyFrom 42 = .ok (.iconst 0, 1) := by decide +kernel
theorem dX2_copyFrom_43 : decode cX2_copyFrom 43 = .ok (.bipush 16, 2) := by decide +kernel
theorem dX2_copyFrom_45 : decode cX2_copyFrom 45 = .ok (.iconst 3, 1) := by decide +kernel
theorem dX2_copyFrom_46 : decode cX2_copyFrom 46 = .ok (.aload_n 0, 1) := by decide +kernel
theorem dX2_copyFrom_47 : decode cX2_copyFrom 47 = .ok (.getfield 30, 3) := by decide +kernel
theorem dX2_copyFrom_50 : decode cX2_copyFrom 50 = .ok (.imul, 1) := by decide +kernel
theorem dX2_copyFrom_51 : decode cX2_copyFrom 51 = .ok (.iadd, 1) := by decide +kernel
theorem dX2_copyFrom_52 : decode cX2_copyFrom 52 = .ok (.invokestatic 49, 3) := by decide +kernel
theorem dX2_copyFrom_55 : decode cX2_copyFrom 55 = .ok (.aload_n 1, 1) := by decide +kernel
theorem dX2_copyFrom_56 : decode cX2_copyFrom 56 = .ok (.getfield 9, 3) := by decide +kernel
theorem dX2_copyFrom_59 : decode cX2_copyFrom 59 = .ok (.iconst 0, 1) := by decide +kernel
theorem dX2_copyFrom_60 : decode cX2_copyFrom 60 = .ok (.aload_n 0, 1) := by decide +kernel
theorem dX2_copyFrom_61 : decode cX2_copyFrom 61 = .ok (.getfield 9, 3) := by decide +kernel
theorem dX2_copyFrom_64 : decode cX2_copyFrom 64 = .ok (.iconst 0, 1) := by decide +kernel
theorem dX2_copyFrom_65 : decode cX2_copyFrom 65 = .ok (.iconst 4, 1) := by decide +kernel
theorem dX2_copyFrom_66 : decode cX2_copyFrom 66 = .ok (.invokestatic 49, 3) := by decide +kernel
theorem dX2_copyFrom_69 : decode cX2_copyFrom 69 = .ok (.aload_n 0, 1) := by decide +kernel
theorem dX2_copyFrom_70 : decode cX2_copyFrom 70 = .ok (.aload_n 1, 1) := by decide +kernel
theorem dX2_copyFrom_71 : decode cX2_copyFrom 71 = .ok (.getfield 34, 3) := by decide +kernel
theorem dX2_copyFrom_74 : decode cX2_copyFrom 74 = .ok (.putfield 34, 3) := by decide +kernel
theorem dX2_copyFrom_77 : decode cX2_copyFrom 77 = .ok (.aload_n 0, 1) := by decide +kernel
theorem dX2_copyFrom_78 : decode cX2_copyFrom 78 = .ok (.aload_n 1, 1) := by decide +kernel
theorem dX2_copyFrom_79 : decode cX2_copyFrom 79 = .ok (.getfield 37, 3) := by decide +kernel
theorem dX2_copyFrom_82 : decode cX2_copyFrom 82 = .ok (.putfield 37, 3) := by decide +kernel
theorem dX2_copyFrom_85 : decode cX2_copyFrom 85 = .ok (.aload_n 0, 1) := by decide +kernel
theorem dX2_copyFrom_86 : decode cX2_copyFrom 86 = .ok (.aload_n 1, 1) := by decide +kernel
theorem dX2_copyFrom_87 : decode cX2_copyFrom 87 = .ok (.getfield 40, 3) := by decide +kernel
theorem dX2_copyFrom_90 : decode cX2_copyFrom 90 = .ok (.putfield 40, 3) := by decide +kernel
theorem dX2_copyFrom_93 : decode cX2_copyFrom 93 = .ok (.return_, 1) := by decide +kernel
theorem dX2_nodes_0 : decode cX2_nodes 0 = .ok (.aload_n 0, 1) := by decide +kernel
theorem dX2_nodes_1 : decode cX2_nodes 1 = .ok (.getfield 37, 3) := by decide +kernel
theorem dX2_nodes_4 : decode cX2_nodes 4 = .ok (.ireturn, 1) := by decide +kernel
theorem dX2_rings_0 : decode cX2_rings 0 = .ok (.aload_n 0, 1) := by decide +kernel
theorem dX2_rings_1 : decode cX2_rings 1 = .ok (.getfield 40, 3) := by decide +kernel
theorem dX2_rings_4 : decode cX2_rings 4 = .ok (.ireturn, 1) := by decide +kernel
theorem dX2_rounds_0 : decode cX2_rounds 0 = .ok (.aload_n 0, 1) := by decide +kernel
theorem dX2_rounds_1 : decode cX2_rounds 1 = .ok (.getfield 55, 3) := by decide +kernel
theorem dX2_rounds_4 : decode cX2_rounds 4 = .ok (.ireturn, 1) := by decide +kernel
theorem dX2_done_0 : decode cX2_done 0 = .ok (.iload_n 1, 1) := by decide +kernel
theorem dX2_done_1 : decode cX2_done 1 = .ok (.ifCond .lt 21, 3) := by decide +kernel
theorem dX2_done_4 : decode cX2_done 4 = .ok (.iload_n 1, 1) := by decide +kernel
theorem dX2_done_5 : decode cX2_done 5 = .ok (.aload_n 0, 1) := by decide +kernel
theorem dX2_done_6 : decode cX2_done 6 = .ok (.getfield 9, 3) := by decide +kernel
theorem dX2_done_9 : decode cX2_done 9 = .ok (.arraylength, 1) := by decide +kernel
theorem dX2_done_10 : decode cX2_done 10 = .ok (.if_icmp .ge 12, 3) := by decide +kernel
theorem dX2_done_13 : decode cX2_done 13 = .ok (.aload_n 0, 1) := by decide +kernel
theorem dX2_done_14 : decode cX2_done 14 = .ok (.getfield 9, 3) := by decide +kernel
theorem dX2_done_17 : decode cX2_done 17 = .ok (.iload_n 1, 1) := by decide +kernel
theorem dX2_done_18 : decode cX2_done 18 = .ok (.iaload, 1) := by decide +kernel
theorem dX2_done_19 : decode cX2_done 19 = .ok (.goto 4, 3) := by decide +kernel
theorem dX2_done_22 : decode cX2_done 22 = .ok (.iconst (-1), 1) := by decide +kernel
theorem dX2_done_23 : decode cX2_done 23 = .ok (.ireturn, 1) := by decide +kernel
theorem dX2_kindOf_0 : decode cX2_kindOf 0 = .ok (.iload_n 1, 1) := by decide +kernel
theorem dX2_kindOf_1 : decode cX2_kindOf 1 = .ok (.ifCond .lt 29, 3) := by decide +kernel
theorem dX2_kindOf_4 : decode cX2_kindOf 4 = .ok (.iload_n 1, 1) := by decide +kernel
theorem dX2_kindOf_5 : decode cX2_kindOf 5 = .ok (.aload_n 0, 1) := by decide +kernel
theorem dX2_kindOf_6 : decode cX2_kindOf 6 = .ok (.getfield 30, 3) := by decide +kernel
theorem dX2_kindOf_9 : decode cX2_kindOf 9 = .ok (.if_icmp .ge 21, 3) := by decide +kernel
theorem dX2_kindOf_12 : decode cX2_kindOf 12 = .ok (.iload_n 1, 1) := by decide +kernel
theorem dX2_kindOf_13 : decode cX2_kindOf 13 = .ok (.aload_n 0, 1) := by decide +kernel
theorem dX2_kindOf_14 : decode cX2_kindOf 14 = .ok (.getfield 15, 3) := by decide +kernel
theorem dX2_kindOf_17 : decode cX2_kindOf 17 = .ok (.arraylength, 1) := by decide +kernel
theorem dX2_kindOf_18 : decode cX2_kindOf 18 = .ok (.if_icmp .ge 12, 3) := by decide +kernel
theorem dX2_kindOf_21 : decode cX2_kindOf 21 = .ok (.aload_n 0, 1) := by decide +kernel
theorem dX2_kindOf_22 : decode cX2_kindOf 22 = .ok (.getfield 15, 3) := by decide +kernel
theorem dX2_kindOf_25 : decode cX2_kindOf 25 = .ok (.iload_n 1, 1) := by decide +kernel
theorem dX2_kindOf_26 : decode cX2_kindOf 26 = .ok (.iaload, 1) := by decide +kernel
theorem dX2_kindOf_27 : decode cX2_kindOf 27 = .ok (.goto 4, 3) := by decide +kernel
theorem dX2_kindOf_30 : decode cX2_kindOf 30 = .ok (.iconst (-1), 1) := by decide +kernel
theorem dX2_kindOf_31 : decode cX2_kindOf 31 = .ok (.ireturn, 1) := by decide +kernel
theorem dX2_setKind_0 : decode cX2_setKind 0 = .ok (.iload_n 1, 1) := by decide +kernel
theorem dX2_setKind_1 : decode cX2_setKind 1 = .ok (.ifCond .lt 19, 3) := by decide +kernel
theorem dX2_setKind_4 : decode cX2_setKind 4 = .ok (.iload_n 1, 1) := by decide +kernel
theorem dX2_setKind_5 : decode cX2_setKind 5 = .ok (.aload_n 0, 1) := by decide +kernel
theorem dX2_setKind_6 : decode cX2_setKind 6 = .ok (.getfield 15, 3) := by decide +kernel
theorem dX2_setKind_9 : decode cX2_setKind 9 = .ok (.arraylength, 1) := by decide +kernel
theorem dX2_setKind_10 : decode cX2_setKind 10 = .ok (.if_icmp .ge 10, 3) := by decide +kernel
theorem dX2_setKind_13 : decode cX2_setKind 13 = .ok (.aload_n 0, 1) := by decide +kernel
theorem dX2_setKind_14 : decode cX2_setKind 14 = .ok (.getfield 15, 3) := by decide +kernel
theorem dX2_setKind_17 : decode cX2_setKind 17 = .ok (.iload_n 1, 1) := by decide +kernel
theorem dX2_setKind_18 : decode cX2_setKind 18 = .ok (.iload_n 2, 1) := by decide +kernel
theorem dX2_setKind_19 : decode cX2_setKind 19 = .ok (.iastore, 1) := by decide +kernel
theorem dX2_setKind_20 : decode cX2_setKind 20 = .ok (.return_, 1) := by decide +kernel
theorem dX2_nodesOfKind_0 : decode cX2_nodesOfKind 0 = .ok (.iconst 0, 1) := by decide +kernel
theorem dX2_nodesOfKind_1 : decode cX2_nodesOfKind 1 = .ok (.istore_n 2, 1) := by decide +kernel
theorem dX2_nodesOfKind_2 : decode cX2_nodesOfKind 2 = .ok (.iconst 0, 1) := by decide +kernel
theorem dX2_nodesOfKind_3 : decode cX2_nodesOfKind 3 = .ok (.istore_n 3, 1) := by decide +kernel
theorem dX2_nodesOfKind_4 : decode cX2_nodesOfKind 4 = .ok (.iload_n 3, 1) := by decide +kernel
theorem dX2_nodesOfKind_5 : decode cX2_nodesOfKind 5 = .ok (.aload_n 0, 1) := by decide +kernel
theorem dX2_nodesOfKind_6 : decode cX2_nodesOfKind 6 = .ok (.getfield 30, 3) := by decide +kernel
theorem dX2_nodesOfKind_9 : decode cX2_nodesOfKind 9 = .ok (.if_icmp .ge 26, 3) := by decide +kernel
theorem dX2_nodesOfKind_12 : decode cX2_nodesOfKind 12 = .ok (.iload_n 2, 1) := by decide +kernel
theorem dX2_nodesOfKind_13 : decode cX2_nodesOfKind 13 = .ok (.aload_n 0, 1) := by decide +kernel
theorem dX2_nodesOfKind_14 : decode cX2_nodesOfKind 14 = .ok (.iload_n 3, 1) := by decide +kernel
theorem dX2_nodesOfKind_15 : decode cX2_nodesOfKind 15 = .ok (.invokevirtual 58, 3) := by decide +kernel
theorem dX2_nodesOfKind_18 : decode cX2_nodesOfKind 18 = .ok (.iload_n 1, 1) := by decide +kernel
theorem dX2_nodesOfKind_19 : decode cX2_nodesOfKind 19 = .ok (.if_icmp .ne 7, 3) := by decide +kernel
theorem dX2_nodesOfKind_22 : decode cX2_nodesOfKind 22 = .ok (.iconst 1, 1) := by decide +kernel
theorem dX2_nodesOfKind_23 : decode cX2_nodesOfKind 23 = .ok (.goto 4, 3) := by decide +kernel
theorem dX2_nodesOfKind_26 : decode cX2_nodesOfKind 26 = .ok (.iconst 0, 1) := by decide +kernel
theorem dX2_nodesOfKind_27 : decode cX2_nodesOfKind 27 = .ok (.iadd, 1) := by decide +kernel
theorem dX2_nodesOfKind_28 : decode cX2_nodesOfKind 28 = .ok (.istore_n 2, 1) := by decide +kernel
theorem dX2_nodesOfKind_29 : decode cX2_nodesOfKind 29 = .ok (.iinc 3 1, 3) := by decide +kernel
theorem dX2_nodesOfKind_32 : decode cX2_nodesOfKind 32 = .ok (.goto (-28), 3) := by decide +kernel
theorem dX2_nodesOfKind_35 : decode cX2_nodesOfKind 35 = .ok (.iload_n 2, 1) := by decide +kernel
theorem dX2_nodesOfKind_36 : decode cX2_nodesOfKind 36 = .ok (.ireturn, 1) := by decide +kernel
theorem dX2_across_0 : decode cX2_across 0 = .ok (.iload_n 1, 1) := by decide +kernel
theorem dX2_across_1 : decode cX2_across 1 = .ok (.ifCond .lt 21, 3) := by decide +kernel
theorem dX2_across_4 : decode cX2_across 4 = .ok (.iload_n 1, 1) := by decide +kernel
theorem dX2_across_5 : decode cX2_across 5 = .ok (.aload_n 0, 1) := by decide +kernel
theorem dX2_across_6 : decode cX2_across 6 = .ok (.getfield 18, 3) := by decide +kernel
theorem dX2_across_9 : decode cX2_across 9 = .ok (.arraylength, 1) := by decide +kernel
theorem dX2_across_10 : decode cX2_across 10 = .ok (.if_icmp .ge 12, 3) := by decide +kernel
theorem dX2_across_13 : decode cX2_across 13 = .ok (.aload_n 0, 1) := by decide +kernel
theorem dX2_across_14 : decode cX2_across 14 = .ok (.getfield 18, 3) := by decide +kernel
theorem dX2_across_17 : decode cX2_across 17 = .ok (.iload_n 1, 1) := by decide +kernel
theorem dX2_across_18 : decode cX2_across 18 = .ok (.iaload, 1) := by decide +kernel
theorem dX2_across_19 : decode cX2_across 19 = .ok (.goto 4, 3) := by decide +kernel
theorem dX2_across_22 : decode cX2_across 22 = .ok (.iconst (-1), 1) := by decide +kernel
theorem dX2_across_23 : decode cX2_across 23 = .ok (.ireturn, 1) := by decide +kernel
theorem dX2_toldAcross_0 : decode cX2_toldAcross 0 = .ok (.aload_n 0, 1) := by decide +kernel
theorem dX2_toldAcross_1 : decode cX2_toldAcross 1 = .ok (.iload_n 1, 1) := by decide +kernel
theorem dX2_toldAcross_2 : decode cX2_toldAcross 2 = .ok (.invokevirtual 62, 3) := by decide +kernel
theorem dX2_toldAcross_5 : decode cX2_toldAcross 5 = .ok (.istore_n 2, 1) := by decide +kernel
theorem dX2_toldAcross_6 : decode cX2_toldAcross 6 = .ok (.iload_n 2, 1) := by decide +kernel
theorem dX2_toldAcross_7 : decode cX2_toldAcross 7 = .ok (.iconst (-1), 1) := by decide +kernel
theorem dX2_toldAcross_8 : decode cX2_toldAcross 8 = .ok (.if_icmp .ne 5, 3) := by decide +kernel
theorem dX2_toldAcross_11 : decode cX2_toldAcross 11 = .ok (.iconst (-1), 1) := by decide +kernel
theorem dX2_toldAcross_12 : decode cX2_toldAcross 12 = .ok (.ireturn, 1) := by decide +kernel
theorem dX2_toldAcross_13 : decode cX2_toldAcross 13 = .ok (.iload_n 2, 1) := by decide +kernel
theorem dX2_toldAcross_14 : decode cX2_toldAcross 14 = .ok (.bipush 8, 2) := by decide +kernel
theorem dX2_toldAcross_16 : decode cX2_toldAcross 16 = .ok (.if_icmp .ge 11, 3) := by decide +kernel
theorem dX2_toldAcross_19 : decode cX2_toldAcross 19 = .ok (.sipush 900, 3) := by decide +kernel
theorem dX2_toldAcross_22 : decode cX2_toldAcross 22 = .ok (.iload_n 2, 1) := by decide +kernel
theorem dX2_toldAcross_23 : decode cX2_toldAcross 23 = .ok (.iadd, 1) := by decide +kernel
theorem dX2_toldAcross_24 : decode cX2_toldAcross 24 = .ok (.goto 7, 3) := by decide +kernel
theorem dX2_toldAcross_27 : decode cX2_toldAcross 27 = .ok (.iload_n 2, 1) := by decide +kernel
theorem dX2_toldAcross_28 : decode cX2_toldAcross 28 = .ok (.bipush 16, 2) := by decide +kernel
theorem dX2_toldAcross_30 : decode cX2_toldAcross 30 = .ok (.isub, 1) := by decide +kernel
theorem dX2_toldAcross_31 : decode cX2_toldAcross 31 = .ok (.ireturn, 1) := by decide +kernel
theorem dX2_isOpen_0 : decode cX2_isOpen 0 = .ok (.iload_n 1, 1) := by decide +kernel
theorem dX2_isOpen_1 : decode cX2_isOpen 1 = .ok (.ifCond .lt 22, 3) := by decide +kernel
theorem dX2_isOpen_4 : decode cX2_isOpen 4 = .ok (.iload_n 1, 1) := by decide +kernel
theorem dX2_isOpen_5 : decode cX2_isOpen 5 = .ok (.bipush 8, 2) := by decide +kernel
theorem dX2_isOpen_7 : decode cX2_isOpen 7 = .ok (.if_icmp .ge 16, 3) := by decide +kernel
theorem dX2_isOpen_10 : decode cX2_isOpen 10 = .ok (.aload_n 0, 1) := by decide +kernel
theorem dX2_isOpen_11 : decode cX2_isOpen 11 = .ok (.iload_n 1, 1) := by decide +kernel
theorem dX2_isOpen_12 : decode cX2_isOpen 12 = .ok (.invokevirtual 62, 3) := by decide +kernel
theorem dX2_isOpen_15 : decode cX2_isOpen 15 = .ok (.iconst (-1), 1) := by decide +kernel
theorem dX2_isOpen_16 : decode cX2_isOpen 16 = .ok (.if_icmp .eq 7, 3) := by decide +kernel
theorem dX2_isOpen_19 : decode cX2_isOpen 19 = .ok (.iconst 1, 1) := by decide +kernel
theorem dX2_isOpen_20 : decode cX2_isOpen 20 = .ok (.goto 4, 3) := by decide +kernel
theorem dX2_isOpen_23 : decode cX2_isOpen 23 = .ok (.iconst 0, 1) := by decide +kernel
theorem dX2_isOpen_24 : decode cX2_isOpen 24 = .ok (.ireturn, 1) := by decide +kernel
theorem dX2_openWires_0 : decode cX2_openWires 0 = .ok (.iconst 0, 1) := by decide +kernel
theorem dX2_openWires_1 : decode cX2_openWires 1 = .ok (.istore_n 1, 1) := by decide +kernel
theorem dX2_openWires_2 : decode cX2_openWires 2 = .ok (.iconst 0, 1) := by decide +kernel
theorem dX2_openWires_3 : decode cX2_openWires 3 = .ok (.istore_n 2, 1) := by decide +kernel
theorem dX2_openWires_4 : decode cX2_openWires 4 = .ok (.iload_n 2, 1) := by decide +kernel
theorem dX2_openWires_5 : decode cX2_openWires 5 = .ok (.bipush 8, 2) := by decide +kernel
theorem dX2_openWires_7 : decode cX2_openWires 7 = .ok (.if_icmp .ge 25, 3) := by decide +kernel
theorem dX2_openWires_10 : decode cX2_openWires 10 = .ok (.iload_n 1, 1) := by decide +kernel
theorem dX2_openWires_11 : decode cX2_openWires 11 = .ok (.aload_n 0, 1) := by decide +kernel
theorem dX2_openWires_12 : decode cX2_openWires 12 = .ok (.iload_n 2, 1) := by decide +kernel
theorem dX2_openWires_13 : decode cX2_openWires 13 = .ok (.invokevirtual 65, 3) := by decide +kernel
theorem dX2_openWires_16 : decode cX2_openWires 16 = .ok (.ifCond .eq 7, 3) := by decide +kernel
theorem dX2_openWires_19 : decode cX2_openWires 19 = .ok (.iconst 1, 1) := by decide +kernel
theorem dX2_openWires_20 : decode cX2_openWires 20 = .ok (.goto 4, 3) := by decide +kernel
theorem dX2_openWires_23 : decode cX2_openWires 23 = .ok (.iconst 0, 1) := by decide +kernel
theorem dX2_openWires_24 : decode cX2_openWires 24 = .ok (.iadd, 1) := by decide +kernel
theorem dX2_openWires_25 : decode cX2_openWires 25 = .ok (.istore_n 1, 1) := by decide +kernel
theorem dX2_openWires_26 : decode cX2_openWires 26 = .ok (.iinc 2 1, 3) := by decide +kernel
theorem dX2_openWires_29 : decode cX2_openWires 29 = .ok (.goto (-25), 3) := by decide +kernel
theorem dX2_openWires_32 : decode cX2_openWires 32 = .ok (.iload_n 1, 1) := by decide +kernel
theorem dX2_openWires_33 : decode cX2_openWires 33 = .ok (.ireturn, 1) := by decide +kernel
theorem dX2_hasOpenWiresOf_0 : decode cX2_hasOpenWiresOf 0 = .ok (.iconst 0, 1) := by decide +kernel
theorem dX2_hasOpenWiresOf_1 : decode cX2_hasOpenWiresOf 1 = .ok (.istore_n 2, 1) := by decide +kernel
theorem dX2_hasOpenWiresOf_2 : decode cX2_hasOpenWiresOf 2 = .ok (.iload_n 2, 1) := by decide +kernel
theorem dX2_hasOpenWiresOf_3 : decode cX2_hasOpenWiresOf 3 = .ok (.bipush 8, 2) := by decide +kernel
theorem dX2_hasOpenWiresOf_5 : decode cX2_hasOpenWiresOf 5 = .ok (.if_icmp .ge 24, 3) := by decide +kernel
theorem dX2_hasOpenWiresOf_8 : decode cX2_hasOpenWiresOf 8 = .ok (.aload_n 0, 1) := by decide +kernel
theorem dX2_hasOpenWiresOf_9 : decode cX2_hasOpenWiresOf 9 = .ok (.iload_n 2, 1) := by decide +kernel
theorem dX2_hasOpenWiresOf_10 : decode cX2_hasOpenWiresOf 10 = .ok (.invokevirtual 65, 3) := by decide +kernel
theorem dX2_hasOpenWiresOf_13 : decode cX2_hasOpenWiresOf 13 = .ok (.aload_n 1, 1) := by decide +kernel
theorem dX2_hasOpenWiresOf_14 : decode cX2_hasOpenWiresOf 14 = .ok (.iload_n 2, 1) := by decide +kernel
theorem dX2_hasOpenWiresOf_15 : decode cX2_hasOpenWiresOf 15 = .ok (.invokevirtual 65, 3) := by decide +kernel
theorem dX2_hasOpenWiresOf_18 : decode cX2_hasOpenWiresOf 18 = .ok (.if_icmp .eq 5, 3) := by decide +kernel
theorem dX2_hasOpenWiresOf_21 : decode cX2_hasOpenWiresOf 21 = .ok (.iconst 0, 1) := by decide +kernel
theorem dX2_hasOpenWiresOf_22 : decode cX2_hasOpenWiresOf 22 = .ok (.ireturn, 1) := by decide +kernel
theorem dX2_hasOpenWiresOf_23 : decode cX2_hasOpenWiresOf 23 = .ok (.iinc 2 1, 3) := by decide +kernel
theorem dX2_hasOpenWiresOf_26 : decode cX2_hasOpenWiresOf 26 = .ok (.goto (-24), 3) := by decide +kernel
theorem dX2_hasOpenWiresOf_29 : decode cX2_hasOpenWiresOf 29 = .ok (.iconst 1, 1) := by decide +kernel
theorem dX2_hasOpenWiresOf_30 : decode cX2_hasOpenWiresOf 30 = .ok (.ireturn, 1) := by decide +kernel
theorem dX2_headAt_0 : decode cX2_headAt 0 = .ok (.iload_n 1, 1) := by decide +kernel
theorem dX2_headAt_1 : decode cX2_headAt 1 = .ok (.invokestatic 69, 3) := by decide +kernel
theorem dX2_headAt_4 : decode cX2_headAt 4 = .ok (.ifCond .ne 10, 3) := by decide +kernel
theorem dX2_headAt_7 : decode cX2_headAt 7 = .ok (.iload_n 1, 1) := by decide +kernel
theorem dX2_headAt_8 : decode cX2_headAt 8 = .ok (.invokestatic 72, 3) := by decide +kernel
theorem dX2_headAt_11 : decode cX2_headAt 11 = .ok (.goto 4, 3) := by decide +kernel
theorem dX2_headAt_14 : decode cX2_headAt 14 = .ok (.iconst (-1), 1) := by decide +kernel
theorem dX2_headAt_15 : decode cX2_headAt 15 = .ok (.ireturn, 1) := by decide +kernel
theorem dX2_partnerOf_0 : decode cX2_partnerOf 0 = .ok (.aload_n 0, 1) := by decide +kernel
theorem dX2_partnerOf_1 : decode cX2_partnerOf 1 = .ok (.iload_n 1, 1) := by decide +kernel
theorem dX2_partnerOf_2 : decode cX2_partnerOf 2 = .ok (.invokevirtual 58, 3) := by decide +kernel
theorem dX2_partnerOf_5 : decode cX2_partnerOf 5 = .ok (.iconst (-1), 1) := by decide +kernel
theorem dX2_partnerOf_6 : decode cX2_partnerOf 6 = .ok (.if_icmp .ne 7, 3) := by decide +kernel
theorem dX2_partnerOf_9 : decode cX2_partnerOf 9 = .ok (.iconst (-1), 1) := by decide +kernel
theorem dX2_partnerOf_10 : decode cX2_partnerOf 10 = .ok (.goto 16, 3) := by decide +kernel
theorem dX2_partnerOf_13 : decode cX2_partnerOf 13 = .ok (.aload_n 0, 1) := by decide +kernel
theorem dX2_partnerOf_14 : decode cX2_partnerOf 14 = .ok (.aload_n 0, 1) := by decide +kernel
theorem dX2_partnerOf_15 : decode cX2_partnerOf 15 = .ok (.iload_n 1, 1) := by decide +kernel
theorem dX2_partnerOf_16 : decode cX2_partnerOf 16 = .ok (.iconst 0, 1) := by decide +kernel
theorem dX2_partnerOf_17 : decode cX2_partnerOf 17 = .ok (.invokestatic 75, 3) := by decide +kernel
theorem dX2_partnerOf_20 : decode cX2_partnerOf 20 = .ok (.invokevirtual 62, 3) := by decide +kernel
theorem dX2_partnerOf_23 : decode cX2_partnerOf 23 = .ok (.invokevirtual 78, 3) := by decide +kernel
theorem dX2_partnerOf_26 : decode cX2_partnerOf 26 = .ok (.ireturn, 1) := by decide +kernel
theorem dX2_listMeetings_0 : decode cX2_listMeetings 0 = .ok (.iconst 0, 1) := by decide +kernel
theorem dX2_listMeetings_1 : decode cX2_listMeetings 1 = .ok (.istore_n 1, 1) := by decide +kernel
theorem dX2_listMeetings_2 : decode cX2_listMeetings 2 = .ok (.bipush 16, 2) := by decide +kernel
theorem dX2_listMeetings_4 : decode cX2_listMeetings 4 = .ok (.istore_n 2, 1) := by decide +kernel
theorem dX2_listMeetings_5 : decode cX2_listMeetings 5 = .ok (.iconst 0, 1) := by decide +kernel
theorem dX2_listMeetings_6 : decode cX2_listMeetings 6 = .ok (.istore_n 3, 1) := by decide +kernel
theorem dX2_listMeetings_7 : decode cX2_listMeetings 7 = .ok (.iload_n 3, 1) := by decide +kernel
theorem dX2_listMeetings_8 : decode cX2_listMeetings 8 = .ok (.aload_n 0, 1) := by decide +kernel
theorem dX2_listMeetings_9 : decode cX2_listMeetings 9 = .ok (.getfield 30, 3) := by decide +kernel
theorem dX2_listMeetings_12 : decode cX2_listMeetings 12 = .ok (.if_icmp .ge 94, 3) := by decide +kernel
theorem dX2_listMeetings_15 : decode cX2_listMeetings 15 = .ok (.iload_n 3, 1) := by decide +kernel
theorem dX2_listMeetings_16 : decode cX2_listMeetings 16 = .ok (.aload_n 0, 1) := by decide +kernel
theorem dX2_listMeetings_17 : decode cX2_listMeetings 17 = .ok (.getfield 15, 3) := by decide +kernel
theorem dX2_listMeetings_20 : decode cX2_listMeetings 20 = .ok (.arraylength, 1) := by decide +kernel
theorem dX2_listMeetings_21 : decode cX2_listMeetings 21 = .ok (.if_icmp .ge 85, 3) := by decide +kernel
theorem dX2_listMeetings_24 : decode cX2_listMeetings 24 = .ok (.iload_n 2, 1) := by decide +kernel
theorem dX2_listMeetings_25 : decode cX2_listMeetings 25 = .ok (.aload_n 0, 1) := by decide +kernel
theorem dX2_listMeetings_26 : decode cX2_listMeetings 26 = .ok (.getfield 18, 3) := by decide +kernel
theorem dX2_listMeetings_29 : decode cX2_listMeetings 29 = .ok (.arraylength, 1) := by decide +kernel
theorem dX2_listMeetings_30 : decode cX2_listMeetings 30 = .ok (.if_icmp .ge 76, 3) := by decide +kernel
theorem dX2_listMeetings_33 : decode cX2_listMeetings 33 = .ok (.aload_n 0, 1) := by decide +kernel
theorem dX2_listMeetings_34 : decode cX2_listMeetings 34 = .ok (.getfield 15, 3) := by decide +kernel
theorem dX2_listMeetings_37 : decode cX2_listMeetings 37 = .ok (.iload_n 3, 1) := by decide +kernel
theorem dX2_listMeetings_38 : decode cX2_listMeetings 38 = .ok (.iaload, 1) := by decide +kernel
theorem dX2_listMeetings_39 : decode cX2_listMeetings 39 = .ok (.iconst (-1), 1) := by decide +kernel
theorem dX2_listMeetings_40 : decode cX2_listMeetings 40 = .ok (.if_icmp .eq 30, 3) := by decide +kernel
theorem dX2_listMeetings_43 : decode cX2_listMeetings 43 = .ok (.aload_n 0, 1) := by decide +kernel
theorem dX2_listMeetings_44 : decode cX2_listMeetings 44 = .ok (.getfield 18, 3) := by decide +kernel
theorem dX2_listMeetings_47 : decode cX2_listMeetings 47 = .ok (.iload_n 2, 1) := by decide +kernel
theorem dX2_listMeetings_48 : decode cX2_listMeetings 48 = .ok (.iaload, 1) := by decide +kernel
theorem dX2_listMeetings_49 : decode cX2_listMeetings 49 = .ok (.iload_n 2, 1) := by decide +kernel
theorem dX2_listMeetings_50 : decode cX2_listMeetings 50 = .ok (.if_icmp .le 20, 3) := by decide +kernel
theorem dX2_listMeetings_53 : decode cX2_listMeetings 53 = .ok (.aload_n 0, 1) := by decide +kernel
theorem dX2_listMeetings_54 : decode cX2_listMeetings 54 = .ok (.getfield 18, 3) := by decide +kernel
theorem dX2_listMeetings_57 : decode cX2_listMeetings 57 = .ok (.iload_n 2, 1) := by decide +kernel
theorem dX2_listMeetings_58 : decode cX2_listMeetings 58 = .ok (.iaload, 1) := by decide +kernel
theorem dX2_listMeetings_59 : decode cX2_listMeetings 59 = .ok (.iload_n 2, 1) := by decide +kernel
theorem dX2_listMeetings_60 : decode cX2_listMeetings 60 = .ok (.isub, 1) := by decide +kernel
theorem dX2_listMeetings_61 : decode cX2_listMeetings 61 = .ok (.iconst 3, 1) := by decide +kernel
theorem dX2_listMeetings_62 : decode cX2_listMeetings 62 = .ok (.irem, 1) := by decide +kernel
theorem dX2_listMeetings_63 : decode cX2_listMeetings 63 = .ok (.ifCond .ne 7, 3) := by decide +kernel
theorem dX2_listMeetings_66 : decode cX2_listMeetings 66 = .ok (.iconst 1, 1) := by decide +kernel
theorem dX2_listMeetings_67 : decode cX2_listMeetings 67 = .ok (.goto 4, 3) := by decide +kernel
theorem dX2_listMeetings_70 : decode cX2_listMeetings 70 = .ok (.iconst 0, 1) := by decide +kernel
theorem dX2_listMeetings_71 : decode cX2_listMeetings 71 = .ok (.istore 4, 2) := by decide +kernel
theorem dX2_listMeetings_73 : decode cX2_listMeetings 73 = .ok (.iload 4, 2) := by decide +kernel
theorem dX2_listMeetings_75 : decode cX2_listMeetings 75 = .ok (.ifCond .eq 22, 3) := by decide +kernel
theorem dX2_listMeetings_78 : decode cX2_listMeetings 78 = .ok (.iload_n 1, 1) := by decide +kernel
theorem dX2_listMeetings_79 : decode cX2_listMeetings 79 = .ok (.aload_n 0, 1) := by decide +kernel
theorem dX2_listMeetings_80 : decode cX2_listMeetings 80 = .ok (.getfield 21, 3) := by decide +kernel
theorem dX2_listMeetings_83 : decode cX2_listMeetings 83 = .ok (.arraylength, 1) := by decide +kernel
theorem dX2_listMeetings_84 : decode cX2_listMeetings 84 = .ok (.if_icmp .ge 13, 3) := by decide +kernel
theorem dX2_listMeetings_87 : decode cX2_listMeetings 87 = .ok (.aload_n 0, 1) := by decide +kernel
theorem dX2_listMeetings_88 : decode cX2_listMeetings 88 = .ok (.getfield 21, 3) := by decide +kernel
theorem dX2_listMeetings_91 : decode cX2_listMeetings 91 = .ok (.iload_n 1, 1) := by decide +kernel
theorem dX2_listMeetings_92 : decode cX2_listMeetings 92 = .ok (.iload_n 3, 1) := by decide +kernel
theorem dX2_listMeetings_93 : decode cX2_listMeetings 93 = .ok (.iastore, 1) := by decide +kernel
theorem dX2_listMeetings_94 : decode cX2_listMeetings 94 = .ok (.iinc 1 1, 3) := by decide +kernel
theorem dX2_listMeetings_97 : decode cX2_listMeetings 97 = .ok (.iinc 2 3, 3) := by decide +kernel
theorem dX2_listMeetings_100 : decode cX2_listMeetings 100 = .ok (.iinc 3 1, 3) := by decide +kernel
theorem dX2_listMeetings_103 : decode cX2_listMeetings 103 = .ok (.goto (-96), 3) := by decide +kernel
theorem dX2_listMeetings_106 : decode cX2_listMeetings 106 = .ok (.aload_n 0, 1) := by decide +kernel
theorem dX2_listMeetings_107 : decode cX2_listMeetings 107 = .ok (.iload_n 1, 1) := by decide +kernel
theorem dX2_listMeetings_108 : decode cX2_listMeetings 108 = .ok (.putfield 81, 3) := by decide +kernel
theorem dX2_listMeetings_111 : decode cX2_listMeetings 111 = .ok (.iload_n 1, 1) := by decide +kernel
theorem dX2_listMeetings_112 : decode cX2_listMeetings 112 = .ok (.ireturn, 1) := by decide +kernel
theorem dX2_listedAt_0 : decode cX2_listedAt 0 = .ok (.iload_n 1, 1) := by decide +kernel
theorem dX2_listedAt_1 : decode cX2_listedAt 1 = .ok (.ifCond .lt 29, 3) := by decide +kernel
theorem dX2_listedAt_4 : decode cX2_listedAt 4 = .ok (.iload_n 1, 1) := by decide +kernel
theorem dX2_listedAt_5 : decode cX2_listedAt 5 = .ok (.aload_n 0, 1) := by decide +kernel
theorem dX2_listedAt_6 : decode cX2_listedAt 6 = .ok (.getfield 81, 3) := by decide +kernel
theorem dX2_listedAt_9 : decode cX2_listedAt 9 = .ok (.if_icmp .ge 21, 3) := by decide +kernel
theorem dX2_listedAt_12 : decode cX2_listedAt 12 = .ok (.iload_n 1, 1) := by decide +kernel
theorem dX2_listedAt_13 : decode cX2_listedAt 13 = .ok (.aload_n 0, 1) := by decide +kernel
theorem dX2_listedAt_14 : decode cX2_listedAt 14 = .ok (.getfield 21, 3) := by decide +kernel
theorem dX2_listedAt_17 : decode cX2_listedAt 17 = .ok (.arraylength, 1) := by decide +kernel
theorem dX2_listedAt_18 : decode cX2_listedAt 18 = .ok (.if_icmp .ge 12, 3) := by decide +kernel
theorem dX2_listedAt_21 : decode cX2_listedAt 21 = .ok (.aload_n 0, 1) := by decide +kernel
theorem dX2_listedAt_22 : decode cX2_listedAt 22 = .ok (.getfield 21, 3) := by decide +kernel
theorem dX2_listedAt_25 : decode cX2_listedAt 25 = .ok (.iload_n 1, 1) := by decide +kernel
theorem dX2_listedAt_26 : decode cX2_listedAt 26 = .ok (.iaload, 1) := by decide +kernel
theorem dX2_listedAt_27 : decode cX2_listedAt 27 = .ok (.goto 4, 3) := by decide +kernel
theorem dX2_listedAt_30 : decode cX2_listedAt 30 = .ok (.iconst (-1), 1) := by decide +kernel
theorem dX2_listedAt_31 : decode cX2_listedAt 31 = .ok (.ireturn, 1) := by decide +kernel
theorem dX2_addNode_0 : decode cX2_addNode 0 = .ok (.aload_n 0, 1) := by decide +kernel
theorem dX2_addNode_1 : decode cX2_addNode 1 = .ok (.getfield 34, 3) := by decide +kernel
theorem dX2_addNode_4 : decode cX2_addNode 4 = .ok (.istore_n 2, 1) := by decide +kernel
theorem dX2_addNode_5 : decode cX2_addNode 5 = .ok (.iload_n 2, 1) := by decide +kernel
theorem dX2_addNode_6 : decode cX2_addNode 6 = .ok (.aload_n 0, 1) := by decide +kernel
theorem dX2_addNode_7 : decode cX2_addNode 7 = .ok (.getfield 30, 3) := by decide +kernel
theorem dX2_addNode_10 : decode cX2_addNode 10 = .ok (.if_icmp .ge 18, 3) := by decide +kernel
theorem dX2_addNode_13 : decode cX2_addNode 13 = .ok (.aload_n 0, 1) := by decide +kernel
theorem dX2_addNode_14 : decode cX2_addNode 14 = .ok (.iload_n 2, 1) := by decide +kernel
theorem dX2_addNode_15 : decode cX2_addNode 15 = .ok (.invokevirtual 58, 3) := by decide +kernel
theorem dX2_addNode_18 : decode cX2_addNode 18 = .ok (.iconst (-1), 1) := by decide +kernel
theorem dX2_addNode_19 : decode cX2_addNode 19 = .ok (.if_icmp .eq 9, 3) := by decide +kernel
theorem dX2_addNode_22 : decode cX2_addNode 22 = .ok (.iinc 2 1, 3) := by decide +kernel
theorem dX2_addNode_25 : decode cX2_addNode 25 = .ok (.goto (-20), 3) := by decide +kernel
theorem dX2_addNode_28 : decode cX2_addNode 28 = .ok (.iload_n 2, 1) := by decide +kernel
theorem dX2_addNode_29 : decode cX2_addNode 29 = .ok (.ifCond .lt 12, 3) := by decide +kernel
theorem dX2_addNode_32 : decode cX2_addNode 32 = .ok (.iload_n 2, 1) := by decide +kernel
theorem dX2_addNode_33 : decode cX2_addNode 33 = .ok (.aload_n 0, 1) := by decide +kernel
theorem dX2_addNode_34 : decode cX2_addNode 34 = .ok (.getfield 15, 3) := by decide +kernel
theorem dX2_addNode_37 : decode cX2_addNode 37 = .ok (.arraylength, 1) := by decide +kernel
theorem dX2_addNode_38 : decode cX2_addNode 38 = .ok (.if_icmp .lt 5, 3) := by decide +kernel
theorem dX2_addNode_41 : decode cX2_addNode 41 = .ok (.iconst (-1), 1) := by decide +kernel
theorem dX2_addNode_42 : decode cX2_addNode 42 = .ok (.ireturn, 1) := by decide +kernel
theorem dX2_addNode_43 : decode cX2_addNode 43 = .ok (.aload_n 0, 1) := by decide +kernel
theorem dX2_addNode_44 : decode cX2_addNode 44 = .ok (.iload_n 2, 1) := by decide +kernel
theorem dX2_addNode_45 : decode cX2_addNode 45 = .ok (.iconst 1, 1) := by decide +kernel
theorem dX2_addNode_46 : decode cX2_addNode 46 = .ok (.iadd, 1) := by decide +kernel
theorem dX2_addNode_47 : decode cX2_addNode 47 = .ok (.putfield 34, 3) := by decide +kernel
theorem dX2_addNode_50 : decode cX2_addNode 50 = .ok (.aload_n 0, 1) := by decide +kernel
theorem dX2_addNode_51 : decode cX2_addNode 51 = .ok (.aload_n 0, 1) := by decide +kernel
theorem dX2_addNode_52 : decode cX2_addNode 52 = .ok (.getfield 30, 3) := by decide +kernel
theorem dX2_addNode_55 : decode cX2_addNode 55 = .ok (.aload_n 0, 1) := by decide +kernel
theorem dX2_addNode_56 : decode cX2_addNode 56 = .ok (.getfield 34, 3) := by decide +kernel
theorem dX2_addNode_59 : decode cX2_addNode 59 = .ok (.invokestatic 84, 3) := by decide +kernel
theorem dX2_addNode_62 : decode cX2_addNode 62 = .ok (.putfield 30, 3) := by decide +kernel
theorem dX2_addNode_65 : decode cX2_addNode 65 = .ok (.aload_n 0, 1) := by decide +kernel
theorem dX2_addNode_66 : decode cX2_addNode 66 = .ok (.getfield 15, 3) := by decide +kernel
theorem dX2_addNode_69 : decode cX2_addNode 69 = .ok (.iload_n 2, 1) := by decide +kernel
theorem dX2_addNode_70 : decode cX2_addNode 70 = .ok (.iload_n 1, 1) := by decide +kernel
theorem dX2_addNode_71 : decode cX2_addNode 71 = .ok (.iastore, 1) := by decide +kernel
theorem dX2_addNode_72 : decode cX2_addNode 72 = .ok (.aload_n 0, 1) := by decide +kernel
theorem dX2_addNode_73 : decode cX2_addNode 73 = .ok (.dup, 1) := by decide +kernel
theorem dX2_addNode_74 : decode cX2_addNode 74 = .ok (.getfield 37, 3) := by decide +kernel
theorem dX2_addNode_77 : decode cX2_addNode 77 = .ok (.iconst 1, 1) := by decide +kernel
theorem dX2_addNode_78 : decode cX2_addNode 78 = .ok (.iadd, 1) := by decide +kernel
theorem dX2_addNode_79 : decode cX2_addNode 79 = .ok (.putfield 37, 3) := by decide +kernel
theorem dX2_addNode_82 : decode cX2_addNode 82 = .ok (.iload_n 2, 1) := by decide +kernel
theorem dX2_addNode_83 : decode cX2_addNode 83 = .ok (.ireturn, 1) := by decide +kernel
theorem dX2_remove_0 : decode cX2_remove 0 = .ok (.aload_n 0, 1) := by decide +kernel
theorem dX2_remove_1 : decode cX2_remove 1 = .ok (.iload_n 1, 1) := by decide +kernel
theorem dX2_remove_2 : decode cX2_remove 2 = .ok (.invokevirtual 58, 3) := by decide +kernel
theorem dX2_remove_5 : decode cX2_remove 5 = .ok (.iconst (-1), 1) := by decide +kernel
theorem dX2_remove_6 : decode cX2_remove 6 = .ok (.if_icmp .eq 31, 3) := by decide +kernel
theorem dX2_remove_9 : decode cX2_remove 9 = .ok (.aload_n 0, 1) := by decide +kernel
theorem dX2_remove_10 : decode cX2_remove 10 = .ok (.iload_n 1, 1) := by decide +kernel
theorem dX2_remove_11 : decode cX2_remove 11 = .ok (.iconst (-1), 1) := by decide +kernel
theorem dX2_remove_12 : decode cX2_remove 12 = .ok (.invokevirtual 87, 3) := by decide +kernel
theorem dX2_remove_15 : decode cX2_remove 15 = .ok (.aload_n 0, 1) := by decide +kernel
theorem dX2_remove_16 : decode cX2_remove 16 = .ok (.aload_n 0, 1) := by decide +kernel
theorem dX2_remove_17 : decode cX2_remove 17 = .ok (.getfield 34, 3) := by decide +kernel
theorem dX2_remove_20 : decode cX2_remove 20 = .ok (.iload_n 1, 1) := by decide +kernel
theorem dX2_remove_21 : decode cX2_remove 21 = .ok (.invokestatic 43, 3) := by decide +kernel
theorem dX2_remove_24 : decode cX2_remove 24 = .ok (.putfield 34, 3) := by decide +kernel
theorem dX2_remove_27 : decode cX2_remove 27 = .ok (.aload_n 0, 1) := by decide +kernel
theorem dX2_remove_28 : decode cX2_remove 28 = .ok (.dup, 1) := by decide +kernel
theorem dX2_remove_29 : decode cX2_remove 29 = .ok (.getfield 37, 3) := by decide +kernel
theorem dX2_remove_32 : decode cX2_remove 32 = .ok (.iconst 1, 1) := by decide +kernel
theorem dX2_remove_33 : decode cX2_remove 33 = .ok (.isub, 1) := by decide +kernel
theorem dX2_remove_34 : decode cX2_remove 34 = .ok (.putfield 37, 3) := by decide +kernel
theorem dX2_remove_37 : decode cX2_remove 37 = .ok (.return_, 1) := by decide +kernel
theorem dX2_link_0 : decode cX2_link 0 = .ok (.iload_n 1, 1) := by decide +kernel
theorem dX2_link_1 : decode cX2_link 1 = .ok (.ifCond .lt 39, 3) := by decide +kernel
theorem dX2_link_4 : decode cX2_link 4 = .ok (.iload_n 1, 1) := by decide +kernel
theorem dX2_link_5 : decode cX2_link 5 = .ok (.aload_n 0, 1) := by decide +kernel
theorem dX2_link_6 : decode cX2_link 6 = .ok (.getfield 18, 3) := by decide +kernel
theorem dX2_link_9 : decode cX2_link 9 = .ok (.arraylength, 1) := by decide +kernel
theorem dX2_link_10 : decode cX2_link 10 = .ok (.if_icmp .ge 30, 3) := by decide +kernel
theorem dX2_link_13 : decode cX2_link 13 = .ok (.iload_n 2, 1) := by decide +kernel
theorem dX2_link_14 : decode cX2_link 14 = .ok (.ifCond .lt 26, 3) := by decide +kernel
theorem dX2_link_17 : decode cX2_link 17 = .ok (.iload_n 2, 1) := by decide +kernel
theorem dX2_link_18 : decode cX2_link 18 = .ok (.aload_n 0, 1) := by decide +kernel
theorem dX2_link_19 : decode cX2_link 19 = .ok (.getfield 18, 3) := by decide +kernel
theorem dX2_link_22 : decode cX2_link 22 = .ok (.arraylength, 1) := by decide +kernel
theorem dX2_link_23 : decode cX2_link 23 = .ok (.if_icmp .ge 17, 3) := by decide +kernel
theorem dX2_link_26 : decode cX2_link 26 = .ok (.aload_n 0, 1) := by decide +kernel
theorem dX2_link_27 : decode cX2_link 27 = .ok (.getfield 18, 3) := by decide +kernel
theorem dX2_link_30 : decode cX2_link 30 = .ok (.iload_n 1, 1) := by decide +kernel
theorem dX2_link_31 : decode cX2_link 31 = .ok (.iload_n 2, 1) := by decide +kernel
theorem dX2_link_32 : decode cX2_link 32 = .ok (.iastore, 1) := by decide +kernel
theorem dX2_link_33 : decode cX2_link 33 = .ok (.aload_n 0, 1) := by decide +kernel
theorem dX2_link_34 : decode cX2_link 34 = .ok (.getfield 18, 3) := by decide +kernel
theorem dX2_link_37 : decode cX2_link 37 = .ok (.iload_n 2, 1) := by decide +kernel
theorem dX2_link_38 : decode cX2_link 38 = .ok (.iload_n 1, 1) := by decide +kernel
theorem dX2_link_39 : decode cX2_link 39 = .ok (.iastore, 1) := by decide +kernel
theorem dX2_link_40 : decode cX2_link 40 = .ok (.return_, 1) := by decide +kernel
theorem dX2_vacate_0 : decode cX2_vacate 0 = .ok (.iload_n 1, 1) := by decide +kernel
theorem dX2_vacate_1 : decode cX2_vacate 1 = .ok (.ifCond .lt 19, 3) := by decide +kernel
theorem dX2_vacate_4 : decode cX2_vacate 4 = .ok (.iload_n 1, 1) := by decide +kernel
theorem dX2_vacate_5 : decode cX2_vacate 5 = .ok (.aload_n 0, 1) := by decide +kernel
theorem dX2_vacate_6 : decode cX2_vacate 6 = .ok (.getfield 18, 3) := by decide +kernel
theorem dX2_vacate_9 : decode cX2_vacate 9 = .ok (.arraylength, 1) := by decide +kernel
theorem dX2_vacate_10 : decode cX2_vacate 10 = .ok (.if_icmp .ge 10, 3) := by decide +kernel
theorem dX2_vacate_13 : decode cX2_vacate 13 = .ok (.aload_n 0, 1) := by decide +kernel
theorem dX2_vacate_14 : decode cX2_vacate 14 = .ok (.getfield 18, 3) := by decide +kernel
theorem dX2_vacate_17 : decode cX2_vacate 17 = .ok (.iload_n 1, 1) := by decide +kernel
theorem dX2_vacate_18 : decode cX2_vacate 18 = .ok (.iconst (-1), 1) := by decide +kernel
theorem dX2_vacate_19 : decode cX2_vacate 19 = .ok (.iastore, 1) := by decide +kernel
theorem dX2_vacate_20 : decode cX2_vacate 20 = .ok (.return_, 1) := by decide +kernel
theorem dX2_move_0 : decode cX2_move 0 = .ok (.aload_n 0, 1) := by decide +kernel
theorem dX2_move_1 : decode cX2_move 1 = .ok (.iload_n 1, 1) := by decide +kernel
theorem dX2_move_2 : decode cX2_move 2 = .ok (.invokevirtual 62, 3) := by decide +kernel
theorem dX2_move_5 : decode cX2_move 5 = .ok (.istore_n 3, 1) := by decide +kernel
theorem dX2_move_6 : decode cX2_move 6 = .ok (.aload_n 0, 1) := by decide +kernel
theorem dX2_move_7 : decode cX2_move 7 = .ok (.iload_n 1, 1) := by decide +kernel
theorem dX2_move_8 : decode cX2_move 8 = .ok (.invokevirtual 91, 3) := by decide +kernel
theorem dX2_move_11 : decode cX2_move 11 = .ok (.aload_n 0, 1) := by decide +kernel
theorem dX2_move_12 : decode cX2_move 12 = .ok (.iload_n 3, 1) := by decide +kernel
theorem dX2_move_13 : decode cX2_move 13 = .ok (.iload_n 2, 1) := by decide +kernel
theorem dX2_move_14 : decode cX2_move 14 = .ok (.invokevirtual 95, 3) := by decide +kernel
theorem dX2_move_17 : decode cX2_move 17 = .ok (.return_, 1) := by decide +kernel
theorem dX2_fuse_0 : decode cX2_fuse 0 = .ok (.aload_n 0, 1) := by decide +kernel
theorem dX2_fuse_1 : decode cX2_fuse 1 = .ok (.iload_n 1, 1) := by decide +kernel
theorem dX2_fuse_2 : decode cX2_fuse 2 = .ok (.invokevirtual 62, 3) := by decide +kernel
theorem dX2_fuse_5 : decode cX2_fuse 5 = .ok (.iload_n 2, 1) := by decide +kernel
theorem dX2_fuse_6 : decode cX2_fuse 6 = .ok (.if_icmp .ne 16, 3) := by decide +kernel
theorem dX2_fuse_9 : decode cX2_fuse 9 = .ok (.aload_n 0, 1) := by decide +kernel
theorem dX2_fuse_10 : decode cX2_fuse 10 = .ok (.dup, 1) := by decide +kernel
theorem dX2_fuse_11 : decode cX2_fuse 11 = .ok (.getfield 40, 3) := by decide +kernel
theorem dX2_fuse_14 : decode cX2_fuse 14 = .ok (.iconst 1, 1) := by decide +kernel
theorem dX2_fuse_15 : decode cX2_fuse 15 = .ok (.iadd, 1) := by decide +kernel
theorem dX2_fuse_16 : decode cX2_fuse 16 = .ok (.putfield 40, 3) := by decide +kernel
theorem dX2_fuse_19 : decode cX2_fuse 19 = .ok (.goto 17, 3) := by decide +kernel
theorem dX2_fuse_22 : decode cX2_fuse 22 = .ok (.aload_n 0, 1) := by decide +kernel
theorem dX2_fuse_23 : decode cX2_fuse 23 = .ok (.aload_n 0, 1) := by decide +kernel
theorem dX2_fuse_24 : decode cX2_fuse 24 = .ok (.iload_n 1, 1) := by decide +kernel
theorem dX2_fuse_25 : decode cX2_fuse 25 = .ok (.invokevirtual 62, 3) := by decide +kernel
theorem dX2_fuse_28 : decode cX2_fuse 28 = .ok (.aload_n 0, 1) := by decide +kernel
theorem dX2_fuse_29 : decode cX2_fuse 29 = .ok (.iload_n 2, 1) := by decide +kernel
theorem dX2_fuse_30 : decode cX2_fuse 30 = .ok (.invokevirtual 62, 3) := by decide +kernel
theorem dX2_fuse_33 : decode cX2_fuse 33 = .ok (.invokevirtual 95, 3) := by decide +kernel
theorem dX2_fuse_36 : decode cX2_fuse 36 = .ok (.aload_n 0, 1) := by decide +kernel
theorem dX2_fuse_37 : decode cX2_fuse 37 = .ok (.iload_n 1, 1) := by decide +kernel
theorem dX2_fuse_38 : decode cX2_fuse 38 = .ok (.invokevirtual 91, 3) := by decide +kernel
theorem dX2_fuse_41 : decode cX2_fuse 41 = .ok (.aload_n 0, 1) := by decide +kernel
theorem dX2_fuse_42 : decode cX2_fuse 42 = .ok (.iload_n 2, 1) := by decide +kernel
theorem dX2_fuse_43 : decode cX2_fuse 43 = .ok (.invokevirtual 91, 3) := by decide +kernel
theorem dX2_fuse_46 : decode cX2_fuse 46 = .ok (.return_, 1) := by decide +kernel
theorem dX2_swapSides_0 : decode cX2_swapSides 0 = .ok (.iload_n 1, 1) := by decide +kernel
theorem dX2_swapSides_1 : decode cX2_swapSides 1 = .ok (.iconst 1, 1) := by decide +kernel
theorem dX2_swapSides_2 : decode cX2_swapSides 2 = .ok (.invokestatic 75, 3) := by decide +kernel
theorem dX2_swapSides_5 : decode cX2_swapSides 5 = .ok (.istore_n 2, 1) := by decide +kernel
theorem dX2_swapSides_6 : decode cX2_swapSides 6 = .ok (.iload_n 1, 1) := by decide +kernel
theorem dX2_swapSides_7 : decode cX2_swapSides 7 = .ok (.iconst 2, 1) := by decide +kernel
theorem dX2_swapSides_8 : decode cX2_swapSides 8 = .ok (.invokestatic 75, 3) := by decide +kernel
theorem dX2_swapSides_11 : decode cX2_swapSides 11 = .ok (.istore_n 3, 1) := by decide +kernel
theorem dX2_swapSides_12 : decode cX2_swapSides 12 = .ok (.aload_n 0, 1) := by decide +kernel
theorem dX2_swapSides_13 : decode cX2_swapSides 13 = .ok (.iload_n 2, 1) := by decide +kernel
theorem dX2_swapSides_14 : decode cX2_swapSides 14 = .ok (.invokevirtual 62, 3) := by decide +kernel
theorem dX2_swapSides_17 : decode cX2_swapSides 17 = .ok (.istore 4, 2) := by decide +kernel
theorem dX2_swapSides_19 : decode cX2_swapSides 19 = .ok (.aload_n 0, 1) := by decide +kernel
theorem dX2_swapSides_20 : decode cX2_swapSides 20 = .ok (.iload_n 3, 1) := by decide +kernel
theorem dX2_swapSides_21 : decode cX2_swapSides 21 = .ok (.invokevirtual 62, 3) := by decide +kernel
theorem dX2_swapSides_24 : decode cX2_swapSides 24 = .ok (.istore 5, 2) := by decide +kernel
theorem dX2_swapSides_26 : decode cX2_swapSides 26 = .ok (.iload 4, 2) := by decide +kernel
theorem dX2_swapSides_28 : decode cX2_swapSides 28 = .ok (.iload_n 3, 1) := by decide +kernel
theorem dX2_swapSides_29 : decode cX2_swapSides 29 = .ok (.if_icmp .eq 17, 3) := by decide +kernel
theorem dX2_swapSides_32 : decode cX2_swapSides 32 = .ok (.aload_n 0, 1) := by decide +kernel
theorem dX2_swapSides_33 : decode cX2_swapSides 33 = .ok (.iload_n 2, 1) := by decide +kernel
theorem dX2_swapSides_34 : decode cX2_swapSides 34 = .ok (.iload 5, 2) := by decide +kernel
theorem dX2_swapSides_36 : decode cX2_swapSides 36 = .ok (.invokevirtual 95, 3) := by decide +kernel
theorem dX2_swapSides_39 : decode cX2_swapSides 39 = .ok (.aload_n 0, 1) := by decide +kernel
theorem dX2_swapSides_40 : decode cX2_swapSides 40 = .ok (.iload_n 3, 1) := by decide +kernel
theorem dX2_swapSides_41 : decode cX2_swapSides 41 = .ok (.iload 4, 2) := by decide +kernel
theorem dX2_swapSides_43 : decode cX2_swapSides 43 = .ok (.invokevirtual 95, 3) := by decide +kernel
theorem dX2_swapSides_46 : decode cX2_swapSides 46 = .ok (.return_, 1) := by decide +kernel
theorem dX2_sortOf_0 : decode cX2_sortOf 0 = .ok (.iload_n 0, 1) := by decide +kernel
theorem dX2_sortOf_1 : decode cX2_sortOf 1 = .ok (.iload_n 1, 1) := by decide +kernel
theorem dX2_sortOf_2 : decode cX2_sortOf 2 = .ok (.if_icmp .ne 5, 3) := by decide +kernel
theorem dX2_sortOf_5 : decode cX2_sortOf 5 = .ok (.iconst 1, 1) := by decide +kernel
theorem dX2_sortOf_6 : decode cX2_sortOf 6 = .ok (.ireturn, 1) := by decide +kernel
theorem dX2_sortOf_7 : decode cX2_sortOf 7 = .ok (.iload_n 0, 1) := by decide +kernel
theorem dX2_sortOf_8 : decode cX2_sortOf 8 = .ok (.ifCond .eq 7, 3) := by decide +kernel
theorem dX2_sortOf_11 : decode cX2_sortOf 11 = .ok (.iload_n 1, 1) := by decide +kernel
theorem dX2_sortOf_12 : decode cX2_sortOf 12 = .ok (.ifCond .ne 7, 3) := by decide +kernel
theorem dX2_sortOf_15 : decode cX2_sortOf 15 = .ok (.iconst 3, 1) := by decide +kernel
theorem dX2_sortOf_16 : decode cX2_sortOf 16 = .ok (.goto 4, 3) := by decide +kernel
theorem dX2_sortOf_19 : decode cX2_sortOf 19 = .ok (.iconst 2, 1) := by decide +kernel
theorem dX2_sortOf_20 : decode cX2_sortOf 20 = .ok (.ireturn, 1) := by decide +kernel
theorem dX2_perform_0 : decode cX2_perform 0 = .ok (.aload_n 0, 1) := by decide +kernel
theorem dX2_perform_1 : decode cX2_perform 1 = .ok (.iload_n 1, 1) := by decide +kernel
theorem dX2_perform_2 : decode cX2_perform 2 = .ok (.invokevirtual 98, 3) := by decide +kernel
theorem dX2_perform_5 : decode cX2_perform 5 = .ok (.istore_n 2, 1) := by decide +kernel
theorem dX2_perform_6 : decode cX2_perform 6 = .ok (.iload_n 2, 1) := by decide +kernel
theorem dX2_perform_7 : decode cX2_perform 7 = .ok (.iconst (-1), 1) := by decide +kernel
theorem dX2_perform_8 : decode cX2_perform 8 = .ok (.if_icmp .ne 5, 3) := by decide +kernel
theorem dX2_perform_11 : decode cX2_perform 11 = .ok (.iconst (-1), 1) := by decide +kernel
theorem dX2_perform_12 : decode cX2_perform 12 = .ok (.ireturn, 1) := by decide +kernel
theorem dX2_perform_13 : decode cX2_perform 13 = .ok (.aload_n 0, 1) := by decide +kernel
theorem dX2_perform_14 : decode cX2_perform 14 = .ok (.iload_n 1, 1) := by decide +kernel
theorem dX2_perform_15 : decode cX2_perform 15 = .ok (.invokevirtual 58, 3) := by decide +kernel
theorem dX2_perform_18 : decode cX2_perform 18 = .ok (.istore_n 3, 1) := by decide +kernel
theorem dX2_perform_19 : decode cX2_perform 19 = .ok (.aload_n 0, 1) := by decide +kernel
theorem dX2_perform_20 : decode cX2_perform 20 = .ok (.iload_n 2, 1) := by decide +kernel
theorem dX2_perform_21 : decode cX2_perform 21 = .ok (.invokevirtual 58, 3) := by decide +kernel
theorem dX2_perform_24 : decode cX2_perform 24 = .ok (.istore 4, 2) := by decide +kernel
theorem dX2_perform_26 : decode cX2_perform 26 = .ok (.iload_n 3, 1) := by decide +kernel
theorem dX2_perform_27 : decode cX2_perform 27 = .ok (.iload 4, 2) := by decide +kernel
theorem dX2_perform_29 : decode cX2_perform 29 = .ok (.invokestatic 101, 3) := by decide +kernel
theorem dX2_perform_32 : decode cX2_perform 32 = .ok (.istore 5, 2) := by decide +kernel
theorem dX2_perform_34 : decode cX2_perform 34 = .ok (.aload_n 0, 1) := by decide +kernel
theorem dX2_perform_35 : decode cX2_perform 35 = .ok (.iload_n 1, 1) := by decide +kernel
theorem dX2_perform_36 : decode cX2_perform 36 = .ok (.iconst 0, 1) := by decide +kernel
theorem dX2_perform_37 : decode cX2_perform 37 = .ok (.invokestatic 75, 3) := by decide +kernel
theorem dX2_perform_40 : decode cX2_perform 40 = .ok (.invokevirtual 91, 3) := by decide +kernel
theorem dX2_perform_43 : decode cX2_perform 43 = .ok (.aload_n 0, 1) := by decide +kernel
theorem dX2_perform_44 : decode cX2_perform 44 = .ok (.iload_n 2, 1) := by decide +kernel
theorem dX2_perform_45 : decode cX2_perform 45 = .ok (.iconst 0, 1) := by decide +kernel
theorem dX2_perform_46 : decode cX2_perform 46 = .ok (.invokestatic 75, 3) := by decide +kernel
theorem dX2_perform_49 : decode cX2_perform 49 = .ok (.invokevirtual 91, 3) := by decide +kernel
theorem dX2_perform_52 : decode cX2_perform 52 = .ok (.aload_n 0, 1) := by decide +kernel
theorem dX2_perform_53 : decode cX2_perform 53 = .ok (.iload_n 1, 1) := by decide +kernel
theorem dX2_perform_54 : decode cX2_perform 54 = .ok (.invokevirtual 104, 3) := by decide +kernel
theorem dX2_perform_57 : decode cX2_perform 57 = .ok (.aload_n 0, 1) := by decide +kernel
theorem dX2_perform_58 : decode cX2_perform 58 = .ok (.iload_n 2, 1) := by decide +kernel
theorem dX2_perform_59 : decode cX2_perform 59 = .ok (.invokevirtual 104, 3) := by decide +kernel
theorem dX2_perform_62 : decode cX2_perform 62 = .ok (.iload 5, 2) := by decide +kernel
theorem dX2_perform_64 : decode cX2_perform 64 = .ok (.iconst 2, 1) := by decide +kernel
theorem dX2_perform_65 : decode cX2_perform 65 = .ok (.if_icmp .ne 15, 3) := by decide +kernel
theorem dX2_perform_68 : decode cX2_perform 68 = .ok (.aload_n 0, 1) := by decide +kernel
theorem dX2_perform_69 : decode cX2_perform 69 = .ok (.iload_n 1, 1) := by decide +kernel
theorem dX2_perform_70 : decode cX2_perform 70 = .ok (.iload_n 3, 1) := by decide +kernel
theorem dX2_perform_71 : decode cX2_perform 71 = .ok (.iload_n 2, 1) := by decide +kernel
theorem dX2_perform_72 : decode cX2_perform 72 = .ok (.iload 4, 2) := by decide +kernel
theorem dX2_perform_74 : decode cX2_perform 74 = .ok (.invokevirtual 107, 3) := by decide +kernel
theorem dX2_perform_77 : decode cX2_perform 77 = .ok (.goto 45, 3) := by decide +kernel
theorem dX2_perform_80 : decode cX2_perform 80 = .ok (.iload 5, 2) := by decide +kernel
theorem dX2_perform_82 : decode cX2_perform 82 = .ok (.iconst 3, 1) := by decide +kernel
theorem dX2_perform_83 : decode cX2_perform 83 = .ok (.if_icmp .ne 19, 3) := by decide +kernel
theorem dX2_perform_86 : decode cX2_perform 86 = .ok (.aload_n 0, 1) := by decide +kernel
theorem dX2_perform_87 : decode cX2_perform 87 = .ok (.iload_n 3, 1) := by decide +kernel
theorem dX2_perform_88 : decode cX2_perform 88 = .ok (.ifCond .ne 7, 3) := by decide +kernel
theorem dX2_perform_91 : decode cX2_perform 91 = .ok (.iload_n 2, 1) := by decide +kernel
theorem dX2_perform_92 : decode cX2_perform 92 = .ok (.goto 4, 3) := by decide +kernel
theorem dX2_perform_95 : decode cX2_perform 95 = .ok (.iload_n 1, 1) := by decide +kernel
theorem dX2_perform_96 : decode cX2_perform 96 = .ok (.invokevirtual 111, 3) := by decide +kernel
theorem dX2_perform_99 : decode cX2_perform 99 = .ok (.goto 23, 3) := by decide +kernel
theorem dX2_perform_102 : decode cX2_perform 102 = .ok (.iload_n 3, 1) := by decide +kernel
theorem dX2_perform_103 : decode cX2_perform 103 = .ok (.ifCond .eq 19, 3) := by decide +kernel
theorem dX2_perform_106 : decode cX2_perform 106 = .ok (.aload_n 0, 1) := by decide +kernel
theorem dX2_perform_107 : decode cX2_perform 107 = .ok (.iload_n 1, 1) := by decide +kernel
theorem dX2_perform_108 : decode cX2_perform 108 = .ok (.iload_n 2, 1) := by decide +kernel
theorem dX2_perform_109 : decode cX2_perform 109 = .ok (.iload_n 3, 1) := by decide +kernel
theorem dX2_perform_110 : decode cX2_perform 110 = .ok (.iconst 1, 1) := by decide +kernel
theorem dX2_perform_111 : decode cX2_perform 111 = .ok (.if_icmp .ne 7, 3) := by decide +kernel
theorem dX2_perform_114 : decode cX2_perform 114 = .ok (.iconst 1, 1) := by decide +kernel
theorem dX2_perform_115 : decode cX2_perform 115 = .ok (.goto 4, 3) := by decide +kernel
theorem dX2_perform_118 : decode cX2_perform 118 = .ok (.iconst 0, 1) := by decide +kernel
theorem dX2_perform_119 : decode cX2_perform 119 = .ok (.invokevirtual 114, 3) := by decide +kernel
theorem dX2_perform_122 : decode cX2_perform 122 = .ok (.iload 5, 2) := by decide +kernel
theorem dX2_perform_124 : decode cX2_perform 124 = .ok (.ifCond .le 34, 3) := by decide +kernel
theorem dX2_perform_127 : decode cX2_perform 127 = .ok (.iload 5, 2) := by decide +kernel
theorem dX2_perform_129 : decode cX2_perform 129 = .ok (.aload_n 0, 1) := by decide +kernel
theorem dX2_perform_130 : decode cX2_perform 130 = .ok (.getfield 9, 3) := by decide +kernel
theorem dX2_perform_133 : decode cX2_perform 133 = .ok (.arraylength, 1) := by decide +kernel
theorem dX2_perform_134 : decode cX2_perform 134 = .ok (.if_icmp .ge 24, 3) := by decide +kernel
theorem dX2_perform_137 : decode cX2_perform 137 = .ok (.aload_n 0, 1) := by decide +kernel
theorem dX2_perform_138 : decode cX2_perform 138 = .ok (.getfield 9, 3) := by decide +kernel
theorem dX2_perform_141 : decode cX2_perform 141 = .ok (.iload 5, 2) := by decide +kernel
theorem dX2_perform_143 : decode cX2_perform 143 = .ok (.dup2, 1) := by decide +kernel
theorem dX2_perform_144 : decode cX2_perform 144 = .ok (.iaload, 1) := by decide +kernel
theorem dX2_perform_145 : decode cX2_perform 145 = .ok (.iconst 1, 1) := by decide +kernel
theorem dX2_perform_146 : decode cX2_perform 146 = .ok (.iadd, 1) := by decide +kernel
theorem dX2_perform_147 : decode cX2_perform 147 = .ok (.iastore, 1) := by decide +kernel
theorem dX2_perform_148 : decode cX2_perform 148 = .ok (.aload_n 0, 1) := by decide +kernel
theorem dX2_perform_149 : decode cX2_perform 149 = .ok (.getfield 9, 3) := by decide +kernel
theorem dX2_perform_152 : decode cX2_perform 152 = .ok (.iconst 0, 1) := by decide +kernel
theorem dX2_perform_153 : decode cX2_perform 153 = .ok (.dup2, 1) := by decide +kernel
theorem dX2_perform_154 : decode cX2_perform 154 = .ok (.iaload, 1) := by decide +kernel
theorem dX2_perform_155 : decode cX2_perform 155 = .ok (.iconst 1, 1) := by decide +kernel
theorem dX2_perform_156 : decode cX2_perform 156 = .ok (.iadd, 1) := by decide +kernel
theorem dX2_perform_157 : decode cX2_perform 157 = .ok (.iastore, 1) := by decide +kernel
theorem dX2_perform_158 : decode cX2_perform 158 = .ok (.iload 5, 2) := by decide +kernel
theorem dX2_perform_160 : decode cX2_perform 160 = .ok (.ireturn, 1) := by decide +kernel
theorem dX2_vanish_0 : decode cX2_vanish 0 = .ok (.aload_n 0, 1) := by decide +kernel
theorem dX2_vanish_1 : decode cX2_vanish 1 = .ok (.iload_n 1, 1) := by decide +kernel
theorem dX2_vanish_2 : decode cX2_vanish 2 = .ok (.iconst 1, 1) := by decide +kernel
theorem dX2_vanish_3 : decode cX2_vanish 3 = .ok (.invokestatic 75, 3) := by decide +kernel
theorem dX2_vanish_6 : decode cX2_vanish 6 = .ok (.iload_n 2, 1) := by decide +kernel
theorem dX2_vanish_7 : decode cX2_vanish 7 = .ok (.iload_n 3, 1) := by decide +kernel
theorem dX2_vanish_8 : decode cX2_vanish 8 = .ok (.ifCond .eq 7, 3) := by decide +kernel
theorem dX2_vanish_11 : decode cX2_vanish 11 = .ok (.iconst 2, 1) := by decide +kernel
theorem dX2_vanish_12 : decode cX2_vanish 12 = .ok (.goto 4, 3) := by decide +kernel
theorem dX2_vanish_15 : decode cX2_vanish 15 = .ok (.iconst 1, 1) := by decide +kernel
theorem dX2_vanish_16 : decode cX2_vanish 16 = .ok (.invokestatic 75, 3) := by decide +kernel
theorem dX2_vanish_19 : decode cX2_vanish 19 = .ok (.invokevirtual 118, 3) := by decide +kernel
theorem dX2_vanish_22 : decode cX2_vanish 22 = .ok (.aload_n 0, 1) := by decide +kernel
theorem dX2_vanish_23 : decode cX2_vanish 23 = .ok (.iload_n 1, 1) := by decide +kernel
theorem dX2_vanish_24 : decode cX2_vanish 24 = .ok (.iconst 2, 1) := by decide +kernel
theorem dX2_vanish_25 : decode cX2_vanish 25 = .ok (.invokestatic 75, 3) := by decide +kernel
theorem dX2_vanish_28 : decode cX2_vanish 28 = .ok (.iload_n 2, 1) := by decide +kernel
theorem dX2_vanish_29 : decode cX2_vanish 29 = .ok (.iload_n 3, 1) := by decide +kernel
theorem dX2_vanish_30 : decode cX2_vanish 30 = .ok (.ifCond .eq 7, 3) := by decide +kernel
theorem dX2_vanish_33 : decode cX2_vanish 33 = .ok (.iconst 1, 1) := by decide +kernel
theorem dX2_vanish_34 : decode cX2_vanish 34 = .ok (.goto 4, 3) := by decide +kernel
theorem dX2_vanish_37 : decode cX2_vanish 37 = .ok (.iconst 2, 1) := by decide +kernel
theorem dX2_vanish_38 : decode cX2_vanish 38 = .ok (.invokestatic 75, 3) := by decide +kernel
theorem dX2_vanish_41 : decode cX2_vanish 41 = .ok (.invokevirtual 118, 3) := by decide +kernel
theorem dX2_vanish_44 : decode cX2_vanish 44 = .ok (.return_, 1) := by decide +kernel
theorem dX2_eat_0 : decode cX2_eat 0 = .ok (.aload_n 0, 1) := by decide +kernel
theorem dX2_eat_1 : decode cX2_eat 1 = .ok (.iconst 0, 1) := by decide +kernel
theorem dX2_eat_2 : decode cX2_eat 2 = .ok (.invokevirtual 121, 3) := by decide +kernel
theorem dX2_eat_5 : decode cX2_eat 5 = .ok (.istore_n 2, 1) := by decide +kernel
theorem dX2_eat_6 : decode cX2_eat 6 = .ok (.aload_n 0, 1) := by decide +kernel
theorem dX2_eat_7 : decode cX2_eat 7 = .ok (.iconst 0, 1) := by decide +kernel
theorem dX2_eat_8 : decode cX2_eat 8 = .ok (.invokevirtual 121, 3) := by decide +kernel
theorem dX2_eat_11 : decode cX2_eat 11 = .ok (.istore_n 3, 1) := by decide +kernel
theorem dX2_eat_12 : decode cX2_eat 12 = .ok (.aload_n 0, 1) := by decide +kernel
theorem dX2_eat_13 : decode cX2_eat 13 = .ok (.iload_n 1, 1) := by decide +kernel
theorem dX2_eat_14 : decode cX2_eat 14 = .ok (.iconst 1, 1) := by decide +kernel
theorem dX2_eat_15 : decode cX2_eat 15 = .ok (.invokestatic 75, 3) := by decide +kernel
theorem dX2_eat_18 : decode cX2_eat 18 = .ok (.iload_n 2, 1) := by decide +kernel
theorem dX2_eat_19 : decode cX2_eat 19 = .ok (.iconst 0, 1) := by decide +kernel
theorem dX2_eat_20 : decode cX2_eat 20 = .ok (.invokestatic 75, 3) := by decide +kernel
theorem dX2_eat_23 : decode cX2_eat 23 = .ok (.invokevirtual 124, 3) := by decide +kernel
theorem dX2_eat_26 : decode cX2_eat 26 = .ok (.aload_n 0, 1) := by decide +kernel
theorem dX2_eat_27 : decode cX2_eat 27 = .ok (.iload_n 1, 1) := by decide +kernel
theorem dX2_eat_28 : decode cX2_eat 28 = .ok (.iconst 2, 1) := by decide +kernel
theorem dX2_eat_29 : decode cX2_eat 29 = .ok (.invokestatic 75, 3) := by decide +kernel
theorem dX2_eat_32 : decode cX2_eat 32 = .ok (.iload_n 3, 1) := by decide +kernel
theorem dX2_eat_33 : decode cX2_eat 33 = .ok (.iconst 0, 1) := by decide +kernel
theorem dX2_eat_34 : decode cX2_eat 34 = .ok (.invokestatic 75, 3) := by decide +kernel
theorem dX2_eat_37 : decode cX2_eat 37 = .ok (.invokevirtual 124, 3) := by decide +kernel
theorem dX2_eat_40 : decode cX2_eat 40 = .ok (.return_, 1) := by decide +kernel
theorem dX2_copyEachOther_0 : decode cX2_copyEachOther 0 = .ok (.aload_n 0, 1) := by decide +kernel
theorem dX2_copyEachOther_1 : decode cX2_copyEachOther 1 = .ok (.iload_n 2, 1) := by decide +kernel
theorem dX2_copyEachOther_2 : decode cX2_copyEachOther 2 = .ok (.invokevirtual 121, 3) := by decide +kernel
theorem dX2_copyEachOther_5 : decode cX2_copyEachOther 5 = .ok (.istore 5, 2) := by decide +kernel
theorem dX2_copyEachOther_7 : decode cX2_copyEachOther 7 = .ok (.aload_n 0, 1) := by decide +kernel
theorem dX2_copyEachOther_8 : decode cX2_copyEachOther 8 = .ok (.iload_n 2, 1) := by decide +kernel
theorem dX2_copyEachOther_9 : decode cX2_copyEachOther 9 = .ok (.invokevirtual 121, 3) := by decide +kernel
theorem dX2_copyEachOther_12 : decode cX2_copyEachOther 12 = .ok (.istore 6, 2) := by decide +kernel
theorem dX2_copyEachOther_14 : decode cX2_copyEachOther 14 = .ok (.aload_n 0, 1) := by decide +kernel
theorem dX2_copyEachOther_15 : decode cX2_copyEachOther 15 = .ok (.iload 4, 2) := by decide +kernel
theorem dX2_copyEachOther_17 : decode cX2_copyEachOther 17 = .ok (.invokevirtual 121, 3) := by decide +kernel
theorem dX2_copyEachOther_20 : decode cX2_copyEachOther 20 = .ok (.istore 7, 2) := by decide +kernel
theorem dX2_copyEachOther_22 : decode cX2_copyEachOther 22 = .ok (.aload_n 0, 1) := by decide +kernel
theorem dX2_copyEachOther_23 : decode cX2_copyEachOther 23 = .ok (.iload 4, 2) := by decide +kernel
theorem dX2_copyEachOther_25 : decode cX2_copyEachOther 25 = .ok (.invokevirtual 121, 3) := by decide +kernel
theorem dX2_copyEachOther_28 : decode cX2_copyEachOther 28 = .ok (.istore 8, 2) := by decide +kernel
theorem dX2_copyEachOther_30 : decode cX2_copyEachOther 30 = .ok (.aload_n 0, 1) := by decide +kernel
theorem dX2_copyEachOther_31 : decode cX2_copyEachOther 31 = .ok (.iload_n 3, 1) := by decide +kernel
theorem dX2_copyEachOther_32 : decode cX2_copyEachOther 32 = .ok (.iconst 1, 1) := by decide +kernel
theorem dX2_copyEachOther_33 : decode cX2_copyEachOther 33 = .ok (.invokestatic 75, 3) := by decide +kernel
theorem dX2_copyEachOther_36 : decode cX2_copyEachOther 36 = .ok (.iload 5, 2) := by decide +kernel
theorem dX2_copyEachOther_38 : decode cX2_copyEachOther 38 = .ok (.iconst 0, 1) := by decide +kernel
theorem dX2_copyEachOther_39 : decode cX2_copyEachOther 39 = .ok (.invokestatic 75, 3) := by decide +kernel
theorem dX2_copyEachOther_42 : decode cX2_copyEachOther 42 = .ok (.invokevirtual 124, 3) := by decide +kernel
theorem dX2_copyEachOther_45 : decode cX2_copyEachOther 45 = .ok (.aload_n 0, 1) := by decide +kernel
theorem dX2_copyEachOther_46 : decode cX2_copyEachOther 46 = .ok (.iload_n 3, 1) := by decide +kernel
theorem dX2_copyEachOther_47 : decode cX2_copyEachOther 47 = .ok (.iconst 2, 1) := by decide +kernel
theorem dX2_copyEachOther_48 : decode cX2_copyEachOther 48 = .ok (.invokestatic 75, 3) := by decide +kernel
theorem dX2_copyEachOther_51 : decode cX2_copyEachOther 51 = .ok (.iload 6, 2) := by decide +kernel
theorem dX2_copyEachOther_53 : decode cX2_copyEachOther 53 = .ok (.iconst 0, 1) := by decide +kernel
theorem dX2_copyEachOther_54 : decode cX2_copyEachOther 54 = .ok (.invokestatic 75, 3) := by decide +kernel
theorem dX2_copyEachOther_57 : decode cX2_copyEachOther 57 = .ok (.invokevirtual 124, 3) := by decide +kernel
theorem dX2_copyEachOther_60 : decode cX2_copyEachOther 60 = .ok (.aload_n 0, 1) := by decide +kernel
theorem dX2_copyEachOther_61 : decode cX2_copyEachOther 61 = .ok (.iload_n 1, 1) := by decide +kernel
theorem dX2_copyEachOther_62 : decode cX2_copyEachOther 62 = .ok (.iconst 1, 1) := by decide +kernel
theorem dX2_copyEachOther_63 : decode cX2_copyEachOther 63 = .ok (.invokestatic 75, 3) := by decide +kernel
theorem dX2_copyEachOther_66 : decode cX2_copyEachOther 66 = .ok (.iload 7, 2) := by decide +kernel
theorem dX2_copyEachOther_68 : decode cX2_copyEachOther 68 = .ok (.iconst 0, 1) := by decide +kernel
theorem dX2_copyEachOther_69 : decode cX2_copyEachOther 69 = .ok (.invokestatic 75, 3) := by decide +kernel
theorem dX2_copyEachOther_72 : decode cX2_copyEachOther 72 = .ok (.invokevirtual 124, 3) := by decide +kernel
theorem dX2_copyEachOther_75 : decode cX2_copyEachOther 75 = .ok (.aload_n 0, 1) := by decide +kernel
theorem dX2_copyEachOther_76 : decode cX2_copyEachOther 76 = .ok (.iload_n 1, 1) := by decide +kernel
theorem dX2_copyEachOther_77 : decode cX2_copyEachOther 77 = .ok (.iconst 2, 1) := by decide +kernel
theorem dX2_copyEachOther_78 : decode cX2_copyEachOther 78 = .ok (.invokestatic 75, 3) := by decide +kernel
theorem dX2_copyEachOther_81 : decode cX2_copyEachOther 81 = .ok (.iload 8, 2) := by decide +kernel
theorem dX2_copyEachOther_83 : decode cX2_copyEachOther 83 = .ok (.iconst 0, 1) := by decide +kernel
theorem dX2_copyEachOther_84 : decode cX2_copyEachOther 84 = .ok (.invokestatic 75, 3) := by decide +kernel
theorem dX2_copyEachOther_87 : decode cX2_copyEachOther 87 = .ok (.invokevirtual 124, 3) := by decide +kernel
theorem dX2_copyEachOther_90 : decode cX2_copyEachOther 90 = .ok (.aload_n 0, 1) := by decide +kernel
theorem dX2_copyEachOther_91 : decode cX2_copyEachOther 91 = .ok (.iload 5, 2) := by decide +kernel
theorem dX2_copyEachOther_93 : decode cX2_copyEachOther 93 = .ok (.iconst 1, 1) := by decide +kernel
theorem dX2_copyEachOther_94 : decode cX2_copyEachOther 94 = .ok (.invokestatic 75, 3) := by decide +kernel
theorem dX2_copyEachOther_97 : decode cX2_copyEachOther 97 = .ok (.iload 7, 2) := by decide +kernel
theorem dX2_copyEachOther_99 : decode cX2_copyEachOther 99 = .ok (.iconst 1, 1) := by decide +kernel
theorem dX2_copyEachOther_100 : decode cX2_copyEachOther 100 = .ok (.invokestatic 75, 3) := by decide +kernel
theorem dX2_copyEachOther_103 : decode cX2_copyEachOther 103 = .ok (.invokevirtual 95, 3) := by decide +kernel
theorem dX2_copyEachOther_106 : decode cX2_copyEachOther 106 = .ok (.aload_n 0, 1) := by decide +kernel
theorem dX2_copyEachOther_107 : decode cX2_copyEachOther 107 = .ok (.iload 5, 2) := by decide +kernel
theorem dX2_copyEachOther_109 : decode cX2_copyEachOther 109 = .ok (.iconst 2, 1) := by decide +kernel
theorem dX2_copyEachOther_110 : decode cX2_copyEachOther 110 = .ok (.invokestatic 75, 3) := by decide +kernel
theorem dX2_copyEachOther_113 : decode cX2_copyEachOther 113 = .ok (.iload 8, 2) := by decide +kernel
theorem dX2_copyEachOther_115 : decode cX2_copyEachOther 115 = .ok (.iconst 1, 1) := by decide +kernel
theorem dX2_copyEachOther_116 : decode cX2_copyEachOther 116 = .ok (.invokestatic 75, 3) := by decide +kernel
theorem dX2_copyEachOther_119 : decode cX2_copyEachOther 119 = .ok (.invokevirtual 95, 3) := by decide +kernel
theorem dX2_copyEachOther_122 : decode cX2_copyEachOther 122 = .ok (.aload_n 0, 1) := by decide +kernel
theorem dX2_copyEachOther_123 : decode cX2_copyEachOther 123 = .ok (.iload 6, 2) := by decide +kernel
theorem dX2_copyEachOther_125 : decode cX2_copyEachOther 125 = .ok (.iconst 1, 1) := by decide +kernel
theorem dX2_copyEachOther_126 : decode cX2_copyEachOther 126 = .ok (.invokestatic 75, 3) := by decide +kernel
theorem dX2_copyEachOther_129 : decode cX2_copyEachOther 129 = .ok (.iload 7, 2) := by decide +kernel
theorem dX2_copyEachOther_131 : decode cX2_copyEachOther 131 = .ok (.iconst 2, 1) := by decide +kernel
theorem dX2_copyEachOther_132 : decode cX2_copyEachOther 132 = .ok (.invokestatic 75, 3) := by decide +kernel
theorem dX2_copyEachOther_135 : decode cX2_copyEachOther 135 = .ok (.invokevirtual 95, 3) := by decide +kernel
theorem dX2_copyEachOther_138 : decode cX2_copyEachOther 138 = .ok (.aload_n 0, 1) := by decide +kernel
theorem dX2_copyEachOther_139 : decode cX2_copyEachOther 139 = .ok (.iload 6, 2) := by decide +kernel
theorem dX2_copyEachOther_141 : decode cX2_copyEachOther 141 = .ok (.iconst 2, 1) := by decide +kernel
theorem dX2_copyEachOther_142 : decode cX2_copyEachOther 142 = .ok (.invokestatic 75, 3) := by decide +kernel
theorem dX2_copyEachOther_145 : decode cX2_copyEachOther 145 = .ok (.iload 8, 2) := by decide +kernel
theorem dX2_copyEachOther_147 : decode cX2_copyEachOther 147 = .ok (.iconst 2, 1) := by decide +kernel
theorem dX2_copyEachOther_148 : decode cX2_copyEachOther 148 = .ok (.invokestatic 75, 3) := by decide +kernel
theorem dX2_copyEachOther_151 : decode cX2_copyEachOther 151 = .ok (.invokevirtual 95, 3) := by decide +kernel
theorem dX2_copyEachOther_154 : decode cX2_copyEachOther 154 = .ok (.return_, 1) := by decide +kernel
theorem dX2_finish_0 : decode cX2_finish 0 = .ok (.aload_n 0, 1) := by decide +kernel
theorem dX2_finish_1 : decode cX2_finish 1 = .ok (.getfield 9, 3) := by decide +kernel
theorem dX2_finish_4 : decode cX2_finish 4 = .ok (.iconst 0, 1) := by decide +kernel
theorem dX2_finish_5 : decode cX2_finish 5 = .ok (.invokestatic 24, 3) := by decide +kernel
theorem dX2_finish_8 : decode cX2_finish 8 = .ok (.iconst 0, 1) := by decide +kernel
theorem dX2_finish_9 : decode cX2_finish 9 = .ok (.istore_n 1, 1) := by decide +kernel
theorem dX2_finish_10 : decode cX2_finish 10 = .ok (.iload_n 1, 1) := by decide +kernel
theorem dX2_finish_11 : decode cX2_finish 11 = .ok (.bipush 60, 2) := by decide +kernel
theorem dX2_finish_13 : decode cX2_finish 13 = .ok (.if_icmp .gt 63, 3) := by decide +kernel
theorem dX2_finish_16 : decode cX2_finish 16 = .ok (.aload_n 0, 1) := by decide +kernel
theorem dX2_finish_17 : decode cX2_finish 17 = .ok (.invokevirtual 127, 3) := by decide +kernel
theorem dX2_finish_20 : decode cX2_finish 20 = .ok (.istore_n 2, 1) := by decide +kernel
theorem dX2_finish_21 : decode cX2_finish 21 = .ok (.iload_n 2, 1) := by decide +kernel
theorem dX2_finish_22 : decode cX2_finish 22 = .ok (.ifCond .ne 10, 3) := by decide +kernel
theorem dX2_finish_25 : decode cX2_finish 25 = .ok (.aload_n 0, 1) := by decide +kernel
theorem dX2_finish_26 : decode cX2_finish 26 = .ok (.iload_n 1, 1) := by decide +kernel
theorem dX2_finish_27 : decode cX2_finish 27 = .ok (.putfield 55, 3) := by decide +kernel
theorem dX2_finish_30 : decode cX2_finish 30 = .ok (.iconst 1, 1) := by decide +kernel
theorem dX2_finish_31 : decode cX2_finish 31 = .ok (.ireturn, 1) := by decide +kernel
theorem dX2_finish_32 : decode cX2_finish 32 = .ok (.aload_n 0, 1) := by decide +kernel
theorem dX2_finish_33 : decode cX2_finish 33 = .ok (.getfield 9, 3) := by decide +kernel
theorem dX2_finish_36 : decode cX2_finish 36 = .ok (.iconst 0, 1) := by decide +kernel
theorem dX2_finish_37 : decode cX2_finish 37 = .ok (.iaload, 1) := by decide +kernel
theorem dX2_finish_38 : decode cX2_finish 38 = .ok (.iload_n 2, 1) := by decide +kernel
theorem dX2_finish_39 : decode cX2_finish 39 = .ok (.iadd, 1) := by decide +kernel
theorem dX2_finish_40 : decode cX2_finish 40 = .ok (.bipush 60, 2) := by decide +kernel
theorem dX2_finish_42 : decode cX2_finish 42 = .ok (.if_icmp .le 5, 3) := by decide +kernel
theorem dX2_finish_45 : decode cX2_finish 45 = .ok (.iconst 0, 1) := by decide +kernel
theorem dX2_finish_46 : decode cX2_finish 46 = .ok (.ireturn, 1) := by decide +kernel
theorem dX2_finish_47 : decode cX2_finish 47 = .ok (.iconst 0, 1) := by decide +kernel
theorem dX2_finish_48 : decode cX2_finish 48 = .ok (.istore_n 3, 1) := by decide +kernel
theorem dX2_finish_49 : decode cX2_finish 49 = .ok (.iload_n 3, 1) := by decide +kernel
theorem dX2_finish_50 : decode cX2_finish 50 = .ok (.iload_n 2, 1) := by decide +kernel
theorem dX2_finish_51 : decode cX2_finish 51 = .ok (.if_icmp .ge 19, 3) := by decide +kernel
theorem dX2_finish_54 : decode cX2_finish 54 = .ok (.aload_n 0, 1) := by decide +kernel
theorem dX2_finish_55 : decode cX2_finish 55 = .ok (.aload_n 0, 1) := by decide +kernel
theorem dX2_finish_56 : decode cX2_finish 56 = .ok (.iload_n 3, 1) := by decide +kernel
theorem dX2_finish_57 : decode cX2_finish 57 = .ok (.invokevirtual 131, 3) := by decide +kernel
theorem dX2_finish_60 : decode cX2_finish 60 = .ok (.invokevirtual 134, 3) := by decide +kernel
theorem dX2_finish_63 : decode cX2_finish 63 = .ok (.pop, 1) := by decide +kernel
theorem dX2_finish_64 : decode cX2_finish 64 = .ok (.iinc 3 1, 3) := by decide +kernel
theorem dX2_finish_67 : decode cX2_finish 67 = .ok (.goto (-18), 3) := by decide +kernel
theorem dX2_finish_70 : decode cX2_finish 70 = .ok (.iinc 1 1, 3) := by decide +kernel
theorem dX2_finish_73 : decode cX2_finish 73 = .ok (.goto (-63), 3) := by decide +kernel
theorem dX2_finish_76 : decode cX2_finish 76 = .ok (.iconst 0, 1) := by decide +kernel
theorem dX2_finish_77 : decode cX2_finish 77 = .ok (.ireturn, 1) := by decide +kernel
theorem dX3_init_0 : decode cX3_init 0 = .ok (.aload_n 0, 1) := by decide +kernel
theorem dX3_init_1 : decode cX3_init 1 = .ok (.invokespecial 3, 3) := by decide +kernel
theorem dX3_init_4 : decode cX3_init 4 = .ok (.aload_n 0, 1) := by decide +kernel
theorem dX3_init_5 : decode cX3_init 5 = .ok (.bipush 80, 2) := by decide +kernel
theorem dX3_init_7 : decode cX3_init 7 = .ok (.newarray .int, 2) := by decide +kernel
theorem dX3_init_9 : decode cX3_init 9 = .ok (.putfield 9, 3) := by decide +kernel
theorem dX3_init_12 : decode cX3_init 12 = .ok (.return_, 1) := by decide +kernel
theorem dX3_add_0 : decode cX3_add 0 = .ok (.aload_n 0, 1) := by decide +kernel
theorem dX3_add_1 : decode cX3_add 1 = .ok (.getfield 15, 3) := by decide +kernel
theorem dX3_add_4 : decode cX3_add 4 = .ok (.aload_n 0, 1) := by decide +kernel
theorem dX3_add_5 : decode cX3_add 5 = .ok (.getfield 9, 3) := by decide +kernel
theorem dX3_add_8 : decode cX3_add 8 = .ok (.arraylength, 1) := by decide +kernel
theorem dX3_add_9 : decode cX3_add 9 = .ok (.if_icmp .lt 5, 3) := by decide +kernel
theorem dX3_add_12 : decode cX3_add 12 = .ok (.iconst 0, 1) := by decide +kernel
theorem dX3_add_13 : decode cX3_add 13 = .ok (.ireturn, 1) := by decide +kernel
theorem dX3_add_14 : decode cX3_add 14 = .ok (.aload_n 0, 1) := by decide +kernel
theorem dX3_add_15 : decode cX3_add 15 = .ok (.getfield 9, 3) := by decide +kernel
theorem dX3_add_18 : decode cX3_add 18 = .ok (.aload_n 0, 1) := by decide +kernel
theorem dX3_add_19 : decode cX3_add 19 = .ok (.getfield 15, 3) := by decide +kernel
theorem dX3_add_22 : decode cX3_add 22 = .ok (.iload_n 1, 1) := by decide +kernel
theorem dX3_add_23 : decode cX3_add 23 = .ok (.iastore, 1) := by decide +kernel
theorem dX3_add_24 : decode cX3_add 24 = .ok (.aload_n 0, 1) := by decide +kernel
theorem dX3_add_25 : decode cX3_add 25 = .ok (.dup, 1) := by decide +kernel
theorem dX3_add_26 : decode cX3_add 26 = .ok (.getfield 15, 3) := by decide +kernel
theorem dX3_add_29 : decode cX3_add 29 = .ok (.iconst 1, 1) := by decide +kernel
theorem dX3_add_30 : decode cX3_add 30 = .ok (.iadd, 1) := by decide +kernel
theorem dX3_add_31 : decode cX3_add 31 = .ok (.putfield 15, 3) := by decide +kernel
theorem dX3_add_34 : decode cX3_add 34 = .ok (.iconst 1, 1) := by decide +kernel
theorem dX3_add_35 : decode cX3_add 35 = .ok (.ireturn, 1) := by decide +kernel
theorem dX3_clear_0 : decode cX3_clear 0 = .ok (.aload_n 0, 1) := by decide +kernel
theorem dX3_clear_1 : decode cX3_clear 1 = .ok (.getfield 15, 3) := by decide +kernel
theorem dX3_clear_4 : decode cX3_clear 4 = .ok (.istore_n 1, 1) := by decide +kernel
theorem dX3_clear_5 : decode cX3_clear 5 = .ok (.aload_n 0, 1) := by decide +kernel
theorem dX3_clear_6 : decode cX3_clear 6 = .ok (.iconst 0, 1) := by decide +kernel
theorem dX3_clear_7 : decode cX3_clear 7 = .ok (.putfield 15, 3) := by decide +kernel
theorem dX3_clear_10 : decode cX3_clear 10 = .ok (.iload_n 1, 1) := by decide +kernel
theorem dX3_clear_11 : decode cX3_clear 11 = .ok (.ireturn, 1) := by decide +kernel
theorem dX3_size_0 : decode cX3_size 0 = .ok (.aload_n 0, 1) := by decide +kernel
theorem dX3_size_1 : decode cX3_size 1 = .ok (.getfield 15, 3) := by decide +kernel
theorem dX3_size_4 : decode cX3_size 4 = .ok (.ireturn, 1) := by decide +kernel
theorem dX3_at_0 : decode cX3_at 0 = .ok (.iload_n 1, 1) := by decide +kernel
theorem dX3_at_1 : decode cX3_at 1 = .ok (.ifCond .lt 20, 3) := by decide +kernel
theorem dX3_at_4 : decode cX3_at 4 = .ok (.iload_n 1, 1) := by decide +kernel
theorem dX3_at_5 : decode cX3_at 5 = .ok (.aload_n 0, 1) := by decide +kernel
theorem dX3_at_6 : decode cX3_at 6 = .ok (.getfield 15, 3) := by decide +kernel
theorem dX3_at_9 : decode cX3_at 9 = .ok (.if_icmp .ge 12, 3) := by decide +kernel
theorem dX3_at_12 : decode cX3_at 12 = .ok (.aload_n 0, 1) := by decide +kernel
theorem dX3_at_13 : decode cX3_at 13 = .ok (.getfield 9, 3) := by decide +kernel
theorem dX3_at_16 : decode cX3_at 16 = .ok (.iload_n 1, 1) := by decide +kernel
theorem dX3_at_17 : decode cX3_at 17 = .ok (.iaload, 1) := by decide +kernel
theorem dX3_at_18 : decode cX3_at 18 = .ok (.goto 4, 3) := by decide +kernel
theorem dX3_at_21 : decode cX3_at 21 = .ok (.iconst (-1), 1) := by decide +kernel
theorem dX3_at_22 : decode cX3_at 22 = .ok (.ireturn, 1) := by decide +kernel
theorem dX3_hashedInto_0 : decode cX3_hashedInto 0 = .ok (.lload_n 1, 1) := by decide +kernel
theorem dX3_hashedInto_1 : decode cX3_hashedInto 1 = .ok (.lstore_n 3, 1) := by decide +kernel
theorem dX3_hashedInto_2 : decode cX3_hashedInto 2 = .ok (.iconst 0, 1) := by decide +kernel
theorem dX3_hashedInto_3 : decode cX3_hashedInto 3 = .ok (.istore 5, 2) := by decide +kernel
theorem dX3_hashedInto_5 : decode cX3_hashedInto 5 = .ok (.iload 5, 2) := by decide +kernel
theorem dX3_hashedInto_7 : decode cX3_hashedInto 7 = .ok (.aload_n 0, 1) := by decide +kernel
theorem dX3_hashedInto_8 : decode cX3_hashedInto 8 = .ok (.getfield 15, 3) := by decide +kernel
theorem dX3_hashedInto_11 : decode cX3_hashedInto 11 = .ok (.if_icmp .ge 23, 3) := by decide +kernel
theorem dX3_hashedInto_14 : decode cX3_hashedInto 14 = .ok (.ldc2_w 19, 3) := by decide +kernel
theorem dX3_hashedInto_17 : decode cX3_hashedInto 17 = .ok (.lload_n 3, 1) := by decide +kernel
theorem dX3_hashedInto_18 : decode cX3_hashedInto 18 = .ok (.lmul, 1) := by decide +kernel
theorem dX3_hashedInto_19 : decode cX3_hashedInto 19 = .ok (.aload_n 0, 1) := by decide +kernel
theorem dX3_hashedInto_20 : decode cX3_hashedInto 20 = .ok (.iload 5, 2) := by decide +kernel
theorem dX3_hashedInto_22 : decode cX3_hashedInto 22 = .ok (.invokevirtual 21, 3) := by decide +kernel
theorem dX3_hashedInto_25 : decode cX3_hashedInto 25 = .ok (.i2l, 1) := by decide +kernel
theorem dX3_hashedInto_26 : decode cX3_hashedInto 26 = .ok (.ladd, 1) := by decide +kernel
theorem dX3_hashedInto_27 : decode cX3_hashedInto 27 = .ok (.lstore_n 3, 1) := by decide +kernel
theorem dX3_hashedInto_28 : decode cX3_hashedInto 28 = .ok (.iinc 5 1, 3) := by decide +kernel
theorem dX3_hashedInto_31 : decode cX3_hashedInto 31 = .ok (.goto (-26), 3) := by decide +kernel
theorem dX3_hashedInto_34 : decode cX3_hashedInto 34 = .ok (.lload_n 3, 1) := by decide +kernel
theorem dX3_hashedInto_35 : decode cX3_hashedInto 35 = .ok (.lreturn, 1) := by decide +kernel
theorem dX4_init_0 : decode cX4_init 0 = .ok (.aload_n 0, 1) := by decide +kernel
theorem dX4_init_1 : decode cX4_init 1 = .ok (.invokespecial 3, 3) := by decide +kernel
theorem dX4_init_4 : decode cX4_init 4 = .ok (.aload_n 0, 1) := by decide +kernel
theorem dX4_init_5 : decode cX4_init 5 = .ok (.bipush 6, 2) := by decide +kernel
theorem dX4_init_7 : decode cX4_init 7 = .ok (.newarray .int, 2) := by decide +kernel
theorem dX4_init_9 : decode cX4_init 9 = .ok (.putfield 9, 3) := by decide +kernel
theorem dX4_init_12 : decode cX4_init 12 = .ok (.aload_n 0, 1) := by decide +kernel
theorem dX4_init_13 : decode cX4_init 13 = .ok (.bipush 6, 2) := by decide +kernel
theorem dX4_init_15 : decode cX4_init 15 = .ok (.newarray .int, 2) := by decide +kernel
theorem dX4_init_17 : decode cX4_init 17 = .ok (.putfield 15, 3) := by decide +kernel
theorem dX4_init_20 : decode cX4_init 20 = .ok (.aload_n 0, 1) := by decide +kernel
theorem dX4_init_21 : decode cX4_init 21 = .ok (.bipush 6, 2) := by decide +kernel
theorem dX4_init_23 : decode cX4_init 23 = .ok (.newarray .int, 2) := by decide +kernel
theorem dX4_init_25 : decode cX4_init 25 = .ok (.putfield 18, 3) := by decide +kernel
theorem dX4_init_28 : decode cX4_init 28 = .ok (.return_, 1) := by decide +kernel
theorem dX4_add_0 : decode cX4_add 0 = .ok (.aload_n 0, 1) := by decide +kernel
theorem dX4_add_1 : decode cX4_add 1 = .ok (.getfield 21, 3) := by decide +kernel
theorem dX4_add_4 : decode cX4_add 4 = .ok (.bipush 6, 2) := by decide +kernel
theorem dX4_add_6 : decode cX4_add 6 = .ok (.if_icmp .lt 5, 3) := by decide +kernel
theorem dX4_add_9 : decode cX4_add 9 = .ok (.iconst 0, 1) := by decide +kernel
theorem dX4_add_10 : decode cX4_add 10 = .ok (.ireturn, 1) := by decide +kernel
theorem dX4_add_11 : decode cX4_add 11 = .ok (.aload_n 0, 1) := by decide +kernel
theorem dX4_add_12 : decode cX4_add 12 = .ok (.getfield 9, 3) := by decide +kernel
theorem dX4_add_15 : decode cX4_add 15 = .ok (.aload_n 0, 1) := by decide +kernel
theorem dX4_add_16 : decode cX4_add 16 = .ok (.getfield 21, 3) := by decide +kernel
theorem dX4_add_19 : decode cX4_add 19 = .ok (.iload_n 1, 1) := by decide +kernel
theorem dX4_add_20 : decode cX4_add 20 = .ok (.iastore, 1) := by decide +kernel
theorem dX4_add_21 : decode cX4_add 21 = .ok (.aload_n 0, 1) := by decide +kernel
theorem dX4_add_22 : decode cX4_add 22 = .ok (.getfield 15, 3) := by decide +kernel
theorem dX4_add_25 : decode cX4_add 25 = .ok (.aload_n 0, 1) := by decide +kernel
theorem dX4_add_26 : decode cX4_add 26 = .ok (.getfield 21, 3) := by decide +kernel
theorem dX4_add_29 : decode cX4_add 29 = .ok (.iload_n 2, 1) := by decide +kernel
theorem dX4_add_30 : decode cX4_add 30 = .ok (.iastore, 1) := by decide +kernel
theorem dX4_add_31 : decode cX4_add 31 = .ok (.aload_n 0, 1) := by decide +kernel
theorem dX4_add_32 : decode cX4_add 32 = .ok (.getfield 18, 3) := by decide +kernel
theorem dX4_add_35 : decode cX4_add 35 = .ok (.aload_n 0, 1) := by decide +kernel
theorem dX4_add_36 : decode cX4_add 36 = .ok (.getfield 21, 3) := by decide +kernel
theorem dX4_add_39 : decode cX4_add 39 = .ok (.iload_n 3, 1) := by decide +kernel
theorem dX4_add_40 : decode cX4_add 40 = .ok (.iastore, 1) := by decide +kernel
theorem dX4_add_41 : decode cX4_add 41 = .ok (.aload_n 0, 1) := by decide +kernel
theorem dX4_add_42 : decode cX4_add 42 = .ok (.dup, 1) := by decide +kernel
theorem dX4_add_43 : decode cX4_add 43 = .ok (.getfield 21, 3) := by decide +kernel
theorem dX4_add_46 : decode cX4_add 46 = .ok (.iconst 1, 1) := by decide +kernel
theorem dX4_add_47 : decode cX4_add 47 = .ok (.iadd, 1) := by decide +kernel
theorem dX4_add_48 : decode cX4_add 48 = .ok (.putfield 21, 3) := by decide +kernel
theorem dX4_add_51 : decode cX4_add 51 = .ok (.iconst 1, 1) := by decide +kernel
theorem dX4_add_52 : decode cX4_add 52 = .ok (.ireturn, 1) := by decide +kernel
theorem dX4_clear_0 : decode cX4_clear 0 = .ok (.aload_n 0, 1) := by decide +kernel
theorem dX4_clear_1 : decode cX4_clear 1 = .ok (.getfield 21, 3) := by decide +kernel
theorem dX4_clear_4 : decode cX4_clear 4 = .ok (.istore_n 1, 1) := by decide +kernel
theorem dX4_clear_5 : decode cX4_clear 5 = .ok (.aload_n 0, 1) := by decide +kernel
theorem dX4_clear_6 : decode cX4_clear 6 = .ok (.iconst 0, 1) := by decide +kernel
theorem dX4_clear_7 : decode cX4_clear 7 = .ok (.putfield 21, 3) := by decide +kernel
theorem dX4_clear_10 : decode cX4_clear 10 = .ok (.iload_n 1, 1) := by decide +kernel
theorem dX4_clear_11 : decode cX4_clear 11 = .ok (.ireturn, 1) := by decide +kernel
theorem dX4_size_0 : decode cX4_size 0 = .ok (.aload_n 0, 1) := by decide +kernel
theorem dX4_size_1 : decode cX4_size 1 = .ok (.getfield 21, 3) := by decide +kernel
theorem dX4_size_4 : decode cX4_size 4 = .ok (.ireturn, 1) := by decide +kernel
theorem dX4_copyFrom_0 : decode cX4_copyFrom 0 = .ok (.aload_n 1, 1) := by decide +kernel
theorem dX4_copyFrom_1 : decode cX4_copyFrom 1 = .ok (.getfield 9, 3) := by decide +kernel
theorem dX4_copyFrom_4 : decode cX4_copyFrom 4 = .ok (.iconst 0, 1) := by decide +kernel
theorem dX4_copyFrom_5 : decode cX4_copyFrom 5 = .ok (.aload_n 0, 1) := by decide +kernel
theorem dX4_copyFrom_6 : decode cX4_copyFrom 6 = .ok (.getfield 9, 3) := by decide +kernel
theorem dX4_copyFrom_9 : decode cX4_copyFrom 9 = .ok (.iconst 0, 1) := by decide +kernel
theorem dX4_copyFrom_10 : decode cX4_copyFrom 10 = .ok (.bipush 6, 2) := by decide +kernel
theorem dX4_copyFrom_12 : decode cX4_copyFrom 12 = .ok (.invokestatic 25, 3) := by decide +kernel
theorem dX4_copyFrom_15 : decode cX4_copyFrom 15 = .ok (.aload_n 1, 1) := by decide +kernel
theorem dX4_copyFrom_16 : decode cX4_copyFrom 16 = .ok (.getfield 15, 3) := by decide +kernel
theorem dX4_copyFrom_19 : decode cX4_copyFrom 19 = .ok (.iconst 0, 1) := by decide +kernel
theorem dX4_copyFrom_20 : decode cX4_copyFrom 20 = .ok (.aload_n 0, 1) := by decide +kernel
theorem dX4_copyFrom_21 : decode cX4_copyFrom 21 = .ok (.getfield 15, 3) := by decide +kernel
theorem dX4_copyFrom_24 : decode cX4_copyFrom 24 = .ok (.iconst 0, 1) := by decide +kernel
theorem dX4_copyFrom_25 : decode cX4_copyFrom 25 = .ok (.bipush 6, 2) := by decide +kernel
theorem dX4_copyFrom_27 : decode cX4_copyFrom 27 = .ok (.invokestatic 25, 3) := by decide +kernel
theorem dX4_copyFrom_30 : decode cX4_copyFrom 30 = .ok (.aload_n 1, 1) := by decide +kernel
theorem dX4_copyFrom_31 : decode cX4_copyFrom 31 = .ok (.getfield 18, 3) := by decide +kernel
theorem dX4_copyFrom_34 : decode cX4_copyFrom 34 = .ok (.iconst 0, 1) := by decide +kernel
theorem dX4_copyFrom_35 : decode cX4_copyFrom 35 = .ok (.aload_n 0, 1) := by decide +kernel
theorem dX4_copyFrom_36 : decode cX4_copyFrom 36 = .ok (.getfield 18, 3) := by decide +kernel
theorem dX4_copyFrom_39 : decode cX4_copyFrom 39 = .ok (.iconst 0, 1) := by decide +kernel
theorem dX4_copyFrom_40 : decode cX4_copyFrom 40 = .ok (.bipush 6, 2) := by decide +kernel
theorem dX4_copyFrom_42 : decode cX4_copyFrom 42 = .ok (.invokestatic 25, 3) := by decide +kernel
theorem dX4_copyFrom_45 : decode cX4_copyFrom 45 = .ok (.aload_n 0, 1) := by decide +kernel
theorem dX4_copyFrom_46 : decode cX4_copyFrom 46 = .ok (.aload_n 1, 1) := by decide +kernel
theorem dX4_copyFrom_47 : decode cX4_copyFrom 47 = .ok (.getfield 21, 3) := by decide +kernel
theorem dX4_copyFrom_50 : decode cX4_copyFrom 50 = .ok (.putfield 21, 3) := by decide +kernel
theorem dX4_copyFrom_53 : decode cX4_copyFrom 53 = .ok (.return_, 1) := by decide +kernel
theorem dX4_agree_0 : decode cX4_agree 0 = .ok (.iconst 0, 1) := by decide +kernel
theorem dX4_agree_1 : decode cX4_agree 1 = .ok (.istore 4, 2) := by decide +kernel
theorem dX4_agree_3 : decode cX4_agree 3 = .ok (.iload 4, 2) := by decide +kernel
theorem dX4_agree_5 : decode cX4_agree 5 = .ok (.aload_n 0, 1) := by decide +kernel
theorem dX4_agree_6 : decode cX4_agree 6 = .ok (.getfield 21, 3) := by decide +kernel
theorem dX4_agree_9 : decode cX4_agree 9 = .ok (.if_icmp .ge 51, 3) := by decide +kernel
theorem dX4_agree_12 : decode cX4_agree 12 = .ok (.iload 4, 2) := by decide +kernel
theorem dX4_agree_14 : decode cX4_agree 14 = .ok (.bipush 6, 2) := by decide +kernel
theorem dX4_agree_16 : decode cX4_agree 16 = .ok (.if_icmp .ge 44, 3) := by decide +kernel
theorem dX4_agree_19 : decode cX4_agree 19 = .ok (.aload_n 0, 1) := by decide +kernel
theorem dX4_agree_20 : decode cX4_agree 20 = .ok (.getfield 9, 3) := by decide +kernel
theorem dX4_agree_23 : decode cX4_agree 23 = .ok (.iload 4, 2) := by decide +kernel
theorem dX4_agree_25 : decode cX4_agree 25 = .ok (.iaload, 1) := by decide +kernel
theorem dX4_agree_26 : decode cX4_agree 26 = .ok (.iload_n 1, 1) := by decide +kernel
theorem dX4_agree_27 : decode cX4_agree 27 = .ok (.if_icmp .ne 27, 3) := by decide +kernel
theorem dX4_agree_30 : decode cX4_agree 30 = .ok (.aload_n 3, 1) := by decide +kernel
theorem dX4_agree_31 : decode cX4_agree 31 = .ok (.iload_n 2, 1) := by decide +kernel
theorem dX4_agree_32 : decode cX4_agree 32 = .ok (.aload_n 0, 1) := by decide +kernel
theorem dX4_agree_33 : decode cX4_agree 33 = .ok (.getfield 15, 3) := by decide +kernel
theorem dX4_agree_36 : decode cX4_agree 36 = .ok (.iload 4, 2) := by decide +kernel
theorem dX4_agree_38 : decode cX4_agree 38 = .ok (.iaload, 1) := by decide +kernel
theorem dX4_agree_39 : decode cX4_agree 39 = .ok (.invokevirtual 31, 3) := by decide +kernel
theorem dX4_agree_42 : decode cX4_agree 42 = .ok (.aload_n 0, 1) := by decide +kernel
theorem dX4_agree_43 : decode cX4_agree 43 = .ok (.getfield 18, 3) := by decide +kernel
theorem dX4_agree_46 : decode cX4_agree 46 = .ok (.iload 4, 2) := by decide +kernel
theorem dX4_agree_48 : decode cX4_agree 48 = .ok (.iaload, 1) := by decide +kernel
theorem dX4_agree_49 : decode cX4_agree 49 = .ok (.if_icmp .eq 5, 3) := by decide +kernel
theorem dX4_agree_52 : decode cX4_agree 52 = .ok (.iconst 0, 1) := by decide +kernel
theorem dX4_agree_53 : decode cX4_agree 53 = .ok (.ireturn, 1) := by decide +kernel
theorem dX4_agree_54 : decode cX4_agree 54 = .ok (.iinc 4 1, 3) := by decide +kernel
theorem dX4_agree_57 : decode cX4_agree 57 = .ok (.goto (-54), 3) := by decide +kernel
theorem dX4_agree_60 : decode cX4_agree 60 = .ok (.iconst 1, 1) := by decide +kernel
theorem dX4_agree_61 : decode cX4_agree 61 = .ok (.ireturn, 1) := by decide +kernel
theorem dX5_init_0 : decode cX5_init 0 = .ok (.aload_n 0, 1) := by decide +kernel
theorem dX5_init_1 : decode cX5_init 1 = .ok (.invokespecial 3, 3) := by decide +kernel
theorem dX5_init_4 : decode cX5_init 4 = .ok (.aload_n 0, 1) := by decide +kernel
theorem dX5_init_5 : decode cX5_init 5 = .ok (.sipush 556, 3) := by decide +kernel
theorem dX5_init_8 : decode cX5_init 8 = .ok (.newarray .int, 2) := by decide +kernel
theorem dX5_init_10 : decode cX5_init 10 = .ok (.putfield 9, 3) := by decide +kernel
theorem dX5_init_13 : decode cX5_init 13 = .ok (.aload_n 0, 1) := by decide +kernel
theorem dX5_init_14 : decode cX5_init 14 = .ok (.sipush 556, 3) := by decide +kernel
theorem dX5_init_17 : decode cX5_init 17 = .ok (.newarray .int, 2) := by decide +kernel
theorem dX5_init_19 : decode cX5_init 19 = .ok (.putfield 17, 3) := by decide +kernel
theorem dX5_init_22 : decode cX5_init 22 = .ok (.return_, 1) := by decide +kernel
theorem dX5_at_0 : decode cX5_at 0 = .ok (.iload_n 1, 1) := by decide +kernel
theorem dX5_at_1 : decode cX5_at 1 = .ok (.ifCond .lt 29, 3) := by decide +kernel
theorem dX5_at_4 : decode cX5_at 4 = .ok (.iload_n 1, 1) := by decide +kernel
theorem dX5_at_5 : decode cX5_at 5 = .ok (.aload_n 0, 1) := by decide +kernel
theorem dX5_at_6 : decode cX5_at 6 = .ok (.getfield 20, 3) := by decide +kernel
theorem dX5_at_9 : decode cX5_at 9 = .ok (.if_icmp .ge 21, 3) := by decide +kernel
theorem dX5_at_12 : decode cX5_at 12 = .ok (.iload_n 1, 1) := by decide +kernel
theorem dX5_at_13 : decode cX5_at 13 = .ok (.aload_n 0, 1) := by decide +kernel
theorem dX5_at_14 : decode cX5_at 14 = .ok (.getfield 9, 3) := by decide +kernel
theorem dX5_at_17 : decode cX5_at 17 = .ok (.arraylength, 1) := by decide +kernel
theorem dX5_at_18 : decode cX5_at 18 = .ok (.if_icmp .ge 12, 3) := by decide +kernel
theorem dX5_at_21 : decode cX5_at 21 = .ok (.aload_n 0, 1) := by decide +kernel
theorem dX5_at_22 : decode cX5_at 22 = .ok (.getfield 9, 3) := by decide +kernel
theorem dX5_at_25 : decode cX5_at 25 = .ok (.iload_n 1, 1) := by decide +kernel
theorem dX5_at_26 : decode cX5_at 26 = .ok (.iaload, 1) := by decide +kernel
theorem dX5_at_27 : decode cX5_at 27 = .ok (.goto 4, 3) := by decide +kernel
theorem dX5_at_30 : decode cX5_at 30 = .ok (.iconst (-1), 1) := by decide +kernel
theorem dX5_at_31 : decode cX5_at 31 = .ok (.ireturn, 1) := by decide +kernel
theorem dX5_areLike_0 : decode cX5_areLike 0 = .ok (.aload_n 0, 1) := by decide +kernel
theorem dX5_areLike_1 : decode cX5_areLike 1 = .ok (.getfield 20, 3) := by decide +kernel
theorem dX5_areLike_4 : decode cX5_areLike 4 = .ok (.aload_n 1, 1) := by decide +kernel
theorem dX5_areLike_5 : decode cX5_areLike 5 = .ok (.getfield 20, 3) := by decide +kernel
theorem dX5_areLike_8 : decode cX5_areLike 8 = .ok (.if_icmp .eq 5, 3) := by decide +kernel
theorem dX5_areLike_11 : decode cX5_areLike 11 = .ok (.iconst 0, 1) := by decide +kernel
theorem dX5_areLike_12 : decode cX5_areLike 12 = .ok (.ireturn, 1) := by decide +kernel
theorem dX5_areLike_13 : decode cX5_areLike 13 = .ok (.iconst 0, 1) := by decide +kernel
theorem dX5_areLike_14 : decode cX5_areLike 14 = .ok (.istore_n 2, 1) := by decide +kernel
theorem dX5_areLike_15 : decode cX5_areLike 15 = .ok (.iload_n 2, 1) := by decide +kernel
theorem dX5_areLike_16 : decode cX5_areLike 16 = .ok (.aload_n 0, 1) := by decide +kernel
theorem dX5_areLike_17 : decode cX5_areLike 17 = .ok (.getfield 20, 3) := by decide +kernel
theorem dX5_areLike_20 : decode cX5_areLike 20 = .ok (.if_icmp .ge 24, 3) := by decide +kernel
theorem dX5_areLike_23 : decode cX5_areLike 23 = .ok (.aload_n 0, 1) := by decide +kernel
theorem dX5_areLike_24 : decode cX5_areLike 24 = .ok (.iload_n 2, 1) := by decide +kernel
theorem dX5_areLike_25 : decode cX5_areLike 25 = .ok (.invokevirtual 24, 3) := by decide +kernel
theorem dX5_areLike_28 : decode cX5_areLike 28 = .ok (.aload_n 1, 1) := by decide +kernel
theorem dX5_areLike_29 : decode cX5_areLike 29 = .ok (.iload_n 2, 1) := by decide +kernel
theorem dX5_areLike_30 : decode cX5_areLike 30 = .ok (.invokevirtual 24, 3) := by decide +kernel
theorem dX5_areLike_33 : decode cX5_areLike 33 = .ok (.if_icmp .eq 5, 3) := by decide +kernel
theorem dX5_areLike_36 : decode cX5_areLike 36 = .ok (.iconst 0, 1) := by decide +kernel
theorem dX5_areLike_37 : decode cX5_areLike 37 = .ok (.ireturn, 1) := by decide +kernel
theorem dX5_areLike_38 : decode cX5_areLike 38 = .ok (.iinc 2 1, 3) := by decide +kernel
theorem dX5_areLike_41 : decode cX5_areLike 41 = .ok (.goto (-26), 3) := by decide +kernel
theorem dX5_areLike_44 : decode cX5_areLike 44 = .ok (.iconst 1, 1) := by decide +kernel
theorem dX5_areLike_45 : decode cX5_areLike 45 = .ok (.ireturn, 1) := by decide +kernel
theorem dX5_hashedInto_0 : decode cX5_hashedInto 0 = .ok (.lload_n 1, 1) := by decide +kernel
theorem dX5_hashedInto_1 : decode cX5_hashedInto 1 = .ok (.lstore_n 3, 1) := by decide +kernel
theorem dX5_hashedInto_2 : decode cX5_hashedInto 2 = .ok (.iconst 0, 1) := by decide +kernel
theorem dX5_hashedInto_3 : decode cX5_hashedInto 3 = .ok (.istore 5, 2) := by decide +kernel
theorem dX5_hashedInto_5 : decode cX5_hashedInto 5 = .ok (.iload 5, 2) := by decide +kernel
theorem dX5_hashedInto_7 : decode cX5_hashedInto 7 = .ok (.aload_n 0, 1) := by decide +kernel
theorem dX5_hashedInto_8 : decode cX5_hashedInto 8 = .ok (.getfield 20, 3) := by decide +kernel
theorem dX5_hashedInto_11 : decode cX5_hashedInto 11 = .ok (.if_icmp .ge 23, 3) := by decide +kernel
theorem dX5_hashedInto_14 : decode cX5_hashedInto 14 = .ok (.ldc2_w 28, 3) := by decide +kernel
theorem dX5_hashedInto_17 : decode cX5_hashedInto 17 = .ok (.lload_n 3, 1) := by decide +kernel
theorem dX5_hashedInto_18 : decode cX5_hashedInto 18 = .ok (.lmul, 1) := by decide +kernel
theorem dX5_hashedInto_19 : decode cX5_hashedInto 19 = .ok (.aload_n 0, 1) := by decide +kernel
theorem dX5_hashedInto_20 : decode cX5_hashedInto 20 = .ok (.iload 5, 2) := by decide +kernel
theorem dX5_hashedInto_22 : decode cX5_hashedInto 22 = .ok (.invokevirtual 24, 3) := by decide +kernel
theorem dX5_hashedInto_25 : decode cX5_hashedInto 25 = .ok (.i2l, 1) := by decide +kernel
theorem dX5_hashedInto_26 : decode cX5_hashedInto 26 = .ok (.ladd, 1) := by decide +kernel
theorem dX5_hashedInto_27 : decode cX5_hashedInto 27 = .ok (.lstore_n 3, 1) := by decide +kernel
theorem dX5_hashedInto_28 : decode cX5_hashedInto 28 = .ok (.iinc 5 1, 3) := by decide +kernel
theorem dX5_hashedInto_31 : decode cX5_hashedInto 31 = .ok (.goto (-26), 3) := by decide +kernel
theorem dX5_hashedInto_34 : decode cX5_hashedInto 34 = .ok (.lload_n 3, 1) := by decide +kernel
theorem dX5_hashedInto_35 : decode cX5_hashedInto 35 = .ok (.lreturn, 1) := by decide +kernel
theorem dX5_tellAll_0 : decode cX5_tellAll 0 = .ok (.aload_n 0, 1) := by decide +kernel
theorem dX5_tellAll_1 : decode cX5_tellAll 1 = .ok (.getfield 17, 3) := by decide +kernel
theorem dX5_tellAll_4 : decode cX5_tellAll 4 = .ok (.iconst (-1), 1) := by decide +kernel
theorem dX5_tellAll_5 : decode cX5_tellAll 5 = .ok (.invokestatic 30, 3) := by decide +kernel
theorem dX5_tellAll_8 : decode cX5_tellAll 8 = .ok (.aload_n 0, 1) := by decide +kernel
theorem dX5_tellAll_9 : decode cX5_tellAll 9 = .ok (.iconst 0, 1) := by decide +kernel
theorem dX5_tellAll_10 : decode cX5_tellAll 10 = .ok (.putfield 20, 3) := by decide +kernel
theorem dX5_tellAll_13 : decode cX5_tellAll 13 = .ok (.aload_n 0, 1) := by decide +kernel
theorem dX5_tellAll_14 : decode cX5_tellAll 14 = .ok (.bipush 97, 2) := by decide +kernel
theorem dX5_tellAll_16 : decode cX5_tellAll 16 = .ok (.putfield 36, 3) := by decide +kernel
theorem dX5_tellAll_19 : decode cX5_tellAll 19 = .ok (.iconst 0, 1) := by decide +kernel
theorem dX5_tellAll_20 : decode cX5_tellAll 20 = .ok (.istore_n 2, 1) := by decide +kernel
theorem dX5_tellAll_21 : decode cX5_tellAll 21 = .ok (.iload_n 2, 1) := by decide +kernel
theorem dX5_tellAll_22 : decode cX5_tellAll 22 = .ok (.bipush 8, 2) := by decide +kernel
theorem dX5_tellAll_24 : decode cX5_tellAll 24 = .ok (.if_icmp .ge 29, 3) := by decide +kernel
theorem dX5_tellAll_27 : decode cX5_tellAll 27 = .ok (.aload_n 1, 1) := by decide +kernel
theorem dX5_tellAll_28 : decode cX5_tellAll 28 = .ok (.iload_n 2, 1) := by decide +kernel
theorem dX5_tellAll_29 : decode cX5_tellAll 29 = .ok (.invokevirtual 39, 3) := by decide +kernel
theorem dX5_tellAll_32 : decode cX5_tellAll 32 = .ok (.ifCond .eq 15, 3) := by decide +kernel
theorem dX5_tellAll_35 : decode cX5_tellAll 35 = .ok (.aload_n 0, 1) := by decide +kernel
theorem dX5_tellAll_36 : decode cX5_tellAll 36 = .ok (.aload_n 1, 1) := by decide +kernel
theorem dX5_tellAll_37 : decode cX5_tellAll 37 = .ok (.iload_n 2, 1) := by decide +kernel
theorem dX5_tellAll_38 : decode cX5_tellAll 38 = .ok (.invokevirtual 43, 3) := by decide +kernel
theorem dX5_tellAll_41 : decode cX5_tellAll 41 = .ok (.aload_n 0, 1) := by decide +kernel
theorem dX5_tellAll_42 : decode cX5_tellAll 42 = .ok (.bipush 59, 2) := by decide +kernel
theorem dX5_tellAll_44 : decode cX5_tellAll 44 = .ok (.invokevirtual 47, 3) := by decide +kernel
theorem dX5_tellAll_47 : decode cX5_tellAll 47 = .ok (.iinc 2 1, 3) := by decide +kernel
theorem dX5_tellAll_50 : decode cX5_tellAll 50 = .ok (.goto (-29), 3) := by decide +kernel
theorem dX5_tellAll_53 : decode cX5_tellAll 53 = .ok (.return_, 1) := by decide +kernel
theorem dX5_tellTree_0 : decode cX5_tellTree 0 = .ok (.iload_n 2, 1) := by decide +kernel
theorem dX5_tellTree_1 : decode cX5_tellTree 1 = .ok (.istore_n 3, 1) := by decide +kernel
theorem dX5_tellTree_2 : decode cX5_tellTree 2 = .ok (.iconst 0, 1) := by decide +kernel
theorem dX5_tellTree_3 : decode cX5_tellTree 3 = .ok (.istore 4, 2) := by decide +kernel
theorem dX5_tellTree_5 : decode cX5_tellTree 5 = .ok (.iload 4, 2) := by decide +kernel
theorem dX5_tellTree_7 : decode cX5_tellTree 7 = .ok (.sipush 2000, 3) := by decide +kernel
theorem dX5_tellTree_10 : decode cX5_tellTree 10 = .ok (.if_icmp .ge 62, 3) := by decide +kernel
theorem dX5_tellTree_13 : decode cX5_tellTree 13 = .ok (.iload_n 3, 1) := by decide +kernel
theorem dX5_tellTree_14 : decode cX5_tellTree 14 = .ok (.iconst (-1), 1) := by decide +kernel
theorem dX5_tellTree_15 : decode cX5_tellTree 15 = .ok (.if_icmp .eq 57, 3) := by decide +kernel
theorem dX5_tellTree_18 : decode cX5_tellTree 18 = .ok (.aload_n 1, 1) := by decide +kernel
theorem dX5_tellTree_19 : decode cX5_tellTree 19 = .ok (.aload_n 1, 1) := by decide +kernel
theorem dX5_tellTree_20 : decode cX5_tellTree 20 = .ok (.iload_n 3, 1) := by decide +kernel
theorem dX5_tellTree_21 : decode cX5_tellTree 21 = .ok (.invokevirtual 51, 3) := by decide +kernel
theorem dX5_tellTree_24 : decode cX5_tellTree 24 = .ok (.invokevirtual 54, 3) := by decide +kernel
theorem dX5_tellTree_27 : decode cX5_tellTree 27 = .ok (.istore 5, 2) := by decide +kernel
theorem dX5_tellTree_29 : decode cX5_tellTree 29 = .ok (.aload_n 1, 1) := by decide +kernel
theorem dX5_tellTree_30 : decode cX5_tellTree 30 = .ok (.iload 5, 2) := by decide +kernel
theorem dX5_tellTree_32 : decode cX5_tellTree 32 = .ok (.invokevirtual 57, 3) := by decide +kernel
theorem dX5_tellTree_35 : decode cX5_tellTree 35 = .ok (.istore 6, 2) := by decide +kernel
theorem dX5_tellTree_37 : decode cX5_tellTree 37 = .ok (.aload_n 0, 1) := by decide +kernel
theorem dX5_tellTree_38 : decode cX5_tellTree 38 = .ok (.aload_n 1, 1) := by decide +kernel
theorem dX5_tellTree_39 : decode cX5_tellTree 39 = .ok (.iload 6, 2) := by decide +kernel
theorem dX5_tellTree_41 : decode cX5_tellTree 41 = .ok (.iload_n 3, 1) := by decide +kernel
theorem dX5_tellTree_42 : decode cX5_tellTree 42 = .ok (.invokevirtual 60, 3) := by decide +kernel
theorem dX5_tellTree_45 : decode cX5_tellTree 45 = .ok (.iload 6, 2) := by decide +kernel
theorem dX5_tellTree_47 : decode cX5_tellTree 47 = .ok (.ifCond .le 12, 3) := by decide +kernel
theorem dX5_tellTree_50 : decode cX5_tellTree 50 = .ok (.iload 5, 2) := by decide +kernel
theorem dX5_tellTree_52 : decode cX5_tellTree 52 = .ok (.iconst 1, 1) := by decide +kernel
theorem dX5_tellTree_53 : decode cX5_tellTree 53 = .ok (.invokestatic 64, 3) := by decide +kernel
theorem dX5_tellTree_56 : decode cX5_tellTree 56 = .ok (.goto 9, 3) := by decide +kernel
theorem dX5_tellTree_59 : decode cX5_tellTree 59 = .ok (.aload_n 0, 1) := by decide +kernel
theorem dX5_tellTree_60 : decode cX5_tellTree 60 = .ok (.aload_n 1, 1) := by decide +kernel
theorem dX5_tellTree_61 : decode cX5_tellTree 61 = .ok (.iload_n 3, 1) := by decide +kernel
theorem dX5_tellTree_62 : decode cX5_tellTree 62 = .ok (.invokevirtual 68, 3) := by decide +kernel
theorem dX5_tellTree_65 : decode cX5_tellTree 65 = .ok (.istore_n 3, 1) := by decide +kernel
theorem dX5_tellTree_66 : decode cX5_tellTree 66 = .ok (.iinc 4 1, 3) := by decide +kernel
theorem dX5_tellTree_69 : decode cX5_tellTree 69 = .ok (.goto (-64), 3) := by decide +kernel
theorem dX5_tellTree_72 : decode cX5_tellTree 72 = .ok (.return_, 1) := by decide +kernel
theorem dX5_writeFirst_0 : decode cX5_writeFirst 0 = .ok (.iload_n 2, 1) := by decide +kernel
theorem dX5_writeFirst_1 : decode cX5_writeFirst 1 = .ok (.ifCond .lt 25, 3) := by decide +kernel
theorem dX5_writeFirst_4 : decode cX5_writeFirst 4 = .ok (.iload_n 2, 1) := by decide +kernel
theorem dX5_writeFirst_5 : decode cX5_writeFirst 5 = .ok (.ldc 72, 2) := by decide +kernel
theorem dX5_writeFirst_7 : decode cX5_writeFirst 7 = .ok (.invokevirtual 74, 3) := by decide +kernel
theorem dX5_writeFirst_10 : decode cX5_writeFirst 10 = .ok (.if_icmp .ge 16, 3) := by decide +kernel
theorem dX5_writeFirst_13 : decode cX5_writeFirst 13 = .ok (.aload_n 0, 1) := by decide +kernel
theorem dX5_writeFirst_14 : decode cX5_writeFirst 14 = .ok (.ldc 72, 2) := by decide +kernel
theorem dX5_writeFirst_16 : decode cX5_writeFirst 16 = .ok (.iload_n 2, 1) := by decide +kernel
theorem dX5_writeFirst_17 : decode cX5_writeFirst 17 = .ok (.invokevirtual 80, 3) := by decide +kernel
theorem dX5_writeFirst_20 : decode cX5_writeFirst 20 = .ok (.invokevirtual 47, 3) := by decide +kernel
theorem dX5_writeFirst_23 : decode cX5_writeFirst 23 = .ok (.goto 17, 3) := by decide +kernel
theorem dX5_writeFirst_26 : decode cX5_writeFirst 26 = .ok (.aload_n 0, 1) := by decide +kernel
theorem dX5_writeFirst_27 : decode cX5_writeFirst 27 = .ok (.aload_n 0, 1) := by decide +kernel
theorem dX5_writeFirst_28 : decode cX5_writeFirst 28 = .ok (.iload_n 3, 1) := by decide +kernel
theorem dX5_writeFirst_29 : decode cX5_writeFirst 29 = .ok (.aload_n 1, 1) := by decide +kernel
theorem dX5_writeFirst_30 : decode cX5_writeFirst 30 = .ok (.iload_n 3, 1) := by decide +kernel
theorem dX5_writeFirst_31 : decode cX5_writeFirst 31 = .ok (.invokevirtual 51, 3) := by decide +kernel
theorem dX5_writeFirst_34 : decode cX5_writeFirst 34 = .ok (.invokevirtual 84, 3) := by decide +kernel
theorem dX5_writeFirst_37 : decode cX5_writeFirst 37 = .ok (.invokevirtual 47, 3) := by decide +kernel
theorem dX5_writeFirst_40 : decode cX5_writeFirst 40 = .ok (.return_, 1) := by decide +kernel
theorem dX5_nextAfter_0 : decode cX5_nextAfter 0 = .ok (.iload_n 2, 1) := by decide +kernel
theorem dX5_nextAfter_1 : decode cX5_nextAfter 1 = .ok (.istore_n 3, 1) := by decide +kernel
theorem dX5_nextAfter_2 : decode cX5_nextAfter 2 = .ok (.iconst 0, 1) := by decide +kernel
theorem dX5_nextAfter_3 : decode cX5_nextAfter 3 = .ok (.istore 4, 2) := by decide +kernel
theorem dX5_nextAfter_5 : decode cX5_nextAfter 5 = .ok (.iload 4, 2) := by decide +kernel
theorem dX5_nextAfter_7 : decode cX5_nextAfter 7 = .ok (.sipush 2000, 3) := by decide +kernel
theorem dX5_nextAfter_10 : decode cX5_nextAfter 10 = .ok (.if_icmp .ge 69, 3) := by decide +kernel
theorem dX5_nextAfter_13 : decode cX5_nextAfter 13 = .ok (.iload_n 3, 1) := by decide +kernel
theorem dX5_nextAfter_14 : decode cX5_nextAfter 14 = .ok (.invokestatic 87, 3) := by decide +kernel
theorem dX5_nextAfter_17 : decode cX5_nextAfter 17 = .ok (.iconst 2, 1) := by decide +kernel
theorem dX5_nextAfter_18 : decode cX5_nextAfter 18 = .ok (.if_icmp .ne 61, 3) := by decide +kernel
theorem dX5_nextAfter_21 : decode cX5_nextAfter 21 = .ok (.iload_n 3, 1) := by decide +kernel
theorem dX5_nextAfter_22 : decode cX5_nextAfter 22 = .ok (.invokestatic 90, 3) := by decide +kernel
theorem dX5_nextAfter_25 : decode cX5_nextAfter 25 = .ok (.istore 5, 2) := by decide +kernel
theorem dX5_nextAfter_27 : decode cX5_nextAfter 27 = .ok (.aload_n 1, 1) := by decide +kernel
theorem dX5_nextAfter_28 : decode cX5_nextAfter 28 = .ok (.iload 5, 2) := by decide +kernel
theorem dX5_nextAfter_30 : decode cX5_nextAfter 30 = .ok (.invokevirtual 57, 3) := by decide +kernel
theorem dX5_nextAfter_33 : decode cX5_nextAfter 33 = .ok (.istore 6, 2) := by decide +kernel
theorem dX5_nextAfter_35 : decode cX5_nextAfter 35 = .ok (.iload 6, 2) := by decide +kernel
theorem dX5_nextAfter_37 : decode cX5_nextAfter 37 = .ok (.iconst 1, 1) := by decide +kernel
theorem dX5_nextAfter_38 : decode cX5_nextAfter 38 = .ok (.if_icmp .lt 24, 3) := by decide +kernel
theorem dX5_nextAfter_41 : decode cX5_nextAfter 41 = .ok (.iload 6, 2) := by decide +kernel
theorem dX5_nextAfter_43 : decode cX5_nextAfter 43 = .ok (.ldc 93, 2) := by decide +kernel
theorem dX5_nextAfter_45 : decode cX5_nextAfter 45 = .ok (.invokevirtual 74, 3) := by decide +kernel
theorem dX5_nextAfter_48 : decode cX5_nextAfter 48 = .ok (.if_icmp .ge 14, 3) := by decide +kernel
theorem dX5_nextAfter_51 : decode cX5_nextAfter 51 = .ok (.aload_n 0, 1) := by decide +kernel
theorem dX5_nextAfter_52 : decode cX5_nextAfter 52 = .ok (.ldc 93, 2) := by decide +kernel
theorem dX5_nextAfter_54 : decode cX5_nextAfter 54 = .ok (.iload 6, 2) := by decide +kernel
theorem dX5_nextAfter_56 : decode cX5_nextAfter 56 = .ok (.invokevirtual 80, 3) := by decide +kernel
theorem dX5_nextAfter_59 : decode cX5_nextAfter 59 = .ok (.invokevirtual 47, 3) := by decide +kernel
theorem dX5_nextAfter_62 : decode cX5_nextAfter 62 = .ok (.aload_n 1, 1) := by decide +kernel
theorem dX5_nextAfter_63 : decode cX5_nextAfter 63 = .ok (.iload 5, 2) := by decide +kernel
theorem dX5_nextAfter_65 : decode cX5_nextAfter 65 = .ok (.iconst 0, 1) := by decide +kernel
theorem dX5_nextAfter_66 : decode cX5_nextAfter 66 = .ok (.invokestatic 64, 3) := by decide +kernel
theorem dX5_nextAfter_69 : decode cX5_nextAfter 69 = .ok (.invokevirtual 51, 3) := by decide +kernel
theorem dX5_nextAfter_72 : decode cX5_nextAfter 72 = .ok (.istore_n 3, 1) := by decide +kernel
theorem dX5_nextAfter_73 : decode cX5_nextAfter 73 = .ok (.iinc 4 1, 3) := by decide +kernel
theorem dX5_nextAfter_76 : decode cX5_nextAfter 76 = .ok (.goto (-71), 3) := by decide +kernel
theorem dX5_nextAfter_79 : decode cX5_nextAfter 79 = .ok (.iload_n 3, 1) := by decide +kernel
theorem dX5_nextAfter_80 : decode cX5_nextAfter 80 = .ok (.invokestatic 87, 3) := by decide +kernel
theorem dX5_nextAfter_83 : decode cX5_nextAfter 83 = .ok (.iconst 1, 1) := by decide +kernel
theorem dX5_nextAfter_84 : decode cX5_nextAfter 84 = .ok (.if_icmp .ne 14, 3) := by decide +kernel
theorem dX5_nextAfter_87 : decode cX5_nextAfter 87 = .ok (.iload_n 3, 1) := by decide +kernel
theorem dX5_nextAfter_88 : decode cX5_nextAfter 88 = .ok (.invokestatic 90, 3) := by decide +kernel
theorem dX5_nextAfter_91 : decode cX5_nextAfter 91 = .ok (.iconst 2, 1) := by decide +kernel
theorem dX5_nextAfter_92 : decode cX5_nextAfter 92 = .ok (.invokestatic 64, 3) := by decide +kernel
theorem dX5_nextAfter_95 : decode cX5_nextAfter 95 = .ok (.goto 4, 3) := by decide +kernel
theorem dX5_nextAfter_98 : decode cX5_nextAfter 98 = .ok (.iconst (-1), 1) := by decide +kernel
theorem dX5_nextAfter_99 : decode cX5_nextAfter 99 = .ok (.ireturn, 1) := by decide +kernel
theorem dX5_nameOf_0 : decode cX5_nameOf 0 = .ok (.iload_n 1, 1) := by decide +kernel
theorem dX5_nameOf_1 : decode cX5_nameOf 1 = .ok (.ifCond .lt 25, 3) := by decide +kernel
theorem dX5_nameOf_4 : decode cX5_nameOf 4 = .ok (.iload_n 1, 1) := by decide +kernel
theorem dX5_nameOf_5 : decode cX5_nameOf 5 = .ok (.aload_n 0, 1) := by decide +kernel
theorem dX5_nameOf_6 : decode cX5_nameOf 6 = .ok (.getfield 17, 3) := by decide +kernel
theorem dX5_nameOf_9 : decode cX5_nameOf 9 = .ok (.arraylength, 1) := by decide +kernel
theorem dX5_nameOf_10 : decode cX5_nameOf 10 = .ok (.if_icmp .ge 16, 3) := by decide +kernel
theorem dX5_nameOf_13 : decode cX5_nameOf 13 = .ok (.iload_n 2, 1) := by decide +kernel
theorem dX5_nameOf_14 : decode cX5_nameOf 14 = .ok (.ifCond .lt 12, 3) := by decide +kernel
theorem dX5_nameOf_17 : decode cX5_nameOf 17 = .ok (.iload_n 2, 1) := by decide +kernel
theorem dX5_nameOf_18 : decode cX5_nameOf 18 = .ok (.aload_n 0, 1) := by decide +kernel
theorem dX5_nameOf_19 : decode cX5_nameOf 19 = .ok (.getfield 17, 3) := by decide +kernel
theorem dX5_nameOf_22 : decode cX5_nameOf 22 = .ok (.arraylength, 1) := by decide +kernel
theorem dX5_nameOf_23 : decode cX5_nameOf 23 = .ok (.if_icmp .lt 5, 3) := by decide +kernel
theorem dX5_nameOf_26 : decode cX5_nameOf 26 = .ok (.iconst (-1), 1) := by decide +kernel
theorem dX5_nameOf_27 : decode cX5_nameOf 27 = .ok (.ireturn, 1) := by decide +kernel
theorem dX5_nameOf_28 : decode cX5_nameOf 28 = .ok (.aload_n 0, 1) := by decide +kernel
theorem dX5_nameOf_29 : decode cX5_nameOf 29 = .ok (.getfield 17, 3) := by decide +kernel
theorem dX5_nameOf_32 : decode cX5_nameOf 32 = .ok (.iload_n 1, 1) := by decide +kernel
theorem dX5_nameOf_33 : decode cX5_nameOf 33 = .ok (.iaload, 1) := by decide +kernel
theorem dX5_nameOf_34 : decode cX5_nameOf 34 = .ok (.iconst (-1), 1) := by decide +kernel
theorem dX5_nameOf_35 : decode cX5_nameOf 35 = .ok (.if_icmp .ne 33, 3) := by decide +kernel
theorem dX5_nameOf_38 : decode cX5_nameOf 38 = .ok (.aload_n 0, 1) := by decide +kernel
theorem dX5_nameOf_39 : decode cX5_nameOf 39 = .ok (.getfield 17, 3) := by decide +kernel
theorem dX5_nameOf_42 : decode cX5_nameOf 42 = .ok (.iload_n 1, 1) := by decide +kernel
theorem dX5_nameOf_43 : decode cX5_nameOf 43 = .ok (.aload_n 0, 1) := by decide +kernel
theorem dX5_nameOf_44 : decode cX5_nameOf 44 = .ok (.getfield 36, 3) := by decide +kernel
theorem dX5_nameOf_47 : decode cX5_nameOf 47 = .ok (.iastore, 1) := by decide +kernel
theorem dX5_nameOf_48 : decode cX5_nameOf 48 = .ok (.aload_n 0, 1) := by decide +kernel
theorem dX5_nameOf_49 : decode cX5_nameOf 49 = .ok (.getfield 17, 3) := by decide +kernel
theorem dX5_nameOf_52 : decode cX5_nameOf 52 = .ok (.iload_n 2, 1) := by decide +kernel
theorem dX5_nameOf_53 : decode cX5_nameOf 53 = .ok (.aload_n 0, 1) := by decide +kernel
theorem dX5_nameOf_54 : decode cX5_nameOf 54 = .ok (.getfield 36, 3) := by decide +kernel
theorem dX5_nameOf_57 : decode cX5_nameOf 57 = .ok (.iastore, 1) := by decide +kernel
theorem dX5_nameOf_58 : decode cX5_nameOf 58 = .ok (.aload_n 0, 1) := by decide +kernel
theorem dX5_nameOf_59 : decode cX5_nameOf 59 = .ok (.dup, 1) := by decide +kernel
theorem dX5_nameOf_60 : decode cX5_nameOf 60 = .ok (.getfield 36, 3) := by decide +kernel
theorem dX5_nameOf_63 : decode cX5_nameOf 63 = .ok (.iconst 1, 1) := by decide +kernel
theorem dX5_nameOf_64 : decode cX5_nameOf 64 = .ok (.iadd, 1) := by decide +kernel
theorem dX5_nameOf_65 : decode cX5_nameOf 65 = .ok (.putfield 36, 3) := by decide +kernel
theorem dX5_nameOf_68 : decode cX5_nameOf 68 = .ok (.aload_n 0, 1) := by decide +kernel
theorem dX5_nameOf_69 : decode cX5_nameOf 69 = .ok (.getfield 17, 3) := by decide +kernel
theorem dX5_nameOf_72 : decode cX5_nameOf 72 = .ok (.iload_n 1, 1) := by decide +kernel
theorem dX5_nameOf_73 : decode cX5_nameOf 73 = .ok (.iaload, 1) := by decide +kernel
theorem dX5_nameOf_74 : decode cX5_nameOf 74 = .ok (.ireturn, 1) := by decide +kernel
theorem dX5_write_0 : decode cX5_write 0 = .ok (.aload_n 0, 1) := by decide +kernel
theorem dX5_write_1 : decode cX5_write 1 = .ok (.getfield 20, 3) := by decide +kernel
theorem dX5_write_4 : decode cX5_write 4 = .ok (.aload_n 0, 1) := by decide +kernel
theorem dX5_write_5 : decode cX5_write 5 = .ok (.getfield 9, 3) := by decide +kernel
theorem dX5_write_8 : decode cX5_write 8 = .ok (.arraylength, 1) := by decide +kernel
theorem dX5_write_9 : decode cX5_write 9 = .ok (.if_icmp .ge 23, 3) := by decide +kernel
theorem dX5_write_12 : decode cX5_write 12 = .ok (.aload_n 0, 1) := by decide +kernel
theorem dX5_write_13 : decode cX5_write 13 = .ok (.getfield 9, 3) := by decide +kernel
theorem dX5_write_16 : decode cX5_write 16 = .ok (.aload_n 0, 1) := by decide +kernel
theorem dX5_write_17 : decode cX5_write 17 = .ok (.getfield 20, 3) := by decide +kernel
theorem dX5_write_20 : decode cX5_write 20 = .ok (.iload_n 1, 1) := by decide +kernel
theorem dX5_write_21 : decode cX5_write 21 = .ok (.iastore, 1) := by decide +kernel
theorem dX5_write_22 : decode cX5_write 22 = .ok (.aload_n 0, 1) := by decide +kernel
theorem dX5_write_23 : decode cX5_write 23 = .ok (.dup, 1) := by decide +kernel
theorem dX5_write_24 : decode cX5_write 24 = .ok (.getfield 20, 3) := by decide +kernel
theorem dX5_write_27 : decode cX5_write 27 = .ok (.iconst 1, 1) := by decide +kernel
theorem dX5_write_28 : decode cX5_write 28 = .ok (.iadd, 1) := by decide +kernel
theorem dX5_write_29 : decode cX5_write 29 = .ok (.putfield 20, 3) := by decide +kernel
theorem dX5_write_32 : decode cX5_write 32 = .ok (.return_, 1) := by decide +kernel
