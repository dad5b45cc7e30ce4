theorem dX6_init_0 : decode cX6_init 0 = .ok (.aload_n 0, 1) := by decide +kernel
theorem dX6_init_1 : decode cX6_init 1 = .ok (.invokespecial 3, 3) := by decide +kernel
theorem dX6_init_4 : decode cX6_init 4 = .ok (.aload_n 0, 1) := by decide +kernel
theorem dX6_init_5 : decode cX6_init 5 = .ok (.new 9, 3) := by decide +kernel
theorem dX6_init_8 : decode cX6_init 8 = .ok (.dup, 1) := by decide +kernel
theorem dX6_init_9 : decode cX6_init 9 = .ok (.invokespecial 11, 3) := by decide +kernel
theorem dX6_init_12 : decode cX6_init 12 = .ok (.putfield 12, 3) := by decide +kernel
theorem dX6_init_15 : decode cX6_init 15 = .ok (.aload_n 0, 1) := by decide +kernel
theorem dX6_init_16 : decode cX6_init 16 = .ok (.new 16, 3) := by decide +kernel
theorem dX6_init_19 : decode cX6_init 19 = .ok (.dup, 1) := by decide +kernel
theorem dX6_init_20 : decode cX6_init 20 = .ok (.invokespecial 18, 3) := by decide +kernel
theorem dX6_init_23 : decode cX6_init 23 = .ok (.putfield 19, 3) := by decide +kernel
theorem dX6_init_26 : decode cX6_init 26 = .ok (.aload_n 0, 1) := by decide +kernel
theorem dX6_init_27 : decode cX6_init 27 = .ok (.new 23, 3) := by decide +kernel
theorem dX6_init_30 : decode cX6_init 30 = .ok (.dup, 1) := by decide +kernel
theorem dX6_init_31 : decode cX6_init 31 = .ok (.bipush 60, 2) := by decide +kernel
theorem dX6_init_33 : decode cX6_init 33 = .ok (.invokespecial 25, 3) := by decide +kernel
theorem dX6_init_36 : decode cX6_init 36 = .ok (.putfield 28, 3) := by decide +kernel
theorem dX6_init_39 : decode cX6_init 39 = .ok (.aload_n 0, 1) := by decide +kernel
theorem dX6_init_40 : decode cX6_init 40 = .ok (.new 23, 3) := by decide +kernel
theorem dX6_init_43 : decode cX6_init 43 = .ok (.dup, 1) := by decide +kernel
theorem dX6_init_44 : decode cX6_init 44 = .ok (.bipush 60, 2) := by decide +kernel
theorem dX6_init_46 : decode cX6_init 46 = .ok (.invokespecial 25, 3) := by decide +kernel
theorem dX6_init_49 : decode cX6_init 49 = .ok (.putfield 32, 3) := by decide +kernel
theorem dX6_init_52 : decode cX6_init 52 = .ok (.aload_n 0, 1) := by decide +kernel
theorem dX6_init_53 : decode cX6_init 53 = .ok (.new 23, 3) := by decide +kernel
theorem dX6_init_56 : decode cX6_init 56 = .ok (.dup, 1) := by decide +kernel
theorem dX6_init_57 : decode cX6_init 57 = .ok (.sipush 180, 3) := by decide +kernel
theorem dX6_init_60 : decode cX6_init 60 = .ok (.invokespecial 25, 3) := by decide +kernel
theorem dX6_init_63 : decode cX6_init 63 = .ok (.putfield 35, 3) := by decide +kernel
theorem dX6_init_66 : decode cX6_init 66 = .ok (.aload_n 0, 1) := by decide +kernel
theorem dX6_init_67 : decode cX6_init 67 = .ok (.new 38, 3) := by decide +kernel
theorem dX6_init_70 : decode cX6_init 70 = .ok (.dup, 1) := by decide +kernel
theorem dX6_init_71 : decode cX6_init 71 = .ok (.invokespecial 40, 3) := by decide +kernel
theorem dX6_init_74 : decode cX6_init 74 = .ok (.putfield 41, 3) := by decide +kernel
theorem dX6_init_77 : decode cX6_init 77 = .ok (.aload_n 0, 1) := by decide +kernel
theorem dX6_init_78 : decode cX6_init 78 = .ok (.new 38, 3) := by decide +kernel
theorem dX6_init_81 : decode cX6_init 81 = .ok (.dup, 1) := by decide +kernel
theorem dX6_init_82 : decode cX6_init 82 = .ok (.invokespecial 40, 3) := by decide +kernel
theorem dX6_init_85 : decode cX6_init 85 = .ok (.putfield 45, 3) := by decide +kernel
theorem dX6_init_88 : decode cX6_init 88 = .ok (.aload_n 0, 1) := by decide +kernel
theorem dX6_init_89 : decode cX6_init 89 = .ok (.new 48, 3) := by decide +kernel
theorem dX6_init_92 : decode cX6_init 92 = .ok (.dup, 1) := by decide +kernel
theorem dX6_init_93 : decode cX6_init 93 = .ok (.invokespecial 50, 3) := by decide +kernel
theorem dX6_init_96 : decode cX6_init 96 = .ok (.putfield 51, 3) := by decide +kernel
theorem dX6_init_99 : decode cX6_init 99 = .ok (.aload_n 0, 1) := by decide +kernel
theorem dX6_init_100 : decode cX6_init 100 = .ok (.new 48, 3) := by decide +kernel
theorem dX6_init_103 : decode cX6_init 103 = .ok (.dup, 1) := by decide +kernel
theorem dX6_init_104 : decode cX6_init 104 = .ok (.invokespecial 50, 3) := by decide +kernel
theorem dX6_init_107 : decode cX6_init 107 = .ok (.putfield 55, 3) := by decide +kernel
theorem dX6_init_110 : decode cX6_init 110 = .ok (.aload_n 0, 1) := by decide +kernel
theorem dX6_init_111 : decode cX6_init 111 = .ok (.new 58, 3) := by decide +kernel
theorem dX6_init_114 : decode cX6_init 114 = .ok (.dup, 1) := by decide +kernel
theorem dX6_init_115 : decode cX6_init 115 = .ok (.invokespecial 60, 3) := by decide +kernel
theorem dX6_init_118 : decode cX6_init 118 = .ok (.putfield 61, 3) := by decide +kernel
theorem dX6_init_121 : decode cX6_init 121 = .ok (.return_, 1) := by decide +kernel
theorem dX6_letter_0 : decode cX6_letter 0 = .ok (.iload_n 1, 1) := by decide +kernel
theorem dX6_letter_1 : decode cX6_letter 1 = .ok (.bipush 32, 2) := by decide +kernel
theorem dX6_letter_3 : decode cX6_letter 3 = .ok (.if_icmp .lt 9, 3) := by decide +kernel
theorem dX6_letter_6 : decode cX6_letter 6 = .ok (.iload_n 1, 1) := by decide +kernel
theorem dX6_letter_7 : decode cX6_letter 7 = .ok (.bipush 126, 2) := by decide +kernel
theorem dX6_letter_9 : decode cX6_letter 9 = .ok (.if_icmp .le 6, 3) := by decide +kernel
theorem dX6_letter_12 : decode cX6_letter 12 = .ok (.bipush (-102), 2) := by decide +kernel
theorem dX6_letter_14 : decode cX6_letter 14 = .ok (.ireturn, 1) := by decide +kernel
theorem dX6_letter_15 : decode cX6_letter 15 = .ok (.aload_n 0, 1) := by decide +kernel
theorem dX6_letter_16 : decode cX6_letter 16 = .ok (.getfield 12, 3) := by decide +kernel
theorem dX6_letter_19 : decode cX6_letter 19 = .ok (.iload_n 1, 1) := by decide +kernel
theorem dX6_letter_20 : decode cX6_letter 20 = .ok (.invokevirtual 65, 3) := by decide +kernel
theorem dX6_letter_23 : decode cX6_letter 23 = .ok (.ifCond .eq 13, 3) := by decide +kernel
theorem dX6_letter_26 : decode cX6_letter 26 = .ok (.aload_n 0, 1) := by decide +kernel
theorem dX6_letter_27 : decode cX6_letter 27 = .ok (.getfield 12, 3) := by decide +kernel
theorem dX6_letter_30 : decode cX6_letter 30 = .ok (.invokevirtual 69, 3) := by decide +kernel
theorem dX6_letter_33 : decode cX6_letter 33 = .ok (.goto 5, 3) := by decide +kernel
theorem dX6_letter_36 : decode cX6_letter 36 = .ok (.bipush (-104), 2) := by decide +kernel
theorem dX6_letter_38 : decode cX6_letter 38 = .ok (.ireturn, 1) := by decide +kernel
theorem dX6_blank_0 : decode cX6_blank 0 = .ok (.aload_n 0, 1) := by decide +kernel
theorem dX6_blank_1 : decode cX6_blank 1 = .ok (.getfield 12, 3) := by decide +kernel
theorem dX6_blank_4 : decode cX6_blank 4 = .ok (.invokevirtual 73, 3) := by decide +kernel
theorem dX6_blank_7 : decode cX6_blank 7 = .ok (.ireturn, 1) := by decide +kernel
theorem dX6_fault_0 : decode cX6_fault 0 = .ok (.aload_n 0, 1) := by decide +kernel
theorem dX6_fault_1 : decode cX6_fault 1 = .ok (.getfield 19, 3) := by decide +kernel
theorem dX6_fault_4 : decode cX6_fault 4 = .ok (.aload_n 0, 1) := by decide +kernel
theorem dX6_fault_5 : decode cX6_fault 5 = .ok (.getfield 12, 3) := by decide +kernel
theorem dX6_fault_8 : decode cX6_fault 8 = .ok (.aload_n 0, 1) := by decide +kernel
theorem dX6_fault_9 : decode cX6_fault 9 = .ok (.getfield 35, 3) := by decide +kernel
theorem dX6_fault_12 : decode cX6_fault 12 = .ok (.invokevirtual 76, 3) := by decide +kernel
theorem dX6_fault_15 : decode cX6_fault 15 = .ok (.ireturn, 1) := by decide +kernel
theorem dX6_net_0 : decode cX6_net 0 = .ok (.aload_n 0, 1) := by decide +kernel
theorem dX6_net_1 : decode cX6_net 1 = .ok (.getfield 19, 3) := by decide +kernel
theorem dX6_net_4 : decode cX6_net 4 = .ok (.aload_n 0, 1) := by decide +kernel
theorem dX6_net_5 : decode cX6_net 5 = .ok (.getfield 12, 3) := by decide +kernel
theorem dX6_net_8 : decode cX6_net 8 = .ok (.aload_n 0, 1) := by decide +kernel
theorem dX6_net_9 : decode cX6_net 9 = .ok (.getfield 35, 3) := by decide +kernel
theorem dX6_net_12 : decode cX6_net 12 = .ok (.invokevirtual 76, 3) := by decide +kernel
theorem dX6_net_15 : decode cX6_net 15 = .ok (.istore_n 1, 1) := by decide +kernel
theorem dX6_net_16 : decode cX6_net 16 = .ok (.iload_n 1, 1) := by decide +kernel
theorem dX6_net_17 : decode cX6_net 17 = .ok (.aload_n 0, 1) := by decide +kernel
theorem dX6_net_18 : decode cX6_net 18 = .ok (.getfield 12, 3) := by decide +kernel
theorem dX6_net_21 : decode cX6_net 21 = .ok (.invokevirtual 69, 3) := by decide +kernel
theorem dX6_net_24 : decode cX6_net 24 = .ok (.if_icmp .lt 25, 3) := by decide +kernel
theorem dX6_net_27 : decode cX6_net 27 = .ok (.aload_n 0, 1) := by decide +kernel
theorem dX6_net_28 : decode cX6_net 28 = .ok (.getfield 19, 3) := by decide +kernel
theorem dX6_net_31 : decode cX6_net 31 = .ok (.invokevirtual 80, 3) := by decide +kernel
theorem dX6_net_34 : decode cX6_net 34 = .ok (.ifCond .eq 15, 3) := by decide +kernel
theorem dX6_net_37 : decode cX6_net 37 = .ok (.aload_n 0, 1) := by decide +kernel
theorem dX6_net_38 : decode cX6_net 38 = .ok (.getfield 35, 3) := by decide +kernel
theorem dX6_net_41 : decode cX6_net 41 = .ok (.invokevirtual 84, 3) := by decide +kernel
theorem dX6_net_44 : decode cX6_net 44 = .ok (.bipush 30, 2) := by decide +kernel
theorem dX6_net_46 : decode cX6_net 46 = .ok (.if_icmp .le 6, 3) := by decide +kernel
theorem dX6_net_49 : decode cX6_net 49 = .ok (.bipush (-103), 2) := by decide +kernel
theorem dX6_net_51 : decode cX6_net 51 = .ok (.ireturn, 1) := by decide +kernel
theorem dX6_net_52 : decode cX6_net 52 = .ok (.aload_n 0, 1) := by decide +kernel
theorem dX6_net_53 : decode cX6_net 53 = .ok (.getfield 19, 3) := by decide +kernel
theorem dX6_net_56 : decode cX6_net 56 = .ok (.aload_n 0, 1) := by decide +kernel
theorem dX6_net_57 : decode cX6_net 57 = .ok (.getfield 35, 3) := by decide +kernel
theorem dX6_net_60 : decode cX6_net 60 = .ok (.invokevirtual 87, 3) := by decide +kernel
theorem dX6_net_63 : decode cX6_net 63 = .ok (.aload_n 0, 1) := by decide +kernel
theorem dX6_net_64 : decode cX6_net 64 = .ok (.getfield 28, 3) := by decide +kernel
theorem dX6_net_67 : decode cX6_net 67 = .ok (.aload_n 0, 1) := by decide +kernel
theorem dX6_net_68 : decode cX6_net 68 = .ok (.getfield 35, 3) := by decide +kernel
theorem dX6_net_71 : decode cX6_net 71 = .ok (.invokevirtual 91, 3) := by decide +kernel
theorem dX6_net_74 : decode cX6_net 74 = .ok (.aload_n 0, 1) := by decide +kernel
theorem dX6_net_75 : decode cX6_net 75 = .ok (.getfield 41, 3) := by decide +kernel
theorem dX6_net_78 : decode cX6_net 78 = .ok (.invokevirtual 94, 3) := by decide +kernel
theorem dX6_net_81 : decode cX6_net 81 = .ok (.pop, 1) := by decide +kernel
theorem dX6_net_82 : decode cX6_net 82 = .ok (.aload_n 0, 1) := by decide +kernel
theorem dX6_net_83 : decode cX6_net 83 = .ok (.getfield 12, 3) := by decide +kernel
theorem dX6_net_86 : decode cX6_net 86 = .ok (.invokevirtual 73, 3) := by decide +kernel
theorem dX6_net_89 : decode cX6_net 89 = .ok (.pop, 1) := by decide +kernel
theorem dX6_net_90 : decode cX6_net 90 = .ok (.aload_n 0, 1) := by decide +kernel
theorem dX6_net_91 : decode cX6_net 91 = .ok (.iconst 1, 1) := by decide +kernel
theorem dX6_net_92 : decode cX6_net 92 = .ok (.putfield 95, 3) := by decide +kernel
theorem dX6_net_95 : decode cX6_net 95 = .ok (.aload_n 0, 1) := by decide +kernel
theorem dX6_net_96 : decode cX6_net 96 = .ok (.iconst 0, 1) := by decide +kernel
theorem dX6_net_97 : decode cX6_net 97 = .ok (.putfield 99, 3) := by decide +kernel
theorem dX6_net_100 : decode cX6_net 100 = .ok (.aload_n 0, 1) := by decide +kernel
theorem dX6_net_101 : decode cX6_net 101 = .ok (.dup, 1) := by decide +kernel
theorem dX6_net_102 : decode cX6_net 102 = .ok (.getfield 102, 3) := by decide +kernel
theorem dX6_net_105 : decode cX6_net 105 = .ok (.iconst 1, 1) := by decide +kernel
theorem dX6_net_106 : decode cX6_net 106 = .ok (.iadd, 1) := by decide +kernel
theorem dX6_net_107 : decode cX6_net 107 = .ok (.putfield 102, 3) := by decide +kernel
theorem dX6_net_110 : decode cX6_net 110 = .ok (.aload_n 0, 1) := by decide +kernel
theorem dX6_net_111 : decode cX6_net 111 = .ok (.getfield 28, 3) := by decide +kernel
theorem dX6_net_114 : decode cX6_net 114 = .ok (.invokevirtual 84, 3) := by decide +kernel
theorem dX6_net_117 : decode cX6_net 117 = .ok (.ireturn, 1) := by decide +kernel
theorem dX6_node_0 : decode cX6_node 0 = .ok (.aload_n 0, 1) := by decide +kernel
theorem dX6_node_1 : decode cX6_node 1 = .ok (.getfield 28, 3) := by decide +kernel
theorem dX6_node_4 : decode cX6_node 4 = .ok (.iload_n 1, 1) := by decide +kernel
theorem dX6_node_5 : decode cX6_node 5 = .ok (.invokevirtual 106, 3) := by decide +kernel
theorem dX6_node_8 : decode cX6_node 8 = .ok (.istore_n 3, 1) := by decide +kernel
theorem dX6_node_9 : decode cX6_node 9 = .ok (.iload_n 3, 1) := by decide +kernel
theorem dX6_node_10 : decode cX6_node 10 = .ok (.iconst (-1), 1) := by decide +kernel
theorem dX6_node_11 : decode cX6_node 11 = .ok (.if_icmp .ne 6, 3) := by decide +kernel
theorem dX6_node_14 : decode cX6_node 14 = .ok (.bipush (-101), 2) := by decide +kernel
theorem dX6_node_16 : decode cX6_node 16 = .ok (.ireturn, 1) := by decide +kernel
theorem dX6_node_17 : decode cX6_node 17 = .ok (.iload_n 2, 1) := by decide +kernel
theorem dX6_node_18 : decode cX6_node 18 = .ok (.ifCond .lt 9, 3) := by decide +kernel
theorem dX6_node_21 : decode cX6_node 21 = .ok (.iload_n 2, 1) := by decide +kernel
theorem dX6_node_22 : decode cX6_node 22 = .ok (.bipush 6, 2) := by decide +kernel
theorem dX6_node_24 : decode cX6_node 24 = .ok (.if_icmp .le 6, 3) := by decide +kernel
theorem dX6_node_27 : decode cX6_node 27 = .ok (.bipush (-102), 2) := by decide +kernel
theorem dX6_node_29 : decode cX6_node 29 = .ok (.ireturn, 1) := by decide +kernel
theorem dX6_node_30 : decode cX6_node 30 = .ok (.iload_n 2, 1) := by decide +kernel
theorem dX6_node_31 : decode cX6_node 31 = .ok (.iconst 4, 1) := by decide +kernel
theorem dX6_node_32 : decode cX6_node 32 = .ok (.if_icmp .gt 10, 3) := by decide +kernel
theorem dX6_node_35 : decode cX6_node 35 = .ok (.aload_n 0, 1) := by decide +kernel
theorem dX6_node_36 : decode cX6_node 36 = .ok (.iload_n 1, 1) := by decide +kernel
theorem dX6_node_37 : decode cX6_node 37 = .ok (.iload_n 2, 1) := by decide +kernel
theorem dX6_node_38 : decode cX6_node 38 = .ok (.invokevirtual 110, 3) := by decide +kernel
theorem dX6_node_41 : decode cX6_node 41 = .ok (.ireturn, 1) := by decide +kernel
theorem dX6_node_42 : decode cX6_node 42 = .ok (.iload_n 3, 1) := by decide +kernel
theorem dX6_node_43 : decode cX6_node 43 = .ok (.ifCond .ne 5, 3) := by decide +kernel
theorem dX6_node_46 : decode cX6_node 46 = .ok (.iconst (-1), 1) := by decide +kernel
theorem dX6_node_47 : decode cX6_node 47 = .ok (.ireturn, 1) := by decide +kernel
theorem dX6_node_48 : decode cX6_node 48 = .ok (.aload_n 0, 1) := by decide +kernel
theorem dX6_node_49 : decode cX6_node 49 = .ok (.iload_n 1, 1) := by decide +kernel
theorem dX6_node_50 : decode cX6_node 50 = .ok (.invokevirtual 114, 3) := by decide +kernel
theorem dX6_node_53 : decode cX6_node 53 = .ok (.istore 4, 2) := by decide +kernel
theorem dX6_node_55 : decode cX6_node 55 = .ok (.iload_n 2, 1) := by decide +kernel
theorem dX6_node_56 : decode cX6_node 56 = .ok (.iconst 5, 1) := by decide +kernel
theorem dX6_node_57 : decode cX6_node 57 = .ok (.if_icmp .ne 8, 3) := by decide +kernel
theorem dX6_node_60 : decode cX6_node 60 = .ok (.iload 4, 2) := by decide +kernel
theorem dX6_node_62 : decode cX6_node 62 = .ok (.goto 12, 3) := by decide +kernel
theorem dX6_node_65 : decode cX6_node 65 = .ok (.aload_n 0, 1) := by decide +kernel
theorem dX6_node_66 : decode cX6_node 66 = .ok (.getfield 61, 3) := by decide +kernel
theorem dX6_node_69 : decode cX6_node 69 = .ok (.iload 4, 2) := by decide +kernel
theorem dX6_node_71 : decode cX6_node 71 = .ok (.invokevirtual 117, 3) := by decide +kernel
theorem dX6_node_74 : decode cX6_node 74 = .ok (.ireturn, 1) := by decide +kernel
theorem dX6_as_0 : decode cX6_as 0 = .ok (.aload_n 0, 1) := by decide +kernel
theorem dX6_as_1 : decode cX6_as 1 = .ok (.getfield 28, 3) := by decide +kernel
theorem dX6_as_4 : decode cX6_as 4 = .ok (.iload_n 1, 1) := by decide +kernel
theorem dX6_as_5 : decode cX6_as 5 = .ok (.invokevirtual 106, 3) := by decide +kernel
theorem dX6_as_8 : decode cX6_as 8 = .ok (.istore_n 3, 1) := by decide +kernel
theorem dX6_as_9 : decode cX6_as 9 = .ok (.iload_n 3, 1) := by decide +kernel
theorem dX6_as_10 : decode cX6_as 10 = .ok (.iconst (-1), 1) := by decide +kernel
theorem dX6_as_11 : decode cX6_as 11 = .ok (.if_icmp .ne 6, 3) := by decide +kernel
theorem dX6_as_14 : decode cX6_as 14 = .ok (.bipush (-101), 2) := by decide +kernel
theorem dX6_as_16 : decode cX6_as 16 = .ok (.ireturn, 1) := by decide +kernel
theorem dX6_as_17 : decode cX6_as 17 = .ok (.iload_n 2, 1) := by decide +kernel
theorem dX6_as_18 : decode cX6_as 18 = .ok (.tableswitch 79 0 4 #[34, 36, 46, 57, 68], 34) := by decide +kernel
theorem dX6_as_52 : decode cX6_as 52 = .ok (.iload_n 1, 1) := by decide +kernel
theorem dX6_as_53 : decode cX6_as 53 = .ok (.ireturn, 1) := by decide +kernel
theorem dX6_as_54 : decode cX6_as 54 = .ok (.iload_n 3, 1) := by decide +kernel
theorem dX6_as_55 : decode cX6_as 55 = .ok (.ifCond .ne 7, 3) := by decide +kernel
theorem dX6_as_58 : decode cX6_as 58 = .ok (.iload_n 1, 1) := by decide +kernel
theorem dX6_as_59 : decode cX6_as 59 = .ok (.goto 4, 3) := by decide +kernel
theorem dX6_as_62 : decode cX6_as 62 = .ok (.iconst (-1), 1) := by decide +kernel
theorem dX6_as_63 : decode cX6_as 63 = .ok (.ireturn, 1) := by decide +kernel
theorem dX6_as_64 : decode cX6_as 64 = .ok (.iload_n 3, 1) := by decide +kernel
theorem dX6_as_65 : decode cX6_as 65 = .ok (.iconst 1, 1) := by decide +kernel
theorem dX6_as_66 : decode cX6_as 66 = .ok (.if_icmp .lt 7, 3) := by decide +kernel
theorem dX6_as_69 : decode cX6_as 69 = .ok (.iload_n 1, 1) := by decide +kernel
theorem dX6_as_70 : decode cX6_as 70 = .ok (.goto 4, 3) := by decide +kernel
theorem dX6_as_73 : decode cX6_as 73 = .ok (.iconst (-1), 1) := by decide +kernel
theorem dX6_as_74 : decode cX6_as 74 = .ok (.ireturn, 1) := by decide +kernel
theorem dX6_as_75 : decode cX6_as 75 = .ok (.iload_n 3, 1) := by decide +kernel
theorem dX6_as_76 : decode cX6_as 76 = .ok (.iconst 2, 1) := by decide +kernel
theorem dX6_as_77 : decode cX6_as 77 = .ok (.if_icmp .lt 7, 3) := by decide +kernel
theorem dX6_as_80 : decode cX6_as 80 = .ok (.iload_n 1, 1) := by decide +kernel
theorem dX6_as_81 : decode cX6_as 81 = .ok (.goto 4, 3) := by decide +kernel
theorem dX6_as_84 : decode cX6_as 84 = .ok (.iconst (-1), 1) := by decide +kernel
theorem dX6_as_85 : decode cX6_as 85 = .ok (.ireturn, 1) := by decide +kernel
theorem dX6_as_86 : decode cX6_as 86 = .ok (.iload_n 3, 1) := by decide +kernel
theorem dX6_as_87 : decode cX6_as 87 = .ok (.iconst 3, 1) := by decide +kernel
theorem dX6_as_88 : decode cX6_as 88 = .ok (.if_icmp .ne 7, 3) := by decide +kernel
theorem dX6_as_91 : decode cX6_as 91 = .ok (.iload_n 1, 1) := by decide +kernel
theorem dX6_as_92 : decode cX6_as 92 = .ok (.goto 4, 3) := by decide +kernel
theorem dX6_as_95 : decode cX6_as 95 = .ok (.iconst (-1), 1) := by decide +kernel
theorem dX6_as_96 : decode cX6_as 96 = .ok (.ireturn, 1) := by decide +kernel
theorem dX6_as_97 : decode cX6_as 97 = .ok (.bipush (-102), 2) := by decide +kernel
theorem dX6_as_99 : decode cX6_as 99 = .ok (.ireturn, 1) := by decide +kernel
theorem dX6_open_0 : decode cX6_open 0 = .ok (.aload_n 0, 1) := by decide +kernel
theorem dX6_open_1 : decode cX6_open 1 = .ok (.getfield 28, 3) := by decide +kernel
theorem dX6_open_4 : decode cX6_open 4 = .ok (.iload_n 1, 1) := by decide +kernel
theorem dX6_open_5 : decode cX6_open 5 = .ok (.invokevirtual 120, 3) := by decide +kernel
theorem dX6_open_8 : decode cX6_open 8 = .ok (.ifCond .eq 14, 3) := by decide +kernel
theorem dX6_open_11 : decode cX6_open 11 = .ok (.aload_n 0, 1) := by decide +kernel
theorem dX6_open_12 : decode cX6_open 12 = .ok (.getfield 28, 3) := by decide +kernel
theorem dX6_open_15 : decode cX6_open 15 = .ok (.iload_n 1, 1) := by decide +kernel
theorem dX6_open_16 : decode cX6_open 16 = .ok (.invokevirtual 123, 3) := by decide +kernel
theorem dX6_open_19 : decode cX6_open 19 = .ok (.goto 5, 3) := by decide +kernel
theorem dX6_open_22 : decode cX6_open 22 = .ok (.bipush (-101), 2) := by decide +kernel
theorem dX6_open_24 : decode cX6_open 24 = .ok (.ireturn, 1) := by decide +kernel
theorem dX6_meetings_0 : decode cX6_meetings 0 = .ok (.iload_n 1, 1) := by decide +kernel
theorem dX6_meetings_1 : decode cX6_meetings 1 = .ok (.bipush 10, 2) := by decide +kernel
theorem dX6_meetings_3 : decode cX6_meetings 3 = .ok (.if_icmp .lt 13, 3) := by decide +kernel
theorem dX6_meetings_6 : decode cX6_meetings 6 = .ok (.iload_n 1, 1) := by decide +kernel
theorem dX6_meetings_7 : decode cX6_meetings 7 = .ok (.bipush 39, 2) := by decide +kernel
theorem dX6_meetings_9 : decode cX6_meetings 9 = .ok (.if_icmp .gt 7, 3) := by decide +kernel
theorem dX6_meetings_12 : decode cX6_meetings 12 = .ok (.iconst 1, 1) := by decide +kernel
theorem dX6_meetings_13 : decode cX6_meetings 13 = .ok (.goto 4, 3) := by decide +kernel
theorem dX6_meetings_16 : decode cX6_meetings 16 = .ok (.iconst 0, 1) := by decide +kernel
theorem dX6_meetings_17 : decode cX6_meetings 17 = .ok (.istore_n 2, 1) := by decide +kernel
theorem dX6_meetings_18 : decode cX6_meetings 18 = .ok (.iload_n 1, 1) := by decide +kernel
theorem dX6_meetings_19 : decode cX6_meetings 19 = .ok (.ifCond .eq 10, 3) := by decide +kernel
theorem dX6_meetings_22 : decode cX6_meetings 22 = .ok (.iload_n 2, 1) := by decide +kernel
theorem dX6_meetings_23 : decode cX6_meetings 23 = .ok (.ifCond .ne 6, 3) := by decide +kernel
theorem dX6_meetings_26 : decode cX6_meetings 26 = .ok (.bipush (-102), 2) := by decide +kernel
theorem dX6_meetings_28 : decode cX6_meetings 28 = .ok (.ireturn, 1) := by decide +kernel
theorem dX6_meetings_29 : decode cX6_meetings 29 = .ok (.aload_n 0, 1) := by decide +kernel
theorem dX6_meetings_30 : decode cX6_meetings 30 = .ok (.getfield 95, 3) := by decide +kernel
theorem dX6_meetings_33 : decode cX6_meetings 33 = .ok (.ifCond .ne 6, 3) := by decide +kernel
theorem dX6_meetings_36 : decode cX6_meetings 36 = .ok (.bipush (-103), 2) := by decide +kernel
theorem dX6_meetings_38 : decode cX6_meetings 38 = .ok (.ireturn, 1) := by decide +kernel
theorem dX6_meetings_39 : decode cX6_meetings 39 = .ok (.aload_n 0, 1) := by decide +kernel
theorem dX6_meetings_40 : decode cX6_meetings 40 = .ok (.getfield 28, 3) := by decide +kernel
theorem dX6_meetings_43 : decode cX6_meetings 43 = .ok (.invokevirtual 126, 3) := by decide +kernel
theorem dX6_meetings_46 : decode cX6_meetings 46 = .ok (.istore_n 3, 1) := by decide +kernel
theorem dX6_meetings_47 : decode cX6_meetings 47 = .ok (.iload_n 2, 1) := by decide +kernel
theorem dX6_meetings_48 : decode cX6_meetings 48 = .ok (.ifCond .eq 17, 3) := by decide +kernel
theorem dX6_meetings_51 : decode cX6_meetings 51 = .ok (.aload_n 0, 1) := by decide +kernel
theorem dX6_meetings_52 : decode cX6_meetings 52 = .ok (.getfield 28, 3) := by decide +kernel
theorem dX6_meetings_55 : decode cX6_meetings 55 = .ok (.iload_n 1, 1) := by decide +kernel
theorem dX6_meetings_56 : decode cX6_meetings 56 = .ok (.bipush 10, 2) := by decide +kernel
theorem dX6_meetings_58 : decode cX6_meetings 58 = .ok (.isub, 1) := by decide +kernel
theorem dX6_meetings_59 : decode cX6_meetings 59 = .ok (.invokevirtual 129, 3) := by decide +kernel
theorem dX6_meetings_62 : decode cX6_meetings 62 = .ok (.goto 4, 3) := by decide +kernel
theorem dX6_meetings_65 : decode cX6_meetings 65 = .ok (.iload_n 3, 1) := by decide +kernel
theorem dX6_meetings_66 : decode cX6_meetings 66 = .ok (.ireturn, 1) := by decide +kernel
theorem dX6_meet_0 : decode cX6_meet 0 = .ok (.aload_n 0, 1) := by decide +kernel
theorem dX6_meet_1 : decode cX6_meet 1 = .ok (.getfield 28, 3) := by decide +kernel
theorem dX6_meet_4 : decode cX6_meet 4 = .ok (.invokevirtual 126, 3) := by decide +kernel
theorem dX6_meet_7 : decode cX6_meet 7 = .ok (.pop, 1) := by decide +kernel
theorem dX6_meet_8 : decode cX6_meet 8 = .ok (.aload_n 0, 1) := by decide +kernel
theorem dX6_meet_9 : decode cX6_meet 9 = .ok (.getfield 28, 3) := by decide +kernel
theorem dX6_meet_12 : decode cX6_meet 12 = .ok (.iload_n 1, 1) := by decide +kernel
theorem dX6_meet_13 : decode cX6_meet 13 = .ok (.invokevirtual 129, 3) := by decide +kernel
theorem dX6_meet_16 : decode cX6_meet 16 = .ok (.istore_n 2, 1) := by decide +kernel
theorem dX6_meet_17 : decode cX6_meet 17 = .ok (.iload_n 2, 1) := by decide +kernel
theorem dX6_meet_18 : decode cX6_meet 18 = .ok (.iconst (-1), 1) := by decide +kernel
theorem dX6_meet_19 : decode cX6_meet 19 = .ok (.if_icmp .ne 6, 3) := by decide +kernel
theorem dX6_meet_22 : decode cX6_meet 22 = .ok (.bipush (-101), 2) := by decide +kernel
theorem dX6_meet_24 : decode cX6_meet 24 = .ok (.ireturn, 1) := by decide +kernel
theorem dX6_meet_25 : decode cX6_meet 25 = .ok (.aload_n 0, 1) := by decide +kernel
theorem dX6_meet_26 : decode cX6_meet 26 = .ok (.iload_n 2, 1) := by decide +kernel
theorem dX6_meet_27 : decode cX6_meet 27 = .ok (.invokevirtual 132, 3) := by decide +kernel
theorem dX6_meet_30 : decode cX6_meet 30 = .ok (.ifCond .eq 14, 3) := by decide +kernel
theorem dX6_meet_33 : decode cX6_meet 33 = .ok (.aload_n 0, 1) := by decide +kernel
theorem dX6_meet_34 : decode cX6_meet 34 = .ok (.getfield 28, 3) := by decide +kernel
theorem dX6_meet_37 : decode cX6_meet 37 = .ok (.iload_n 2, 1) := by decide +kernel
theorem dX6_meet_38 : decode cX6_meet 38 = .ok (.invokevirtual 135, 3) := by decide +kernel
theorem dX6_meet_41 : decode cX6_meet 41 = .ok (.goto 5, 3) := by decide +kernel
theorem dX6_meet_44 : decode cX6_meet 44 = .ok (.bipush (-104), 2) := by decide +kernel
theorem dX6_meet_46 : decode cX6_meet 46 = .ok (.ireturn, 1) := by decide +kernel
theorem dX6_run_0 : decode cX6_run 0 = .ok (.iload_n 1, 1) := by decide +kernel
theorem dX6_run_1 : decode cX6_run 1 = .ok (.iconst 1, 1) := by decide +kernel
theorem dX6_run_2 : decode cX6_run 2 = .ok (.if_icmp .lt 9, 3) := by decide +kernel
theorem dX6_run_5 : decode cX6_run 5 = .ok (.iload_n 1, 1) := by decide +kernel
theorem dX6_run_6 : decode cX6_run 6 = .ok (.bipush 60, 2) := by decide +kernel
theorem dX6_run_8 : decode cX6_run 8 = .ok (.if_icmp .le 6, 3) := by decide +kernel
theorem dX6_run_11 : decode cX6_run 11 = .ok (.bipush (-102), 2) := by decide +kernel
theorem dX6_run_13 : decode cX6_run 13 = .ok (.ireturn, 1) := by decide +kernel
theorem dX6_run_14 : decode cX6_run 14 = .ok (.aload_n 0, 1) := by decide +kernel
theorem dX6_run_15 : decode cX6_run 15 = .ok (.getfield 95, 3) := by decide +kernel
theorem dX6_run_18 : decode cX6_run 18 = .ok (.ifCond .ne 6, 3) := by decide +kernel
theorem dX6_run_21 : decode cX6_run 21 = .ok (.bipush (-103), 2) := by decide +kernel
theorem dX6_run_23 : decode cX6_run 23 = .ok (.ireturn, 1) := by decide +kernel
theorem dX6_run_24 : decode cX6_run 24 = .ok (.iconst 0, 1) := by decide +kernel
theorem dX6_run_25 : decode cX6_run 25 = .ok (.istore_n 2, 1) := by decide +kernel
theorem dX6_run_26 : decode cX6_run 26 = .ok (.iload_n 2, 1) := by decide +kernel
theorem dX6_run_27 : decode cX6_run 27 = .ok (.iload_n 1, 1) := by decide +kernel
theorem dX6_run_28 : decode cX6_run 28 = .ok (.if_icmp .ge 50, 3) := by decide +kernel
theorem dX6_run_31 : decode cX6_run 31 = .ok (.aload_n 0, 1) := by decide +kernel
theorem dX6_run_32 : decode cX6_run 32 = .ok (.getfield 28, 3) := by decide +kernel
theorem dX6_run_35 : decode cX6_run 35 = .ok (.invokevirtual 126, 3) := by decide +kernel
theorem dX6_run_38 : decode cX6_run 38 = .ok (.pop, 1) := by decide +kernel
theorem dX6_run_39 : decode cX6_run 39 = .ok (.aload_n 0, 1) := by decide +kernel
theorem dX6_run_40 : decode cX6_run 40 = .ok (.getfield 28, 3) := by decide +kernel
theorem dX6_run_43 : decode cX6_run 43 = .ok (.iconst 0, 1) := by decide +kernel
theorem dX6_run_44 : decode cX6_run 44 = .ok (.invokevirtual 129, 3) := by decide +kernel
theorem dX6_run_47 : decode cX6_run 47 = .ok (.istore_n 3, 1) := by decide +kernel
theorem dX6_run_48 : decode cX6_run 48 = .ok (.iload_n 3, 1) := by decide +kernel
theorem dX6_run_49 : decode cX6_run 49 = .ok (.iconst (-1), 1) := by decide +kernel
theorem dX6_run_50 : decode cX6_run 50 = .ok (.if_icmp .eq 11, 3) := by decide +kernel
theorem dX6_run_53 : decode cX6_run 53 = .ok (.aload_n 0, 1) := by decide +kernel
theorem dX6_run_54 : decode cX6_run 54 = .ok (.iload_n 3, 1) := by decide +kernel
theorem dX6_run_55 : decode cX6_run 55 = .ok (.invokevirtual 132, 3) := by decide +kernel
theorem dX6_run_58 : decode cX6_run 58 = .ok (.ifCond .ne 5, 3) := by decide +kernel
theorem dX6_run_61 : decode cX6_run 61 = .ok (.iload_n 2, 1) := by decide +kernel
theorem dX6_run_62 : decode cX6_run 62 = .ok (.ireturn, 1) := by decide +kernel
theorem dX6_run_63 : decode cX6_run 63 = .ok (.aload_n 0, 1) := by decide +kernel
theorem dX6_run_64 : decode cX6_run 64 = .ok (.getfield 28, 3) := by decide +kernel
theorem dX6_run_67 : decode cX6_run 67 = .ok (.iload_n 3, 1) := by decide +kernel
theorem dX6_run_68 : decode cX6_run 68 = .ok (.invokevirtual 135, 3) := by decide +kernel
theorem dX6_run_71 : decode cX6_run 71 = .ok (.pop, 1) := by decide +kernel
theorem dX6_run_72 : decode cX6_run 72 = .ok (.iinc 2 1, 3) := by decide +kernel
theorem dX6_run_75 : decode cX6_run 75 = .ok (.goto (-49), 3) := by decide +kernel
theorem dX6_run_78 : decode cX6_run 78 = .ok (.iload_n 1, 1) := by decide +kernel
theorem dX6_run_79 : decode cX6_run 79 = .ok (.ireturn, 1) := by decide +kernel
theorem dX6_join_0 : decode cX6_join 0 = .ok (.aload_n 0, 1) := by decide +kernel
theorem dX6_join_1 : decode cX6_join 1 = .ok (.getfield 28, 3) := by decide +kernel
theorem dX6_join_4 : decode cX6_join 4 = .ok (.iload_n 1, 1) := by decide +kernel
theorem dX6_join_5 : decode cX6_join 5 = .ok (.invokevirtual 120, 3) := by decide +kernel
theorem dX6_join_8 : decode cX6_join 8 = .ok (.ifCond .eq 19, 3) := by decide +kernel
theorem dX6_join_11 : decode cX6_join 11 = .ok (.aload_n 0, 1) := by decide +kernel
theorem dX6_join_12 : decode cX6_join 12 = .ok (.getfield 28, 3) := by decide +kernel
theorem dX6_join_15 : decode cX6_join 15 = .ok (.iload_n 2, 1) := by decide +kernel
theorem dX6_join_16 : decode cX6_join 16 = .ok (.invokevirtual 120, 3) := by decide +kernel
theorem dX6_join_19 : decode cX6_join 19 = .ok (.ifCond .eq 8, 3) := by decide +kernel
theorem dX6_join_22 : decode cX6_join 22 = .ok (.iload_n 1, 1) := by decide +kernel
theorem dX6_join_23 : decode cX6_join 23 = .ok (.iload_n 2, 1) := by decide +kernel
theorem dX6_join_24 : decode cX6_join 24 = .ok (.if_icmp .ne 6, 3) := by decide +kernel
theorem dX6_join_27 : decode cX6_join 27 = .ok (.bipush (-101), 2) := by decide +kernel
theorem dX6_join_29 : decode cX6_join 29 = .ok (.ireturn, 1) := by decide +kernel
theorem dX6_join_30 : decode cX6_join 30 = .ok (.aload_n 0, 1) := by decide +kernel
theorem dX6_join_31 : decode cX6_join 31 = .ok (.getfield 28, 3) := by decide +kernel
theorem dX6_join_34 : decode cX6_join 34 = .ok (.iload_n 1, 1) := by decide +kernel
theorem dX6_join_35 : decode cX6_join 35 = .ok (.iload_n 2, 1) := by decide +kernel
theorem dX6_join_36 : decode cX6_join 36 = .ok (.invokevirtual 138, 3) := by decide +kernel
theorem dX6_join_39 : decode cX6_join 39 = .ok (.aload_n 0, 1) := by decide +kernel
theorem dX6_join_40 : decode cX6_join 40 = .ok (.getfield 28, 3) := by decide +kernel
theorem dX6_join_43 : decode cX6_join 43 = .ok (.invokevirtual 142, 3) := by decide +kernel
theorem dX6_join_46 : decode cX6_join 46 = .ok (.ireturn, 1) := by decide +kernel
theorem dX6_stop_0 : decode cX6_stop 0 = .ok (.aload_n 0, 1) := by decide +kernel
theorem dX6_stop_1 : decode cX6_stop 1 = .ok (.getfield 28, 3) := by decide +kernel
theorem dX6_stop_4 : decode cX6_stop 4 = .ok (.iload_n 1, 1) := by decide +kernel
theorem dX6_stop_5 : decode cX6_stop 5 = .ok (.invokevirtual 120, 3) := by decide +kernel
theorem dX6_stop_8 : decode cX6_stop 8 = .ok (.ifCond .ne 6, 3) := by decide +kernel
theorem dX6_stop_11 : decode cX6_stop 11 = .ok (.bipush (-101), 2) := by decide +kernel
theorem dX6_stop_13 : decode cX6_stop 13 = .ok (.ireturn, 1) := by decide +kernel
theorem dX6_stop_14 : decode cX6_stop 14 = .ok (.aload_n 0, 1) := by decide +kernel
theorem dX6_stop_15 : decode cX6_stop 15 = .ok (.getfield 28, 3) := by decide +kernel
theorem dX6_stop_18 : decode cX6_stop 18 = .ok (.invokevirtual 84, 3) := by decide +kernel
theorem dX6_stop_21 : decode cX6_stop 21 = .ok (.bipush 60, 2) := by decide +kernel
theorem dX6_stop_23 : decode cX6_stop 23 = .ok (.if_icmp .lt 6, 3) := by decide +kernel
theorem dX6_stop_26 : decode cX6_stop 26 = .ok (.bipush (-104), 2) := by decide +kernel
theorem dX6_stop_28 : decode cX6_stop 28 = .ok (.ireturn, 1) := by decide +kernel
theorem dX6_stop_29 : decode cX6_stop 29 = .ok (.aload_n 0, 1) := by decide +kernel
theorem dX6_stop_30 : decode cX6_stop 30 = .ok (.getfield 28, 3) := by decide +kernel
theorem dX6_stop_33 : decode cX6_stop 33 = .ok (.iconst 0, 1) := by decide +kernel
theorem dX6_stop_34 : decode cX6_stop 34 = .ok (.invokevirtual 145, 3) := by decide +kernel
theorem dX6_stop_37 : decode cX6_stop 37 = .ok (.istore_n 2, 1) := by decide +kernel
theorem dX6_stop_38 : decode cX6_stop 38 = .ok (.aload_n 0, 1) := by decide +kernel
theorem dX6_stop_39 : decode cX6_stop 39 = .ok (.getfield 28, 3) := by decide +kernel
theorem dX6_stop_42 : decode cX6_stop 42 = .ok (.iload_n 1, 1) := by decide +kernel
theorem dX6_stop_43 : decode cX6_stop 43 = .ok (.iload_n 2, 1) := by decide +kernel
theorem dX6_stop_44 : decode cX6_stop 44 = .ok (.iconst 0, 1) := by decide +kernel
theorem dX6_stop_45 : decode cX6_stop 45 = .ok (.invokestatic 148, 3) := by decide +kernel
theorem dX6_stop_48 : decode cX6_stop 48 = .ok (.invokevirtual 151, 3) := by decide +kernel
theorem dX6_stop_51 : decode cX6_stop 51 = .ok (.iload_n 2, 1) := by decide +kernel
theorem dX6_stop_52 : decode cX6_stop 52 = .ok (.ireturn, 1) := by decide +kernel
theorem dX6_change_0 : decode cX6_change 0 = .ok (.aload_n 0, 1) := by decide +kernel
theorem dX6_change_1 : decode cX6_change 1 = .ok (.getfield 28, 3) := by decide +kernel
theorem dX6_change_4 : decode cX6_change 4 = .ok (.iload_n 1, 1) := by decide +kernel
theorem dX6_change_5 : decode cX6_change 5 = .ok (.invokevirtual 106, 3) := by decide +kernel
theorem dX6_change_8 : decode cX6_change 8 = .ok (.istore_n 3, 1) := by decide +kernel
theorem dX6_change_9 : decode cX6_change 9 = .ok (.iload_n 3, 1) := by decide +kernel
theorem dX6_change_10 : decode cX6_change 10 = .ok (.iconst 1, 1) := by decide +kernel
theorem dX6_change_11 : decode cX6_change 11 = .ok (.if_icmp .ge 6, 3) := by decide +kernel
theorem dX6_change_14 : decode cX6_change 14 = .ok (.bipush (-101), 2) := by decide +kernel
theorem dX6_change_16 : decode cX6_change 16 = .ok (.ireturn, 1) := by decide +kernel
theorem dX6_change_17 : decode cX6_change 17 = .ok (.iload_n 2, 1) := by decide +kernel
theorem dX6_change_18 : decode cX6_change 18 = .ok (.iconst 1, 1) := by decide +kernel
theorem dX6_change_19 : decode cX6_change 19 = .ok (.if_icmp .lt 8, 3) := by decide +kernel
theorem dX6_change_22 : decode cX6_change 22 = .ok (.iload_n 2, 1) := by decide +kernel
theorem dX6_change_23 : decode cX6_change 23 = .ok (.iconst 3, 1) := by decide +kernel
theorem dX6_change_24 : decode cX6_change 24 = .ok (.if_icmp .le 6, 3) := by decide +kernel
theorem dX6_change_27 : decode cX6_change 27 = .ok (.bipush (-102), 2) := by decide +kernel
theorem dX6_change_29 : decode cX6_change 29 = .ok (.ireturn, 1) := by decide +kernel
theorem dX6_change_30 : decode cX6_change 30 = .ok (.aload_n 0, 1) := by decide +kernel
theorem dX6_change_31 : decode cX6_change 31 = .ok (.getfield 28, 3) := by decide +kernel
theorem dX6_change_34 : decode cX6_change 34 = .ok (.iload_n 1, 1) := by decide +kernel
theorem dX6_change_35 : decode cX6_change 35 = .ok (.iload_n 2, 1) := by decide +kernel
theorem dX6_change_36 : decode cX6_change 36 = .ok (.invokevirtual 154, 3) := by decide +kernel
theorem dX6_change_39 : decode cX6_change 39 = .ok (.iload_n 3, 1) := by decide +kernel
theorem dX6_change_40 : decode cX6_change 40 = .ok (.ireturn, 1) := by decide +kernel
theorem dX6_flip_0 : decode cX6_flip 0 = .ok (.aload_n 0, 1) := by decide +kernel
theorem dX6_flip_1 : decode cX6_flip 1 = .ok (.getfield 28, 3) := by decide +kernel
theorem dX6_flip_4 : decode cX6_flip 4 = .ok (.iload_n 1, 1) := by decide +kernel
theorem dX6_flip_5 : decode cX6_flip 5 = .ok (.invokevirtual 106, 3) := by decide +kernel
theorem dX6_flip_8 : decode cX6_flip 8 = .ok (.iconst 1, 1) := by decide +kernel
theorem dX6_flip_9 : decode cX6_flip 9 = .ok (.if_icmp .ge 6, 3) := by decide +kernel
theorem dX6_flip_12 : decode cX6_flip 12 = .ok (.bipush (-101), 2) := by decide +kernel
theorem dX6_flip_14 : decode cX6_flip 14 = .ok (.ireturn, 1) := by decide +kernel
theorem dX6_flip_15 : decode cX6_flip 15 = .ok (.aload_n 0, 1) := by decide +kernel
theorem dX6_flip_16 : decode cX6_flip 16 = .ok (.getfield 28, 3) := by decide +kernel
theorem dX6_flip_19 : decode cX6_flip 19 = .ok (.iload_n 1, 1) := by decide +kernel
theorem dX6_flip_20 : decode cX6_flip 20 = .ok (.invokevirtual 157, 3) := by decide +kernel
theorem dX6_flip_23 : decode cX6_flip 23 = .ok (.aload_n 0, 1) := by decide +kernel
theorem dX6_flip_24 : decode cX6_flip 24 = .ok (.getfield 28, 3) := by decide +kernel
theorem dX6_flip_27 : decode cX6_flip 27 = .ok (.iload_n 1, 1) := by decide +kernel
theorem dX6_flip_28 : decode cX6_flip 28 = .ok (.iconst 1, 1) := by decide +kernel
theorem dX6_flip_29 : decode cX6_flip 29 = .ok (.invokestatic 148, 3) := by decide +kernel
theorem dX6_flip_32 : decode cX6_flip 32 = .ok (.invokevirtual 123, 3) := by decide +kernel
theorem dX6_flip_35 : decode cX6_flip 35 = .ok (.ireturn, 1) := by decide +kernel
theorem dX6_ending_0 : decode cX6_ending 0 = .ok (.iload_n 1, 1) := by decide +kernel
theorem dX6_ending_1 : decode cX6_ending 1 = .ok (.ifCond .lt 9, 3) := by decide +kernel
theorem dX6_ending_4 : decode cX6_ending 4 = .ok (.iload_n 1, 1) := by decide +kernel
theorem dX6_ending_5 : decode cX6_ending 5 = .ok (.bipush 6, 2) := by decide +kernel
theorem dX6_ending_7 : decode cX6_ending 7 = .ok (.if_icmp .le 6, 3) := by decide +kernel
theorem dX6_ending_10 : decode cX6_ending 10 = .ok (.bipush (-102), 2) := by decide +kernel
theorem dX6_ending_12 : decode cX6_ending 12 = .ok (.ireturn, 1) := by decide +kernel
theorem dX6_ending_13 : decode cX6_ending 13 = .ok (.aload_n 0, 1) := by decide +kernel
theorem dX6_ending_14 : decode cX6_ending 14 = .ok (.getfield 95, 3) := by decide +kernel
theorem dX6_ending_17 : decode cX6_ending 17 = .ok (.ifCond .ne 6, 3) := by decide +kernel
theorem dX6_ending_20 : decode cX6_ending 20 = .ok (.bipush (-103), 2) := by decide +kernel
theorem dX6_ending_22 : decode cX6_ending 22 = .ok (.ireturn, 1) := by decide +kernel
theorem dX6_ending_23 : decode cX6_ending 23 = .ok (.aload_n 0, 1) := by decide +kernel
theorem dX6_ending_24 : decode cX6_ending 24 = .ok (.aload_n 0, 1) := by decide +kernel
theorem dX6_ending_25 : decode cX6_ending 25 = .ok (.aload_n 0, 1) := by decide +kernel
theorem dX6_ending_26 : decode cX6_ending 26 = .ok (.getfield 28, 3) := by decide +kernel
theorem dX6_ending_29 : decode cX6_ending 29 = .ok (.invokevirtual 160, 3) := by decide +kernel
theorem dX6_ending_32 : decode cX6_ending 32 = .ok (.iload_n 1, 1) := by decide +kernel
theorem dX6_ending_33 : decode cX6_ending 33 = .ok (.invokevirtual 164, 3) := by decide +kernel
theorem dX6_ending_36 : decode cX6_ending 36 = .ok (.ireturn, 1) := by decide +kernel
theorem dX6_reading_0 : decode cX6_reading 0 = .ok (.iload_n 1, 1) := by decide +kernel
theorem dX6_reading_1 : decode cX6_reading 1 = .ok (.ifCond .lt 10, 3) := by decide +kernel
theorem dX6_reading_4 : decode cX6_reading 4 = .ok (.iload_n 1, 1) := by decide +kernel
theorem dX6_reading_5 : decode cX6_reading 5 = .ok (.sipush 999, 3) := by decide +kernel
theorem dX6_reading_8 : decode cX6_reading 8 = .ok (.if_icmp .le 6, 3) := by decide +kernel
theorem dX6_reading_11 : decode cX6_reading 11 = .ok (.bipush (-102), 2) := by decide +kernel
theorem dX6_reading_13 : decode cX6_reading 13 = .ok (.ireturn, 1) := by decide +kernel
theorem dX6_reading_14 : decode cX6_reading 14 = .ok (.aload_n 0, 1) := by decide +kernel
theorem dX6_reading_15 : decode cX6_reading 15 = .ok (.getfield 95, 3) := by decide +kernel
theorem dX6_reading_18 : decode cX6_reading 18 = .ok (.ifCond .ne 6, 3) := by decide +kernel
theorem dX6_reading_21 : decode cX6_reading 21 = .ok (.bipush (-103), 2) := by decide +kernel
theorem dX6_reading_23 : decode cX6_reading 23 = .ok (.ireturn, 1) := by decide +kernel
theorem dX6_reading_24 : decode cX6_reading 24 = .ok (.aload_n 0, 1) := by decide +kernel
theorem dX6_reading_25 : decode cX6_reading 25 = .ok (.getfield 51, 3) := by decide +kernel
theorem dX6_reading_28 : decode cX6_reading 28 = .ok (.aload_n 0, 1) := by decide +kernel
theorem dX6_reading_29 : decode cX6_reading 29 = .ok (.getfield 28, 3) := by decide +kernel
theorem dX6_reading_32 : decode cX6_reading 32 = .ok (.invokevirtual 168, 3) := by decide +kernel
theorem dX6_reading_35 : decode cX6_reading 35 = .ok (.aload_n 0, 1) := by decide +kernel
theorem dX6_reading_36 : decode cX6_reading 36 = .ok (.getfield 51, 3) := by decide +kernel
theorem dX6_reading_39 : decode cX6_reading 39 = .ok (.iload_n 1, 1) := by decide +kernel
theorem dX6_reading_40 : decode cX6_reading 40 = .ok (.invokevirtual 171, 3) := by decide +kernel
theorem dX6_reading_43 : decode cX6_reading 43 = .ok (.ireturn, 1) := by decide +kernel
theorem dX6_endReading_0 : decode cX6_endReading 0 = .ok (.iload_n 1, 1) := by decide +kernel
theorem dX6_endReading_1 : decode cX6_endReading 1 = .ok (.ifCond .lt 10, 3) := by decide +kernel
theorem dX6_endReading_4 : decode cX6_endReading 4 = .ok (.iload_n 1, 1) := by decide +kernel
theorem dX6_endReading_5 : decode cX6_endReading 5 = .ok (.sipush 999, 3) := by decide +kernel
theorem dX6_endReading_8 : decode cX6_endReading 8 = .ok (.if_icmp .le 6, 3) := by decide +kernel
theorem dX6_endReading_11 : decode cX6_endReading 11 = .ok (.bipush (-102), 2) := by decide +kernel
theorem dX6_endReading_13 : decode cX6_endReading 13 = .ok (.ireturn, 1) := by decide +kernel
theorem dX6_endReading_14 : decode cX6_endReading 14 = .ok (.aload_n 0, 1) := by decide +kernel
theorem dX6_endReading_15 : decode cX6_endReading 15 = .ok (.getfield 95, 3) := by decide +kernel
theorem dX6_endReading_18 : decode cX6_endReading 18 = .ok (.ifCond .ne 6, 3) := by decide +kernel
theorem dX6_endReading_21 : decode cX6_endReading 21 = .ok (.bipush (-103), 2) := by decide +kernel
theorem dX6_endReading_23 : decode cX6_endReading 23 = .ok (.ireturn, 1) := by decide +kernel
theorem dX6_endReading_24 : decode cX6_endReading 24 = .ok (.aload_n 0, 1) := by decide +kernel
theorem dX6_endReading_25 : decode cX6_endReading 25 = .ok (.aload_n 0, 1) := by decide +kernel
theorem dX6_endReading_26 : decode cX6_endReading 26 = .ok (.getfield 28, 3) := by decide +kernel
theorem dX6_endReading_29 : decode cX6_endReading 29 = .ok (.invokevirtual 160, 3) := by decide +kernel
theorem dX6_endReading_32 : decode cX6_endReading 32 = .ok (.ifCond .ne 6, 3) := by decide +kernel
theorem dX6_endReading_35 : decode cX6_endReading 35 = .ok (.bipush (-2), 2) := by decide +kernel
theorem dX6_endReading_37 : decode cX6_endReading 37 = .ok (.ireturn, 1) := by decide +kernel
theorem dX6_endReading_38 : decode cX6_endReading 38 = .ok (.aload_n 0, 1) := by decide +kernel
theorem dX6_endReading_39 : decode cX6_endReading 39 = .ok (.getfield 51, 3) := by decide +kernel
theorem dX6_endReading_42 : decode cX6_endReading 42 = .ok (.aload_n 0, 1) := by decide +kernel
theorem dX6_endReading_43 : decode cX6_endReading 43 = .ok (.getfield 35, 3) := by decide +kernel
theorem dX6_endReading_46 : decode cX6_endReading 46 = .ok (.invokevirtual 168, 3) := by decide +kernel
theorem dX6_endReading_49 : decode cX6_endReading 49 = .ok (.aload_n 0, 1) := by decide +kernel
theorem dX6_endReading_50 : decode cX6_endReading 50 = .ok (.getfield 51, 3) := by decide +kernel
theorem dX6_endReading_53 : decode cX6_endReading 53 = .ok (.iload_n 1, 1) := by decide +kernel
theorem dX6_endReading_54 : decode cX6_endReading 54 = .ok (.invokevirtual 171, 3) := by decide +kernel
theorem dX6_endReading_57 : decode cX6_endReading 57 = .ok (.ireturn, 1) := by decide +kernel
theorem dX6_same_0 : decode cX6_same 0 = .ok (.aload_n 0, 1) := by decide +kernel
theorem dX6_same_1 : decode cX6_same 1 = .ok (.getfield 95, 3) := by decide +kernel
theorem dX6_same_4 : decode cX6_same 4 = .ok (.ifCond .eq 10, 3) := by decide +kernel
theorem dX6_same_7 : decode cX6_same 7 = .ok (.aload_n 0, 1) := by decide +kernel
theorem dX6_same_8 : decode cX6_same 8 = .ok (.getfield 99, 3) := by decide +kernel
theorem dX6_same_11 : decode cX6_same 11 = .ok (.ifCond .ne 6, 3) := by decide +kernel
theorem dX6_same_14 : decode cX6_same 14 = .ok (.bipush (-103), 2) := by decide +kernel
theorem dX6_same_16 : decode cX6_same 16 = .ok (.ireturn, 1) := by decide +kernel
theorem dX6_same_17 : decode cX6_same 17 = .ok (.aload_n 0, 1) := by decide +kernel
theorem dX6_same_18 : decode cX6_same 18 = .ok (.aload_n 0, 1) := by decide +kernel
theorem dX6_same_19 : decode cX6_same 19 = .ok (.getfield 32, 3) := by decide +kernel
theorem dX6_same_22 : decode cX6_same 22 = .ok (.invokevirtual 160, 3) := by decide +kernel
theorem dX6_same_25 : decode cX6_same 25 = .ok (.ifCond .ne 6, 3) := by decide +kernel
theorem dX6_same_28 : decode cX6_same 28 = .ok (.bipush (-2), 2) := by decide +kernel
theorem dX6_same_30 : decode cX6_same 30 = .ok (.ireturn, 1) := by decide +kernel
theorem dX6_same_31 : decode cX6_same 31 = .ok (.aload_n 0, 1) := by decide +kernel
theorem dX6_same_32 : decode cX6_same 32 = .ok (.getfield 55, 3) := by decide +kernel
theorem dX6_same_35 : decode cX6_same 35 = .ok (.aload_n 0, 1) := by decide +kernel
theorem dX6_same_36 : decode cX6_same 36 = .ok (.getfield 35, 3) := by decide +kernel
theorem dX6_same_39 : decode cX6_same 39 = .ok (.invokevirtual 168, 3) := by decide +kernel
theorem dX6_same_42 : decode cX6_same 42 = .ok (.aload_n 0, 1) := by decide +kernel
theorem dX6_same_43 : decode cX6_same 43 = .ok (.getfield 35, 3) := by decide +kernel
theorem dX6_same_46 : decode cX6_same 46 = .ok (.invokevirtual 142, 3) := by decide +kernel
theorem dX6_same_49 : decode cX6_same 49 = .ok (.istore_n 1, 1) := by decide +kernel
theorem dX6_same_50 : decode cX6_same 50 = .ok (.aload_n 0, 1) := by decide +kernel
theorem dX6_same_51 : decode cX6_same 51 = .ok (.aload_n 0, 1) := by decide +kernel
theorem dX6_same_52 : decode cX6_same 52 = .ok (.getfield 28, 3) := by decide +kernel
theorem dX6_same_55 : decode cX6_same 55 = .ok (.invokevirtual 160, 3) := by decide +kernel
theorem dX6_same_58 : decode cX6_same 58 = .ok (.ifCond .ne 6, 3) := by decide +kernel
theorem dX6_same_61 : decode cX6_same 61 = .ok (.bipush (-2), 2) := by decide +kernel
theorem dX6_same_63 : decode cX6_same 63 = .ok (.ireturn, 1) := by decide +kernel
theorem dX6_same_64 : decode cX6_same 64 = .ok (.aload_n 0, 1) := by decide +kernel
theorem dX6_same_65 : decode cX6_same 65 = .ok (.getfield 51, 3) := by decide +kernel
theorem dX6_same_68 : decode cX6_same 68 = .ok (.aload_n 0, 1) := by decide +kernel
theorem dX6_same_69 : decode cX6_same 69 = .ok (.getfield 35, 3) := by decide +kernel
theorem dX6_same_72 : decode cX6_same 72 = .ok (.invokevirtual 168, 3) := by decide +kernel
theorem dX6_same_75 : decode cX6_same 75 = .ok (.aload_n 0, 1) := by decide +kernel
theorem dX6_same_76 : decode cX6_same 76 = .ok (.getfield 35, 3) := by decide +kernel
theorem dX6_same_79 : decode cX6_same 79 = .ok (.invokevirtual 142, 3) := by decide +kernel
theorem dX6_same_82 : decode cX6_same 82 = .ok (.iload_n 1, 1) := by decide +kernel
theorem dX6_same_83 : decode cX6_same 83 = .ok (.if_icmp .ne 35, 3) := by decide +kernel
theorem dX6_same_86 : decode cX6_same 86 = .ok (.aload_n 0, 1) := by decide +kernel
theorem dX6_same_87 : decode cX6_same 87 = .ok (.getfield 28, 3) := by decide +kernel
theorem dX6_same_90 : decode cX6_same 90 = .ok (.aload_n 0, 1) := by decide +kernel
theorem dX6_same_91 : decode cX6_same 91 = .ok (.getfield 32, 3) := by decide +kernel
theorem dX6_same_94 : decode cX6_same 94 = .ok (.invokevirtual 174, 3) := by decide +kernel
theorem dX6_same_97 : decode cX6_same 97 = .ok (.ifCond .eq 21, 3) := by decide +kernel
theorem dX6_same_100 : decode cX6_same 100 = .ok (.aload_n 0, 1) := by decide +kernel
theorem dX6_same_101 : decode cX6_same 101 = .ok (.getfield 51, 3) := by decide +kernel
theorem dX6_same_104 : decode cX6_same 104 = .ok (.aload_n 0, 1) := by decide +kernel
theorem dX6_same_105 : decode cX6_same 105 = .ok (.getfield 55, 3) := by decide +kernel
theorem dX6_same_108 : decode cX6_same 108 = .ok (.invokevirtual 177, 3) := by decide +kernel
theorem dX6_same_111 : decode cX6_same 111 = .ok (.ifCond .eq 7, 3) := by decide +kernel
theorem dX6_same_114 : decode cX6_same 114 = .ok (.iconst 1, 1) := by decide +kernel
theorem dX6_same_115 : decode cX6_same 115 = .ok (.goto 4, 3) := by decide +kernel
theorem dX6_same_118 : decode cX6_same 118 = .ok (.iconst 0, 1) := by decide +kernel
theorem dX6_same_119 : decode cX6_same 119 = .ok (.istore_n 2, 1) := by decide +kernel
theorem dX6_same_120 : decode cX6_same 120 = .ok (.iload_n 2, 1) := by decide +kernel
theorem dX6_same_121 : decode cX6_same 121 = .ok (.ifCond .eq 7, 3) := by decide +kernel
theorem dX6_same_124 : decode cX6_same 124 = .ok (.iconst 1, 1) := by decide +kernel
theorem dX6_same_125 : decode cX6_same 125 = .ok (.goto 4, 3) := by decide +kernel
theorem dX6_same_128 : decode cX6_same 128 = .ok (.iconst 0, 1) := by decide +kernel
theorem dX6_same_129 : decode cX6_same 129 = .ok (.ireturn, 1) := by decide +kernel
theorem dX6_see_0 : decode cX6_see 0 = .ok (.aload_n 0, 1) := by decide +kernel
theorem dX6_see_1 : decode cX6_see 1 = .ok (.getfield 28, 3) := by decide +kernel
theorem dX6_see_4 : decode cX6_see 4 = .ok (.iload_n 1, 1) := by decide +kernel
theorem dX6_see_5 : decode cX6_see 5 = .ok (.invokevirtual 106, 3) := by decide +kernel
theorem dX6_see_8 : decode cX6_see 8 = .ok (.iconst 1, 1) := by decide +kernel
theorem dX6_see_9 : decode cX6_see 9 = .ok (.if_icmp .ge 6, 3) := by decide +kernel
theorem dX6_see_12 : decode cX6_see 12 = .ok (.bipush (-101), 2) := by decide +kernel
theorem dX6_see_14 : decode cX6_see 14 = .ok (.ireturn, 1) := by decide +kernel
theorem dX6_see_15 : decode cX6_see 15 = .ok (.iload_n 2, 1) := by decide +kernel
theorem dX6_see_16 : decode cX6_see 16 = .ok (.ifCond .lt 19, 3) := by decide +kernel
theorem dX6_see_19 : decode cX6_see 19 = .ok (.iload_n 2, 1) := by decide +kernel
theorem dX6_see_20 : decode cX6_see 20 = .ok (.iconst 4, 1) := by decide +kernel
theorem dX6_see_21 : decode cX6_see 21 = .ok (.if_icmp .ge 14, 3) := by decide +kernel
theorem dX6_see_24 : decode cX6_see 24 = .ok (.iload_n 3, 1) := by decide +kernel
theorem dX6_see_25 : decode cX6_see 25 = .ok (.iconst (-1), 1) := by decide +kernel
theorem dX6_see_26 : decode cX6_see 26 = .ok (.if_icmp .lt 9, 3) := by decide +kernel
theorem dX6_see_29 : decode cX6_see 29 = .ok (.iload_n 3, 1) := by decide +kernel
theorem dX6_see_30 : decode cX6_see 30 = .ok (.bipush 60, 2) := by decide +kernel
theorem dX6_see_32 : decode cX6_see 32 = .ok (.if_icmp .le 6, 3) := by decide +kernel
theorem dX6_see_35 : decode cX6_see 35 = .ok (.bipush (-102), 2) := by decide +kernel
theorem dX6_see_37 : decode cX6_see 37 = .ok (.ireturn, 1) := by decide +kernel
theorem dX6_see_38 : decode cX6_see 38 = .ok (.aload_n 0, 1) := by decide +kernel
theorem dX6_see_39 : decode cX6_see 39 = .ok (.getfield 41, 3) := by decide +kernel
theorem dX6_see_42 : decode cX6_see 42 = .ok (.iload_n 1, 1) := by decide +kernel
theorem dX6_see_43 : decode cX6_see 43 = .ok (.iload_n 2, 1) := by decide +kernel
theorem dX6_see_44 : decode cX6_see 44 = .ok (.iload_n 3, 1) := by decide +kernel
theorem dX6_see_45 : decode cX6_see 45 = .ok (.invokevirtual 181, 3) := by decide +kernel
theorem dX6_see_48 : decode cX6_see 48 = .ok (.ifCond .eq 13, 3) := by decide +kernel
theorem dX6_see_51 : decode cX6_see 51 = .ok (.aload_n 0, 1) := by decide +kernel
theorem dX6_see_52 : decode cX6_see 52 = .ok (.getfield 41, 3) := by decide +kernel
theorem dX6_see_55 : decode cX6_see 55 = .ok (.invokevirtual 184, 3) := by decide +kernel
theorem dX6_see_58 : decode cX6_see 58 = .ok (.goto 5, 3) := by decide +kernel
theorem dX6_see_61 : decode cX6_see 61 = .ok (.bipush (-104), 2) := by decide +kernel
theorem dX6_see_63 : decode cX6_see 63 = .ok (.ireturn, 1) := by decide +kernel
theorem dX6_forget_0 : decode cX6_forget 0 = .ok (.aload_n 0, 1) := by decide +kernel
theorem dX6_forget_1 : decode cX6_forget 1 = .ok (.getfield 41, 3) := by decide +kernel
theorem dX6_forget_4 : decode cX6_forget 4 = .ok (.invokevirtual 94, 3) := by decide +kernel
theorem dX6_forget_7 : decode cX6_forget 7 = .ok (.ireturn, 1) := by decide +kernel
theorem dX6_runs_0 : decode cX6_runs 0 = .ok (.iload_n 1, 1) := by decide +kernel
theorem dX6_runs_1 : decode cX6_runs 1 = .ok (.iconst 1, 1) := by decide +kernel
theorem dX6_runs_2 : decode cX6_runs 2 = .ok (.if_icmp .lt 22, 3) := by decide +kernel
theorem dX6_runs_5 : decode cX6_runs 5 = .ok (.iload_n 1, 1) := by decide +kernel
theorem dX6_runs_6 : decode cX6_runs 6 = .ok (.bipush 60, 2) := by decide +kernel
theorem dX6_runs_8 : decode cX6_runs 8 = .ok (.if_icmp .gt 16, 3) := by decide +kernel
theorem dX6_runs_11 : decode cX6_runs 11 = .ok (.iload_n 2, 1) := by decide +kernel
theorem dX6_runs_12 : decode cX6_runs 12 = .ok (.ifCond .lt 12, 3) := by decide +kernel
theorem dX6_runs_15 : decode cX6_runs 15 = .ok (.iload_n 3, 1) := by decide +kernel
theorem dX6_runs_16 : decode cX6_runs 16 = .ok (.ifCond .lt 8, 3) := by decide +kernel
theorem dX6_runs_19 : decode cX6_runs 19 = .ok (.iload_n 3, 1) := by decide +kernel
theorem dX6_runs_20 : decode cX6_runs 20 = .ok (.iconst 2, 1) := by decide +kernel
theorem dX6_runs_21 : decode cX6_runs 21 = .ok (.if_icmp .le 6, 3) := by decide +kernel
theorem dX6_runs_24 : decode cX6_runs 24 = .ok (.bipush (-102), 2) := by decide +kernel
theorem dX6_runs_26 : decode cX6_runs 26 = .ok (.ireturn, 1) := by decide +kernel
theorem dX6_runs_27 : decode cX6_runs 27 = .ok (.aload_n 0, 1) := by decide +kernel
theorem dX6_runs_28 : decode cX6_runs 28 = .ok (.getfield 95, 3) := by decide +kernel
theorem dX6_runs_31 : decode cX6_runs 31 = .ok (.ifCond .ne 6, 3) := by decide +kernel
theorem dX6_runs_34 : decode cX6_runs 34 = .ok (.bipush (-103), 2) := by decide +kernel
theorem dX6_runs_36 : decode cX6_runs 36 = .ok (.ireturn, 1) := by decide +kernel
theorem dX6_runs_37 : decode cX6_runs 37 = .ok (.aload_n 0, 1) := by decide +kernel
theorem dX6_runs_38 : decode cX6_runs 38 = .ok (.getfield 35, 3) := by decide +kernel
theorem dX6_runs_41 : decode cX6_runs 41 = .ok (.aload_n 0, 1) := by decide +kernel
theorem dX6_runs_42 : decode cX6_runs 42 = .ok (.getfield 28, 3) := by decide +kernel
theorem dX6_runs_45 : decode cX6_runs 45 = .ok (.invokevirtual 91, 3) := by decide +kernel
theorem dX6_runs_48 : decode cX6_runs 48 = .ok (.iload_n 2, 1) := by decide +kernel
theorem dX6_runs_49 : decode cX6_runs 49 = .ok (.istore 4, 2) := by decide +kernel
theorem dX6_runs_51 : decode cX6_runs 51 = .ok (.aload_n 0, 1) := by decide +kernel
theorem dX6_runs_52 : decode cX6_runs 52 = .ok (.getfield 35, 3) := by decide +kernel
theorem dX6_runs_55 : decode cX6_runs 55 = .ok (.invokevirtual 84, 3) := by decide +kernel
theorem dX6_runs_58 : decode cX6_runs 58 = .ok (.istore 5, 2) := by decide +kernel
theorem dX6_runs_60 : decode cX6_runs 60 = .ok (.iconst 0, 1) := by decide +kernel
theorem dX6_runs_61 : decode cX6_runs 61 = .ok (.istore 6, 2) := by decide +kernel
theorem dX6_runs_63 : decode cX6_runs 63 = .ok (.iload 6, 2) := by decide +kernel
theorem dX6_runs_65 : decode cX6_runs 65 = .ok (.iload_n 1, 1) := by decide +kernel
theorem dX6_runs_66 : decode cX6_runs 66 = .ok (.if_icmp .ge 70, 3) := by decide +kernel
theorem dX6_runs_69 : decode cX6_runs 69 = .ok (.aload_n 0, 1) := by decide +kernel
theorem dX6_runs_70 : decode cX6_runs 70 = .ok (.getfield 35, 3) := by decide +kernel
theorem dX6_runs_73 : decode cX6_runs 73 = .ok (.invokevirtual 126, 3) := by decide +kernel
theorem dX6_runs_76 : decode cX6_runs 76 = .ok (.istore 7, 2) := by decide +kernel
theorem dX6_runs_78 : decode cX6_runs 78 = .ok (.iload 7, 2) := by decide +kernel
theorem dX6_runs_80 : decode cX6_runs 80 = .ok (.ifCond .gt 6, 3) := by decide +kernel
theorem dX6_runs_83 : decode cX6_runs 83 = .ok (.goto 53, 3) := by decide +kernel
theorem dX6_runs_86 : decode cX6_runs 86 = .ok (.iload 4, 2) := by decide +kernel
theorem dX6_runs_88 : decode cX6_runs 88 = .ok (.invokestatic 185, 3) := by decide +kernel
theorem dX6_runs_91 : decode cX6_runs 91 = .ok (.istore 4, 2) := by decide +kernel
theorem dX6_runs_93 : decode cX6_runs 93 = .ok (.aload_n 0, 1) := by decide +kernel
theorem dX6_runs_94 : decode cX6_runs 94 = .ok (.getfield 35, 3) := by decide +kernel
theorem dX6_runs_97 : decode cX6_runs 97 = .ok (.aload_n 0, 1) := by decide +kernel
theorem dX6_runs_98 : decode cX6_runs 98 = .ok (.getfield 35, 3) := by decide +kernel
theorem dX6_runs_101 : decode cX6_runs 101 = .ok (.iload 4, 2) := by decide +kernel
theorem dX6_runs_103 : decode cX6_runs 103 = .ok (.ldc 188, 2) := by decide +kernel
theorem dX6_runs_105 : decode cX6_runs 105 = .ok (.idiv, 1) := by decide +kernel
theorem dX6_runs_106 : decode cX6_runs 106 = .ok (.iload 7, 2) := by decide +kernel
theorem dX6_runs_108 : decode cX6_runs 108 = .ok (.irem, 1) := by decide +kernel
theorem dX6_runs_109 : decode cX6_runs 109 = .ok (.invokevirtual 129, 3) := by decide +kernel
theorem dX6_runs_112 : decode cX6_runs 112 = .ok (.invokevirtual 135, 3) := by decide +kernel
theorem dX6_runs_115 : decode cX6_runs 115 = .ok (.pop, 1) := by decide +kernel
theorem dX6_runs_116 : decode cX6_runs 116 = .ok (.iload 5, 2) := by decide +kernel
theorem dX6_runs_118 : decode cX6_runs 118 = .ok (.aload_n 0, 1) := by decide +kernel
theorem dX6_runs_119 : decode cX6_runs 119 = .ok (.getfield 35, 3) := by decide +kernel
theorem dX6_runs_122 : decode cX6_runs 122 = .ok (.invokevirtual 84, 3) := by decide +kernel
theorem dX6_runs_125 : decode cX6_runs 125 = .ok (.invokestatic 189, 3) := by decide +kernel
theorem dX6_runs_128 : decode cX6_runs 128 = .ok (.istore 5, 2) := by decide +kernel
theorem dX6_runs_130 : decode cX6_runs 130 = .ok (.iinc 6 1, 3) := by decide +kernel
theorem dX6_runs_133 : decode cX6_runs 133 = .ok (.goto (-70), 3) := by decide +kernel
theorem dX6_runs_136 : decode cX6_runs 136 = .ok (.iload_n 3, 1) := by decide +kernel
theorem dX6_runs_137 : decode cX6_runs 137 = .ok (.ifCond .ne 8, 3) := by decide +kernel
theorem dX6_runs_140 : decode cX6_runs 140 = .ok (.iload 6, 2) := by decide +kernel
theorem dX6_runs_142 : decode cX6_runs 142 = .ok (.goto 15, 3) := by decide +kernel
theorem dX6_runs_145 : decode cX6_runs 145 = .ok (.iload_n 3, 1) := by decide +kernel
theorem dX6_runs_146 : decode cX6_runs 146 = .ok (.iconst 1, 1) := by decide +kernel
theorem dX6_runs_147 : decode cX6_runs 147 = .ok (.if_icmp .ne 8, 3) := by decide +kernel
theorem dX6_runs_150 : decode cX6_runs 150 = .ok (.iload 5, 2) := by decide +kernel
theorem dX6_runs_152 : decode cX6_runs 152 = .ok (.goto 5, 3) := by decide +kernel
theorem dX6_runs_155 : decode cX6_runs 155 = .ok (.iload 4, 2) := by decide +kernel
theorem dX6_runs_157 : decode cX6_runs 157 = .ok (.ireturn, 1) := by decide +kernel
theorem dX6_image_0 : decode cX6_image 0 = .ok (.aload_n 0, 1) := by decide +kernel
theorem dX6_image_1 : decode cX6_image 1 = .ok (.getfield 95, 3) := by decide +kernel
theorem dX6_image_4 : decode cX6_image 4 = .ok (.ifCond .ne 6, 3) := by decide +kernel
theorem dX6_image_7 : decode cX6_image 7 = .ok (.bipush (-103), 2) := by decide +kernel
theorem dX6_image_9 : decode cX6_image 9 = .ok (.ireturn, 1) := by decide +kernel
theorem dX6_image_10 : decode cX6_image 10 = .ok (.aload_n 0, 1) := by decide +kernel
theorem dX6_image_11 : decode cX6_image 11 = .ok (.getfield 32, 3) := by decide +kernel
theorem dX6_image_14 : decode cX6_image 14 = .ok (.aload_n 0, 1) := by decide +kernel
theorem dX6_image_15 : decode cX6_image 15 = .ok (.getfield 28, 3) := by decide +kernel
theorem dX6_image_18 : decode cX6_image 18 = .ok (.invokevirtual 91, 3) := by decide +kernel
theorem dX6_image_21 : decode cX6_image 21 = .ok (.aload_n 0, 1) := by decide +kernel
theorem dX6_image_22 : decode cX6_image 22 = .ok (.getfield 45, 3) := by decide +kernel
theorem dX6_image_25 : decode cX6_image 25 = .ok (.aload_n 0, 1) := by decide +kernel
theorem dX6_image_26 : decode cX6_image 26 = .ok (.getfield 41, 3) := by decide +kernel
theorem dX6_image_29 : decode cX6_image 29 = .ok (.invokevirtual 194, 3) := by decide +kernel
theorem dX6_image_32 : decode cX6_image 32 = .ok (.aload_n 0, 1) := by decide +kernel
theorem dX6_image_33 : decode cX6_image 33 = .ok (.iconst 1, 1) := by decide +kernel
theorem dX6_image_34 : decode cX6_image 34 = .ok (.putfield 99, 3) := by decide +kernel
theorem dX6_image_37 : decode cX6_image 37 = .ok (.aload_n 0, 1) := by decide +kernel
theorem dX6_image_38 : decode cX6_image 38 = .ok (.getfield 32, 3) := by decide +kernel
theorem dX6_image_41 : decode cX6_image 41 = .ok (.iconst 0, 1) := by decide +kernel
theorem dX6_image_42 : decode cX6_image 42 = .ok (.invokevirtual 197, 3) := by decide +kernel
theorem dX6_image_45 : decode cX6_image 45 = .ok (.ireturn, 1) := by decide +kernel
theorem dX6_restore_0 : decode cX6_restore 0 = .ok (.aload_n 0, 1) := by decide +kernel
theorem dX6_restore_1 : decode cX6_restore 1 = .ok (.getfield 99, 3) := by decide +kernel
theorem dX6_restore_4 : decode cX6_restore 4 = .ok (.ifCond .ne 6, 3) := by decide +kernel
theorem dX6_restore_7 : decode cX6_restore 7 = .ok (.bipush (-103), 2) := by decide +kernel
theorem dX6_restore_9 : decode cX6_restore 9 = .ok (.ireturn, 1) := by decide +kernel
theorem dX6_restore_10 : decode cX6_restore 10 = .ok (.aload_n 0, 1) := by decide +kernel
theorem dX6_restore_11 : decode cX6_restore 11 = .ok (.getfield 28, 3) := by decide +kernel
theorem dX6_restore_14 : decode cX6_restore 14 = .ok (.aload_n 0, 1) := by decide +kernel
theorem dX6_restore_15 : decode cX6_restore 15 = .ok (.getfield 32, 3) := by decide +kernel
theorem dX6_restore_18 : decode cX6_restore 18 = .ok (.invokevirtual 91, 3) := by decide +kernel
theorem dX6_restore_21 : decode cX6_restore 21 = .ok (.aload_n 0, 1) := by decide +kernel
theorem dX6_restore_22 : decode cX6_restore 22 = .ok (.getfield 41, 3) := by decide +kernel
theorem dX6_restore_25 : decode cX6_restore 25 = .ok (.aload_n 0, 1) := by decide +kernel
theorem dX6_restore_26 : decode cX6_restore 26 = .ok (.getfield 45, 3) := by decide +kernel
theorem dX6_restore_29 : decode cX6_restore 29 = .ok (.invokevirtual 194, 3) := by decide +kernel
theorem dX6_restore_32 : decode cX6_restore 32 = .ok (.aload_n 0, 1) := by decide +kernel
theorem dX6_restore_33 : decode cX6_restore 33 = .ok (.getfield 28, 3) := by decide +kernel
theorem dX6_restore_36 : decode cX6_restore 36 = .ok (.iconst 0, 1) := by decide +kernel
theorem dX6_restore_37 : decode cX6_restore 37 = .ok (.invokevirtual 197, 3) := by decide +kernel
theorem dX6_restore_40 : decode cX6_restore 40 = .ok (.ireturn, 1) := by decide +kernel
theorem dX6_count_0 : decode cX6_count 0 = .ok (.iload_n 1, 1) := by decide +kernel
theorem dX6_count_1 : decode cX6_count 1 = .ok (.tableswitch 151 0 14 #[75, 83, 83, 83, 83, 94, 102, 110, 118, 118, 118, 118, 130, 138, 146], 75) := by decide +kernel
theorem dX6_count_76 : decode cX6_count 76 = .ok (.aload_n 0, 1) := by decide +kernel
theorem dX6_count_77 : decode cX6_count 77 = .ok (.getfield 28, 3) := by decide +kernel
theorem dX6_count_80 : decode cX6_count 80 = .ok (.invokevirtual 84, 3) := by decide +kernel
theorem dX6_count_83 : decode cX6_count 83 = .ok (.ireturn, 1) := by decide +kernel
theorem dX6_count_84 : decode cX6_count 84 = .ok (.aload_n 0, 1) := by decide +kernel
theorem dX6_count_85 : decode cX6_count 85 = .ok (.getfield 28, 3) := by decide +kernel
theorem dX6_count_88 : decode cX6_count 88 = .ok (.iload_n 1, 1) := by decide +kernel
theorem dX6_count_89 : decode cX6_count 89 = .ok (.iconst 1, 1) := by decide +kernel
theorem dX6_count_90 : decode cX6_count 90 = .ok (.isub, 1) := by decide +kernel
theorem dX6_count_91 : decode cX6_count 91 = .ok (.invokevirtual 200, 3) := by decide +kernel
theorem dX6_count_94 : decode cX6_count 94 = .ok (.ireturn, 1) := by decide +kernel
theorem dX6_count_95 : decode cX6_count 95 = .ok (.aload_n 0, 1) := by decide +kernel
theorem dX6_count_96 : decode cX6_count 96 = .ok (.getfield 28, 3) := by decide +kernel
theorem dX6_count_99 : decode cX6_count 99 = .ok (.invokevirtual 203, 3) := by decide +kernel
theorem dX6_count_102 : decode cX6_count 102 = .ok (.ireturn, 1) := by decide +kernel
theorem dX6_count_103 : decode cX6_count 103 = .ok (.aload_n 0, 1) := by decide +kernel
theorem dX6_count_104 : decode cX6_count 104 = .ok (.getfield 28, 3) := by decide +kernel
theorem dX6_count_107 : decode cX6_count 107 = .ok (.invokevirtual 142, 3) := by decide +kernel
theorem dX6_count_110 : decode cX6_count 110 = .ok (.ireturn, 1) := by decide +kernel
theorem dX6_count_111 : decode cX6_count 111 = .ok (.aload_n 0, 1) := by decide +kernel
theorem dX6_count_112 : decode cX6_count 112 = .ok (.getfield 28, 3) := by decide +kernel
theorem dX6_count_115 : decode cX6_count 115 = .ok (.invokevirtual 126, 3) := by decide +kernel
theorem dX6_count_118 : decode cX6_count 118 = .ok (.ireturn, 1) := by decide +kernel
theorem dX6_count_119 : decode cX6_count 119 = .ok (.aload_n 0, 1) := by decide +kernel
theorem dX6_count_120 : decode cX6_count 120 = .ok (.getfield 28, 3) := by decide +kernel
theorem dX6_count_123 : decode cX6_count 123 = .ok (.iload_n 1, 1) := by decide +kernel
theorem dX6_count_124 : decode cX6_count 124 = .ok (.bipush 8, 2) := by decide +kernel
theorem dX6_count_126 : decode cX6_count 126 = .ok (.isub, 1) := by decide +kernel
theorem dX6_count_127 : decode cX6_count 127 = .ok (.invokevirtual 197, 3) := by decide +kernel
theorem dX6_count_130 : decode cX6_count 130 = .ok (.ireturn, 1) := by decide +kernel
theorem dX6_count_131 : decode cX6_count 131 = .ok (.aload_n 0, 1) := by decide +kernel
theorem dX6_count_132 : decode cX6_count 132 = .ok (.getfield 41, 3) := by decide +kernel
theorem dX6_count_135 : decode cX6_count 135 = .ok (.invokevirtual 184, 3) := by decide +kernel
theorem dX6_count_138 : decode cX6_count 138 = .ok (.ireturn, 1) := by decide +kernel
theorem dX6_count_139 : decode cX6_count 139 = .ok (.aload_n 0, 1) := by decide +kernel
theorem dX6_count_140 : decode cX6_count 140 = .ok (.getfield 12, 3) := by decide +kernel
theorem dX6_count_143 : decode cX6_count 143 = .ok (.invokevirtual 69, 3) := by decide +kernel
theorem dX6_count_146 : decode cX6_count 146 = .ok (.ireturn, 1) := by decide +kernel
theorem dX6_count_147 : decode cX6_count 147 = .ok (.aload_n 0, 1) := by decide +kernel
theorem dX6_count_148 : decode cX6_count 148 = .ok (.getfield 102, 3) := by decide +kernel
theorem dX6_count_151 : decode cX6_count 151 = .ok (.ireturn, 1) := by decide +kernel
theorem dX6_count_152 : decode cX6_count 152 = .ok (.bipush (-102), 2) := by decide +kernel
theorem dX6_count_154 : decode cX6_count 154 = .ok (.ireturn, 1) := by decide +kernel
theorem dX6_digest_0 : decode cX6_digest 0 = .ok (.aload_n 0, 1) := by decide +kernel
theorem dX6_digest_1 : decode cX6_digest 1 = .ok (.aload_n 0, 1) := by decide +kernel
theorem dX6_digest_2 : decode cX6_digest 2 = .ok (.ldc2_w 206, 3) := by decide +kernel
theorem dX6_digest_5 : decode cX6_digest 5 = .ok (.invokevirtual 208, 3) := by decide +kernel
theorem dX6_digest_8 : decode cX6_digest 8 = .ok (.invokevirtual 212, 3) := by decide +kernel
theorem dX6_digest_11 : decode cX6_digest 11 = .ok (.lstore_n 1, 1) := by decide +kernel
theorem dX6_digest_12 : decode cX6_digest 12 = .ok (.aload_n 0, 1) := by decide +kernel
theorem dX6_digest_13 : decode cX6_digest 13 = .ok (.getfield 95, 3) := by decide +kernel
theorem dX6_digest_16 : decode cX6_digest 16 = .ok (.ifCond .eq 35, 3) := by decide +kernel
theorem dX6_digest_19 : decode cX6_digest 19 = .ok (.aload_n 0, 1) := by decide +kernel
theorem dX6_digest_20 : decode cX6_digest 20 = .ok (.getfield 51, 3) := by decide +kernel
theorem dX6_digest_23 : decode cX6_digest 23 = .ok (.aload_n 0, 1) := by decide +kernel
theorem dX6_digest_24 : decode cX6_digest 24 = .ok (.getfield 28, 3) := by decide +kernel
theorem dX6_digest_27 : decode cX6_digest 27 = .ok (.invokevirtual 168, 3) := by decide +kernel
theorem dX6_digest_30 : decode cX6_digest 30 = .ok (.aload_n 0, 1) := by decide +kernel
theorem dX6_digest_31 : decode cX6_digest 31 = .ok (.aload_n 0, 1) := by decide +kernel
theorem dX6_digest_32 : decode cX6_digest 32 = .ok (.getfield 51, 3) := by decide +kernel
theorem dX6_digest_35 : decode cX6_digest 35 = .ok (.lload_n 1, 1) := by decide +kernel
theorem dX6_digest_36 : decode cX6_digest 36 = .ok (.invokevirtual 215, 3) := by decide +kernel
theorem dX6_digest_39 : decode cX6_digest 39 = .ok (.aload_n 0, 1) := by decide +kernel
theorem dX6_digest_40 : decode cX6_digest 40 = .ok (.aload_n 0, 1) := by decide +kernel
theorem dX6_digest_41 : decode cX6_digest 41 = .ok (.getfield 28, 3) := by decide +kernel
theorem dX6_digest_44 : decode cX6_digest 44 = .ok (.invokevirtual 160, 3) := by decide +kernel
theorem dX6_digest_47 : decode cX6_digest 47 = .ok (.invokevirtual 218, 3) := by decide +kernel
theorem dX6_digest_50 : decode cX6_digest 50 = .ok (.lstore_n 1, 1) := by decide +kernel
theorem dX6_digest_51 : decode cX6_digest 51 = .ok (.aload_n 0, 1) := by decide +kernel
theorem dX6_digest_52 : decode cX6_digest 52 = .ok (.getfield 12, 3) := by decide +kernel
theorem dX6_digest_55 : decode cX6_digest 55 = .ok (.lload_n 1, 1) := by decide +kernel
theorem dX6_digest_56 : decode cX6_digest 56 = .ok (.invokevirtual 222, 3) := by decide +kernel
theorem dX6_digest_59 : decode cX6_digest 59 = .ok (.lstore_n 1, 1) := by decide +kernel
theorem dX6_digest_60 : decode cX6_digest 60 = .ok (.iconst 0, 1) := by decide +kernel
theorem dX6_digest_61 : decode cX6_digest 61 = .ok (.istore_n 3, 1) := by decide +kernel
theorem dX6_digest_62 : decode cX6_digest 62 = .ok (.iload_n 3, 1) := by decide +kernel
theorem dX6_digest_63 : decode cX6_digest 63 = .ok (.bipush 14, 2) := by decide +kernel
theorem dX6_digest_65 : decode cX6_digest 65 = .ok (.if_icmp .gt 22, 3) := by decide +kernel
theorem dX6_digest_68 : decode cX6_digest 68 = .ok (.ldc2_w 223, 3) := by decide +kernel
theorem dX6_digest_71 : decode cX6_digest 71 = .ok (.lload_n 1, 1) := by decide +kernel
theorem dX6_digest_72 : decode cX6_digest 72 = .ok (.lmul, 1) := by decide +kernel
theorem dX6_digest_73 : decode cX6_digest 73 = .ok (.aload_n 0, 1) := by decide +kernel
theorem dX6_digest_74 : decode cX6_digest 74 = .ok (.iload_n 3, 1) := by decide +kernel
theorem dX6_digest_75 : decode cX6_digest 75 = .ok (.invokevirtual 225, 3) := by decide +kernel
theorem dX6_digest_78 : decode cX6_digest 78 = .ok (.i2l, 1) := by decide +kernel
theorem dX6_digest_79 : decode cX6_digest 79 = .ok (.ladd, 1) := by decide +kernel
theorem dX6_digest_80 : decode cX6_digest 80 = .ok (.lstore_n 1, 1) := by decide +kernel
theorem dX6_digest_81 : decode cX6_digest 81 = .ok (.iinc 3 1, 3) := by decide +kernel
theorem dX6_digest_84 : decode cX6_digest 84 = .ok (.goto (-22), 3) := by decide +kernel
theorem dX6_digest_87 : decode cX6_digest 87 = .ok (.lload_n 1, 1) := by decide +kernel
theorem dX6_digest_88 : decode cX6_digest 88 = .ok (.lreturn, 1) := by decide +kernel
theorem dX6_hashOfNodes_0 : decode cX6_hashOfNodes 0 = .ok (.lload_n 1, 1) := by decide +kernel
theorem dX6_hashOfNodes_1 : decode cX6_hashOfNodes 1 = .ok (.lstore_n 3, 1) := by decide +kernel
theorem dX6_hashOfNodes_2 : decode cX6_hashOfNodes 2 = .ok (.iconst 0, 1) := by decide +kernel
theorem dX6_hashOfNodes_3 : decode cX6_hashOfNodes 3 = .ok (.istore 5, 2) := by decide +kernel
theorem dX6_hashOfNodes_5 : decode cX6_hashOfNodes 5 = .ok (.iload 5, 2) := by decide +kernel
theorem dX6_hashOfNodes_7 : decode cX6_hashOfNodes 7 = .ok (.bipush 60, 2) := by decide +kernel
theorem dX6_hashOfNodes_9 : decode cX6_hashOfNodes 9 = .ok (.if_icmp .ge 63, 3) := by decide +kernel
theorem dX6_hashOfNodes_12 : decode cX6_hashOfNodes 12 = .ok (.aload_n 0, 1) := by decide +kernel
theorem dX6_hashOfNodes_13 : decode cX6_hashOfNodes 13 = .ok (.getfield 28, 3) := by decide +kernel
theorem dX6_hashOfNodes_16 : decode cX6_hashOfNodes 16 = .ok (.iload 5, 2) := by decide +kernel
theorem dX6_hashOfNodes_18 : decode cX6_hashOfNodes 18 = .ok (.invokevirtual 106, 3) := by decide +kernel
theorem dX6_hashOfNodes_21 : decode cX6_hashOfNodes 21 = .ok (.iconst (-1), 1) := by decide +kernel
theorem dX6_hashOfNodes_22 : decode cX6_hashOfNodes 22 = .ok (.if_icmp .eq 44, 3) := by decide +kernel
theorem dX6_hashOfNodes_25 : decode cX6_hashOfNodes 25 = .ok (.ldc2_w 223, 3) := by decide +kernel
theorem dX6_hashOfNodes_28 : decode cX6_hashOfNodes 28 = .ok (.lload_n 3, 1) := by decide +kernel
theorem dX6_hashOfNodes_29 : decode cX6_hashOfNodes 29 = .ok (.lmul, 1) := by decide +kernel
theorem dX6_hashOfNodes_30 : decode cX6_hashOfNodes 30 = .ok (.iload 5, 2) := by decide +kernel
theorem dX6_hashOfNodes_32 : decode cX6_hashOfNodes 32 = .ok (.i2l, 1) := by decide +kernel
theorem dX6_hashOfNodes_33 : decode cX6_hashOfNodes 33 = .ok (.ladd, 1) := by decide +kernel
theorem dX6_hashOfNodes_34 : decode cX6_hashOfNodes 34 = .ok (.lstore_n 3, 1) := by decide +kernel
theorem dX6_hashOfNodes_35 : decode cX6_hashOfNodes 35 = .ok (.iconst 0, 1) := by decide +kernel
theorem dX6_hashOfNodes_36 : decode cX6_hashOfNodes 36 = .ok (.istore 6, 2) := by decide +kernel
theorem dX6_hashOfNodes_38 : decode cX6_hashOfNodes 38 = .ok (.iload 6, 2) := by decide +kernel
theorem dX6_hashOfNodes_40 : decode cX6_hashOfNodes 40 = .ok (.iconst 4, 1) := by decide +kernel
theorem dX6_hashOfNodes_41 : decode cX6_hashOfNodes 41 = .ok (.if_icmp .gt 25, 3) := by decide +kernel
theorem dX6_hashOfNodes_44 : decode cX6_hashOfNodes 44 = .ok (.ldc2_w 223, 3) := by decide +kernel
theorem dX6_hashOfNodes_47 : decode cX6_hashOfNodes 47 = .ok (.lload_n 3, 1) := by decide +kernel
theorem dX6_hashOfNodes_48 : decode cX6_hashOfNodes 48 = .ok (.lmul, 1) := by decide +kernel
theorem dX6_hashOfNodes_49 : decode cX6_hashOfNodes 49 = .ok (.aload_n 0, 1) := by decide +kernel
theorem dX6_hashOfNodes_50 : decode cX6_hashOfNodes 50 = .ok (.iload 5, 2) := by decide +kernel
theorem dX6_hashOfNodes_52 : decode cX6_hashOfNodes 52 = .ok (.iload 6, 2) := by decide +kernel
theorem dX6_hashOfNodes_54 : decode cX6_hashOfNodes 54 = .ok (.invokevirtual 110, 3) := by decide +kernel
theorem dX6_hashOfNodes_57 : decode cX6_hashOfNodes 57 = .ok (.i2l, 1) := by decide +kernel
theorem dX6_hashOfNodes_58 : decode cX6_hashOfNodes 58 = .ok (.ladd, 1) := by decide +kernel
theorem dX6_hashOfNodes_59 : decode cX6_hashOfNodes 59 = .ok (.lstore_n 3, 1) := by decide +kernel
theorem dX6_hashOfNodes_60 : decode cX6_hashOfNodes 60 = .ok (.iinc 6 1, 3) := by decide +kernel
theorem dX6_hashOfNodes_63 : decode cX6_hashOfNodes 63 = .ok (.goto (-25), 3) := by decide +kernel
theorem dX6_hashOfNodes_66 : decode cX6_hashOfNodes 66 = .ok (.iinc 5 1, 3) := by decide +kernel
theorem dX6_hashOfNodes_69 : decode cX6_hashOfNodes 69 = .ok (.goto (-64), 3) := by decide +kernel
theorem dX6_hashOfNodes_72 : decode cX6_hashOfNodes 72 = .ok (.lload_n 3, 1) := by decide +kernel
theorem dX6_hashOfNodes_73 : decode cX6_hashOfNodes 73 = .ok (.lreturn, 1) := by decide +kernel
theorem dX6_hashOfWires_0 : decode cX6_hashOfWires 0 = .ok (.lload_n 1, 1) := by decide +kernel
theorem dX6_hashOfWires_1 : decode cX6_hashOfWires 1 = .ok (.lstore_n 3, 1) := by decide +kernel
theorem dX6_hashOfWires_2 : decode cX6_hashOfWires 2 = .ok (.iconst 0, 1) := by decide +kernel
theorem dX6_hashOfWires_3 : decode cX6_hashOfWires 3 = .ok (.istore 5, 2) := by decide +kernel
theorem dX6_hashOfWires_5 : decode cX6_hashOfWires 5 = .ok (.iload 5, 2) := by decide +kernel
theorem dX6_hashOfWires_7 : decode cX6_hashOfWires 7 = .ok (.bipush 8, 2) := by decide +kernel
theorem dX6_hashOfWires_9 : decode cX6_hashOfWires 9 = .ok (.if_icmp .ge 48, 3) := by decide +kernel
theorem dX6_hashOfWires_12 : decode cX6_hashOfWires 12 = .ok (.aload_n 0, 1) := by decide +kernel
theorem dX6_hashOfWires_13 : decode cX6_hashOfWires 13 = .ok (.getfield 28, 3) := by decide +kernel
theorem dX6_hashOfWires_16 : decode cX6_hashOfWires 16 = .ok (.iload 5, 2) := by decide +kernel
theorem dX6_hashOfWires_18 : decode cX6_hashOfWires 18 = .ok (.invokevirtual 120, 3) := by decide +kernel
theorem dX6_hashOfWires_21 : decode cX6_hashOfWires 21 = .ok (.ifCond .eq 30, 3) := by decide +kernel
theorem dX6_hashOfWires_24 : decode cX6_hashOfWires 24 = .ok (.ldc2_w 223, 3) := by decide +kernel
theorem dX6_hashOfWires_27 : decode cX6_hashOfWires 27 = .ok (.lload_n 3, 1) := by decide +kernel
theorem dX6_hashOfWires_28 : decode cX6_hashOfWires 28 = .ok (.lmul, 1) := by decide +kernel
theorem dX6_hashOfWires_29 : decode cX6_hashOfWires 29 = .ok (.iload 5, 2) := by decide +kernel
theorem dX6_hashOfWires_31 : decode cX6_hashOfWires 31 = .ok (.i2l, 1) := by decide +kernel
theorem dX6_hashOfWires_32 : decode cX6_hashOfWires 32 = .ok (.ladd, 1) := by decide +kernel
theorem dX6_hashOfWires_33 : decode cX6_hashOfWires 33 = .ok (.lstore_n 3, 1) := by decide +kernel
theorem dX6_hashOfWires_34 : decode cX6_hashOfWires 34 = .ok (.ldc2_w 223, 3) := by decide +kernel
theorem dX6_hashOfWires_37 : decode cX6_hashOfWires 37 = .ok (.lload_n 3, 1) := by decide +kernel
theorem dX6_hashOfWires_38 : decode cX6_hashOfWires 38 = .ok (.lmul, 1) := by decide +kernel
theorem dX6_hashOfWires_39 : decode cX6_hashOfWires 39 = .ok (.aload_n 0, 1) := by decide +kernel
theorem dX6_hashOfWires_40 : decode cX6_hashOfWires 40 = .ok (.getfield 28, 3) := by decide +kernel
theorem dX6_hashOfWires_43 : decode cX6_hashOfWires 43 = .ok (.iload 5, 2) := by decide +kernel
theorem dX6_hashOfWires_45 : decode cX6_hashOfWires 45 = .ok (.invokevirtual 123, 3) := by decide +kernel
theorem dX6_hashOfWires_48 : decode cX6_hashOfWires 48 = .ok (.i2l, 1) := by decide +kernel
theorem dX6_hashOfWires_49 : decode cX6_hashOfWires 49 = .ok (.ladd, 1) := by decide +kernel
theorem dX6_hashOfWires_50 : decode cX6_hashOfWires 50 = .ok (.lstore_n 3, 1) := by decide +kernel
theorem dX6_hashOfWires_51 : decode cX6_hashOfWires 51 = .ok (.iinc 5 1, 3) := by decide +kernel
theorem dX6_hashOfWires_54 : decode cX6_hashOfWires 54 = .ok (.goto (-49), 3) := by decide +kernel
theorem dX6_hashOfWires_57 : decode cX6_hashOfWires 57 = .ok (.lload_n 3, 1) := by decide +kernel
theorem dX6_hashOfWires_58 : decode cX6_hashOfWires 58 = .ok (.lreturn, 1) := by decide +kernel
theorem dX6_hashOfEnding_0 : decode cX6_hashOfEnding 0 = .ok (.lload_n 1, 1) := by decide +kernel
theorem dX6_hashOfEnding_1 : decode cX6_hashOfEnding 1 = .ok (.lstore 4, 2) := by decide +kernel
theorem dX6_hashOfEnding_3 : decode cX6_hashOfEnding 3 = .ok (.iconst 0, 1) := by decide +kernel
theorem dX6_hashOfEnding_4 : decode cX6_hashOfEnding 4 = .ok (.istore 6, 2) := by decide +kernel
theorem dX6_hashOfEnding_6 : decode cX6_hashOfEnding 6 = .ok (.iload 6, 2) := by decide +kernel
theorem dX6_hashOfEnding_8 : decode cX6_hashOfEnding 8 = .ok (.bipush 6, 2) := by decide +kernel
theorem dX6_hashOfEnding_10 : decode cX6_hashOfEnding 10 = .ok (.if_icmp .gt 26, 3) := by decide +kernel
theorem dX6_hashOfEnding_13 : decode cX6_hashOfEnding 13 = .ok (.ldc2_w 223, 3) := by decide +kernel
theorem dX6_hashOfEnding_16 : decode cX6_hashOfEnding 16 = .ok (.lload 4, 2) := by decide +kernel
theorem dX6_hashOfEnding_18 : decode cX6_hashOfEnding 18 = .ok (.lmul, 1) := by decide +kernel
theorem dX6_hashOfEnding_19 : decode cX6_hashOfEnding 19 = .ok (.aload_n 0, 1) := by decide +kernel
theorem dX6_hashOfEnding_20 : decode cX6_hashOfEnding 20 = .ok (.iload_n 3, 1) := by decide +kernel
theorem dX6_hashOfEnding_21 : decode cX6_hashOfEnding 21 = .ok (.iload 6, 2) := by decide +kernel
theorem dX6_hashOfEnding_23 : decode cX6_hashOfEnding 23 = .ok (.invokevirtual 164, 3) := by decide +kernel
theorem dX6_hashOfEnding_26 : decode cX6_hashOfEnding 26 = .ok (.i2l, 1) := by decide +kernel
theorem dX6_hashOfEnding_27 : decode cX6_hashOfEnding 27 = .ok (.ladd, 1) := by decide +kernel
theorem dX6_hashOfEnding_28 : decode cX6_hashOfEnding 28 = .ok (.lstore 4, 2) := by decide +kernel
theorem dX6_hashOfEnding_30 : decode cX6_hashOfEnding 30 = .ok (.iinc 6 1, 3) := by decide +kernel
theorem dX6_hashOfEnding_33 : decode cX6_hashOfEnding 33 = .ok (.goto (-27), 3) := by decide +kernel
theorem dX6_hashOfEnding_36 : decode cX6_hashOfEnding 36 = .ok (.iload_n 3, 1) := by decide +kernel
theorem dX6_hashOfEnding_37 : decode cX6_hashOfEnding 37 = .ok (.ifCond .eq 25, 3) := by decide +kernel
theorem dX6_hashOfEnding_40 : decode cX6_hashOfEnding 40 = .ok (.aload_n 0, 1) := by decide +kernel
theorem dX6_hashOfEnding_41 : decode cX6_hashOfEnding 41 = .ok (.getfield 51, 3) := by decide +kernel
theorem dX6_hashOfEnding_44 : decode cX6_hashOfEnding 44 = .ok (.aload_n 0, 1) := by decide +kernel
theorem dX6_hashOfEnding_45 : decode cX6_hashOfEnding 45 = .ok (.getfield 35, 3) := by decide +kernel
theorem dX6_hashOfEnding_48 : decode cX6_hashOfEnding 48 = .ok (.invokevirtual 168, 3) := by decide +kernel
theorem dX6_hashOfEnding_51 : decode cX6_hashOfEnding 51 = .ok (.aload_n 0, 1) := by decide +kernel
theorem dX6_hashOfEnding_52 : decode cX6_hashOfEnding 52 = .ok (.getfield 51, 3) := by decide +kernel
theorem dX6_hashOfEnding_55 : decode cX6_hashOfEnding 55 = .ok (.lload 4, 2) := by decide +kernel
theorem dX6_hashOfEnding_57 : decode cX6_hashOfEnding 57 = .ok (.invokevirtual 215, 3) := by decide +kernel
theorem dX6_hashOfEnding_60 : decode cX6_hashOfEnding 60 = .ok (.lstore 4, 2) := by decide +kernel
theorem dX6_hashOfEnding_62 : decode cX6_hashOfEnding 62 = .ok (.lload 4, 2) := by decide +kernel
theorem dX6_hashOfEnding_64 : decode cX6_hashOfEnding 64 = .ok (.lreturn, 1) := by decide +kernel
theorem dX6_toldOfNode_0 : decode cX6_toldOfNode 0 = .ok (.aload_n 0, 1) := by decide +kernel
theorem dX6_toldOfNode_1 : decode cX6_toldOfNode 1 = .ok (.getfield 28, 3) := by decide +kernel
theorem dX6_toldOfNode_4 : decode cX6_toldOfNode 4 = .ok (.iload_n 1, 1) := by decide +kernel
theorem dX6_toldOfNode_5 : decode cX6_toldOfNode 5 = .ok (.invokevirtual 106, 3) := by decide +kernel
theorem dX6_toldOfNode_8 : decode cX6_toldOfNode 8 = .ok (.istore_n 3, 1) := by decide +kernel
theorem dX6_toldOfNode_9 : decode cX6_toldOfNode 9 = .ok (.iload_n 2, 1) := by decide +kernel
theorem dX6_toldOfNode_10 : decode cX6_toldOfNode 10 = .ok (.ifCond .ne 5, 3) := by decide +kernel
theorem dX6_toldOfNode_13 : decode cX6_toldOfNode 13 = .ok (.iload_n 3, 1) := by decide +kernel
theorem dX6_toldOfNode_14 : decode cX6_toldOfNode 14 = .ok (.ireturn, 1) := by decide +kernel
theorem dX6_toldOfNode_15 : decode cX6_toldOfNode 15 = .ok (.iload_n 2, 1) := by decide +kernel
theorem dX6_toldOfNode_16 : decode cX6_toldOfNode 16 = .ok (.iconst 4, 1) := by decide +kernel
theorem dX6_toldOfNode_17 : decode cX6_toldOfNode 17 = .ok (.if_icmp .ne 12, 3) := by decide +kernel
theorem dX6_toldOfNode_20 : decode cX6_toldOfNode 20 = .ok (.aload_n 0, 1) := by decide +kernel
theorem dX6_toldOfNode_21 : decode cX6_toldOfNode 21 = .ok (.getfield 28, 3) := by decide +kernel
theorem dX6_toldOfNode_24 : decode cX6_toldOfNode 24 = .ok (.iload_n 1, 1) := by decide +kernel
theorem dX6_toldOfNode_25 : decode cX6_toldOfNode 25 = .ok (.invokevirtual 228, 3) := by decide +kernel
theorem dX6_toldOfNode_28 : decode cX6_toldOfNode 28 = .ok (.ireturn, 1) := by decide +kernel
theorem dX6_toldOfNode_29 : decode cX6_toldOfNode 29 = .ok (.iload_n 3, 1) := by decide +kernel
theorem dX6_toldOfNode_30 : decode cX6_toldOfNode 30 = .ok (.ifCond .ne 12, 3) := by decide +kernel
theorem dX6_toldOfNode_33 : decode cX6_toldOfNode 33 = .ok (.iload_n 2, 1) := by decide +kernel
theorem dX6_toldOfNode_34 : decode cX6_toldOfNode 34 = .ok (.iconst 1, 1) := by decide +kernel
theorem dX6_toldOfNode_35 : decode cX6_toldOfNode 35 = .ok (.if_icmp .le 7, 3) := by decide +kernel
theorem dX6_toldOfNode_38 : decode cX6_toldOfNode 38 = .ok (.iconst (-1), 1) := by decide +kernel
theorem dX6_toldOfNode_39 : decode cX6_toldOfNode 39 = .ok (.goto 17, 3) := by decide +kernel
theorem dX6_toldOfNode_42 : decode cX6_toldOfNode 42 = .ok (.aload_n 0, 1) := by decide +kernel
theorem dX6_toldOfNode_43 : decode cX6_toldOfNode 43 = .ok (.getfield 28, 3) := by decide +kernel
theorem dX6_toldOfNode_46 : decode cX6_toldOfNode 46 = .ok (.iload_n 1, 1) := by decide +kernel
theorem dX6_toldOfNode_47 : decode cX6_toldOfNode 47 = .ok (.iload_n 2, 1) := by decide +kernel
theorem dX6_toldOfNode_48 : decode cX6_toldOfNode 48 = .ok (.iconst 1, 1) := by decide +kernel
theorem dX6_toldOfNode_49 : decode cX6_toldOfNode 49 = .ok (.isub, 1) := by decide +kernel
theorem dX6_toldOfNode_50 : decode cX6_toldOfNode 50 = .ok (.invokestatic 148, 3) := by decide +kernel
theorem dX6_toldOfNode_53 : decode cX6_toldOfNode 53 = .ok (.invokevirtual 123, 3) := by decide +kernel
theorem dX6_toldOfNode_56 : decode cX6_toldOfNode 56 = .ok (.ireturn, 1) := by decide +kernel
theorem dX6_hasRoomFor_0 : decode cX6_hasRoomFor 0 = .ok (.aload_n 0, 1) := by decide +kernel
theorem dX6_hasRoomFor_1 : decode cX6_hasRoomFor 1 = .ok (.getfield 28, 3) := by decide +kernel
theorem dX6_hasRoomFor_4 : decode cX6_hasRoomFor 4 = .ok (.iload_n 1, 1) := by decide +kernel
theorem dX6_hasRoomFor_5 : decode cX6_hasRoomFor 5 = .ok (.invokevirtual 106, 3) := by decide +kernel
theorem dX6_hasRoomFor_8 : decode cX6_hasRoomFor 8 = .ok (.aload_n 0, 1) := by decide +kernel
theorem dX6_hasRoomFor_9 : decode cX6_hasRoomFor 9 = .ok (.getfield 28, 3) := by decide +kernel
theorem dX6_hasRoomFor_12 : decode cX6_hasRoomFor 12 = .ok (.aload_n 0, 1) := by decide +kernel
theorem dX6_hasRoomFor_13 : decode cX6_hasRoomFor 13 = .ok (.getfield 28, 3) := by decide +kernel
theorem dX6_hasRoomFor_16 : decode cX6_hasRoomFor 16 = .ok (.iload_n 1, 1) := by decide +kernel
theorem dX6_hasRoomFor_17 : decode cX6_hasRoomFor 17 = .ok (.invokevirtual 228, 3) := by decide +kernel
theorem dX6_hasRoomFor_20 : decode cX6_hasRoomFor 20 = .ok (.invokevirtual 106, 3) := by decide +kernel
theorem dX6_hasRoomFor_23 : decode cX6_hasRoomFor 23 = .ok (.invokestatic 231, 3) := by decide +kernel
theorem dX6_hasRoomFor_26 : decode cX6_hasRoomFor 26 = .ok (.istore_n 2, 1) := by decide +kernel
theorem dX6_hasRoomFor_27 : decode cX6_hasRoomFor 27 = .ok (.iload_n 2, 1) := by decide +kernel
theorem dX6_hasRoomFor_28 : decode cX6_hasRoomFor 28 = .ok (.iconst 2, 1) := by decide +kernel
theorem dX6_hasRoomFor_29 : decode cX6_hasRoomFor 29 = .ok (.if_icmp .ne 17, 3) := by decide +kernel
theorem dX6_hasRoomFor_32 : decode cX6_hasRoomFor 32 = .ok (.aload_n 0, 1) := by decide +kernel
theorem dX6_hasRoomFor_33 : decode cX6_hasRoomFor 33 = .ok (.getfield 28, 3) := by decide +kernel
theorem dX6_hasRoomFor_36 : decode cX6_hasRoomFor 36 = .ok (.invokevirtual 84, 3) := by decide +kernel
theorem dX6_hasRoomFor_39 : decode cX6_hasRoomFor 39 = .ok (.iconst 2, 1) := by decide +kernel
theorem dX6_hasRoomFor_40 : decode cX6_hasRoomFor 40 = .ok (.iadd, 1) := by decide +kernel
theorem dX6_hasRoomFor_41 : decode cX6_hasRoomFor 41 = .ok (.bipush 60, 2) := by decide +kernel
theorem dX6_hasRoomFor_43 : decode cX6_hasRoomFor 43 = .ok (.if_icmp .gt 7, 3) := by decide +kernel
theorem dX6_hasRoomFor_46 : decode cX6_hasRoomFor 46 = .ok (.iconst 1, 1) := by decide +kernel
theorem dX6_hasRoomFor_47 : decode cX6_hasRoomFor 47 = .ok (.goto 4, 3) := by decide +kernel
theorem dX6_hasRoomFor_50 : decode cX6_hasRoomFor 50 = .ok (.iconst 0, 1) := by decide +kernel
theorem dX6_hasRoomFor_51 : decode cX6_hasRoomFor 51 = .ok (.ireturn, 1) := by decide +kernel
theorem dX6_findEnding_0 : decode cX6_findEnding 0 = .ok (.aload_n 0, 1) := by decide +kernel
theorem dX6_findEnding_1 : decode cX6_findEnding 1 = .ok (.getfield 35, 3) := by decide +kernel
theorem dX6_findEnding_4 : decode cX6_findEnding 4 = .ok (.aload_n 1, 1) := by decide +kernel
theorem dX6_findEnding_5 : decode cX6_findEnding 5 = .ok (.invokevirtual 91, 3) := by decide +kernel
theorem dX6_findEnding_8 : decode cX6_findEnding 8 = .ok (.aload_n 0, 1) := by decide +kernel
theorem dX6_findEnding_9 : decode cX6_findEnding 9 = .ok (.getfield 35, 3) := by decide +kernel
theorem dX6_findEnding_12 : decode cX6_findEnding 12 = .ok (.invokevirtual 234, 3) := by decide +kernel
theorem dX6_findEnding_15 : decode cX6_findEnding 15 = .ok (.ireturn, 1) := by decide +kernel
theorem dX6_toldOfEnding_0 : decode cX6_toldOfEnding 0 = .ok (.iload_n 1, 1) := by decide +kernel
theorem dX6_toldOfEnding_1 : decode cX6_toldOfEnding 1 = .ok (.ifCond .ne 5, 3) := by decide +kernel
theorem dX6_toldOfEnding_4 : decode cX6_toldOfEnding 4 = .ok (.iconst (-1), 1) := by decide +kernel
theorem dX6_toldOfEnding_5 : decode cX6_toldOfEnding 5 = .ok (.ireturn, 1) := by decide +kernel
theorem dX6_toldOfEnding_6 : decode cX6_toldOfEnding 6 = .ok (.iload_n 2, 1) := by decide +kernel
theorem dX6_toldOfEnding_7 : decode cX6_toldOfEnding 7 = .ok (.tableswitch 49 4 6 #[25, 33, 41], 25) := by decide +kernel
theorem dX6_toldOfEnding_32 : decode cX6_toldOfEnding 32 = .ok (.aload_n 0, 1) := by decide +kernel
theorem dX6_toldOfEnding_33 : decode cX6_toldOfEnding 33 = .ok (.getfield 35, 3) := by decide +kernel
theorem dX6_toldOfEnding_36 : decode cX6_toldOfEnding 36 = .ok (.invokevirtual 237, 3) := by decide +kernel
theorem dX6_toldOfEnding_39 : decode cX6_toldOfEnding 39 = .ok (.ireturn, 1) := by decide +kernel
theorem dX6_toldOfEnding_40 : decode cX6_toldOfEnding 40 = .ok (.aload_n 0, 1) := by decide +kernel
theorem dX6_toldOfEnding_41 : decode cX6_toldOfEnding 41 = .ok (.getfield 35, 3) := by decide +kernel
theorem dX6_toldOfEnding_44 : decode cX6_toldOfEnding 44 = .ok (.invokevirtual 84, 3) := by decide +kernel
theorem dX6_toldOfEnding_47 : decode cX6_toldOfEnding 47 = .ok (.ireturn, 1) := by decide +kernel
theorem dX6_toldOfEnding_48 : decode cX6_toldOfEnding 48 = .ok (.aload_n 0, 1) := by decide +kernel
theorem dX6_toldOfEnding_49 : decode cX6_toldOfEnding 49 = .ok (.getfield 35, 3) := by decide +kernel
theorem dX6_toldOfEnding_52 : decode cX6_toldOfEnding 52 = .ok (.invokevirtual 142, 3) := by decide +kernel
theorem dX6_toldOfEnding_55 : decode cX6_toldOfEnding 55 = .ok (.ireturn, 1) := by decide +kernel
theorem dX6_toldOfEnding_56 : decode cX6_toldOfEnding 56 = .ok (.aload_n 0, 1) := by decide +kernel
theorem dX6_toldOfEnding_57 : decode cX6_toldOfEnding 57 = .ok (.getfield 35, 3) := by decide +kernel
theorem dX6_toldOfEnding_60 : decode cX6_toldOfEnding 60 = .ok (.iload_n 2, 1) := by decide +kernel
theorem dX6_toldOfEnding_61 : decode cX6_toldOfEnding 61 = .ok (.invokevirtual 197, 3) := by decide +kernel
theorem dX6_toldOfEnding_64 : decode cX6_toldOfEnding 64 = .ok (.ireturn, 1) := by decide +kernel
theorem dX6_kindsLeft_0 : decode cX6_kindsLeft 0 = .ok (.iconst 0, 1) := by decide +kernel
theorem dX6_kindsLeft_1 : decode cX6_kindsLeft 1 = .ok (.istore_n 2, 1) := by decide +kernel
theorem dX6_kindsLeft_2 : decode cX6_kindsLeft 2 = .ok (.iconst 1, 1) := by decide +kernel
theorem dX6_kindsLeft_3 : decode cX6_kindsLeft 3 = .ok (.istore_n 3, 1) := by decide +kernel
theorem dX6_kindsLeft_4 : decode cX6_kindsLeft 4 = .ok (.iload_n 3, 1) := by decide +kernel
theorem dX6_kindsLeft_5 : decode cX6_kindsLeft 5 = .ok (.iconst 3, 1) := by decide +kernel
theorem dX6_kindsLeft_6 : decode cX6_kindsLeft 6 = .ok (.if_icmp .gt 93, 3) := by decide +kernel
theorem dX6_kindsLeft_9 : decode cX6_kindsLeft 9 = .ok (.aload_n 0, 1) := by decide +kernel
theorem dX6_kindsLeft_10 : decode cX6_kindsLeft 10 = .ok (.getfield 35, 3) := by decide +kernel
theorem dX6_kindsLeft_13 : decode cX6_kindsLeft 13 = .ok (.aload_n 0, 1) := by decide +kernel
theorem dX6_kindsLeft_14 : decode cX6_kindsLeft 14 = .ok (.getfield 28, 3) := by decide +kernel
theorem dX6_kindsLeft_17 : decode cX6_kindsLeft 17 = .ok (.invokevirtual 91, 3) := by decide +kernel
theorem dX6_kindsLeft_20 : decode cX6_kindsLeft 20 = .ok (.aload_n 0, 1) := by decide +kernel
theorem dX6_kindsLeft_21 : decode cX6_kindsLeft 21 = .ok (.getfield 35, 3) := by decide +kernel
theorem dX6_kindsLeft_24 : decode cX6_kindsLeft 24 = .ok (.iload_n 1, 1) := by decide +kernel
theorem dX6_kindsLeft_25 : decode cX6_kindsLeft 25 = .ok (.iload_n 3, 1) := by decide +kernel
theorem dX6_kindsLeft_26 : decode cX6_kindsLeft 26 = .ok (.invokevirtual 154, 3) := by decide +kernel
theorem dX6_kindsLeft_29 : decode cX6_kindsLeft 29 = .ok (.aload_n 0, 1) := by decide +kernel
theorem dX6_kindsLeft_30 : decode cX6_kindsLeft 30 = .ok (.getfield 35, 3) := by decide +kernel
theorem dX6_kindsLeft_33 : decode cX6_kindsLeft 33 = .ok (.invokevirtual 234, 3) := by decide +kernel
theorem dX6_kindsLeft_36 : decode cX6_kindsLeft 36 = .ok (.istore 4, 2) := by decide +kernel
theorem dX6_kindsLeft_38 : decode cX6_kindsLeft 38 = .ok (.iconst 0, 1) := by decide +kernel
theorem dX6_kindsLeft_39 : decode cX6_kindsLeft 39 = .ok (.istore 5, 2) := by decide +kernel
theorem dX6_kindsLeft_41 : decode cX6_kindsLeft 41 = .ok (.iload 5, 2) := by decide +kernel
theorem dX6_kindsLeft_43 : decode cX6_kindsLeft 43 = .ok (.iconst 4, 1) := by decide +kernel
theorem dX6_kindsLeft_44 : decode cX6_kindsLeft 44 = .ok (.if_icmp .ge 27, 3) := by decide +kernel
theorem dX6_kindsLeft_47 : decode cX6_kindsLeft 47 = .ok (.aload_n 0, 1) := by decide +kernel
theorem dX6_kindsLeft_48 : decode cX6_kindsLeft 48 = .ok (.getfield 61, 3) := by decide +kernel
theorem dX6_kindsLeft_51 : decode cX6_kindsLeft 51 = .ok (.iload_n 3, 1) := by decide +kernel
theorem dX6_kindsLeft_52 : decode cX6_kindsLeft 52 = .ok (.iload 5, 2) := by decide +kernel
theorem dX6_kindsLeft_54 : decode cX6_kindsLeft 54 = .ok (.aload_n 0, 1) := by decide +kernel
theorem dX6_kindsLeft_55 : decode cX6_kindsLeft 55 = .ok (.iload 4, 2) := by decide +kernel
theorem dX6_kindsLeft_57 : decode cX6_kindsLeft 57 = .ok (.iload 5, 2) := by decide +kernel
theorem dX6_kindsLeft_59 : decode cX6_kindsLeft 59 = .ok (.invokevirtual 164, 3) := by decide +kernel
theorem dX6_kindsLeft_62 : decode cX6_kindsLeft 62 = .ok (.invokevirtual 240, 3) := by decide +kernel
theorem dX6_kindsLeft_65 : decode cX6_kindsLeft 65 = .ok (.iinc 5 1, 3) := by decide +kernel
theorem dX6_kindsLeft_68 : decode cX6_kindsLeft 68 = .ok (.goto (-27), 3) := by decide +kernel
theorem dX6_kindsLeft_71 : decode cX6_kindsLeft 71 = .ok (.aload_n 0, 1) := by decide +kernel
theorem dX6_kindsLeft_72 : decode cX6_kindsLeft 72 = .ok (.getfield 41, 3) := by decide +kernel
theorem dX6_kindsLeft_75 : decode cX6_kindsLeft 75 = .ok (.iload_n 1, 1) := by decide +kernel
theorem dX6_kindsLeft_76 : decode cX6_kindsLeft 76 = .ok (.iload_n 3, 1) := by decide +kernel
theorem dX6_kindsLeft_77 : decode cX6_kindsLeft 77 = .ok (.aload_n 0, 1) := by decide +kernel
theorem dX6_kindsLeft_78 : decode cX6_kindsLeft 78 = .ok (.getfield 61, 3) := by decide +kernel
theorem dX6_kindsLeft_81 : decode cX6_kindsLeft 81 = .ok (.invokevirtual 244, 3) := by decide +kernel
theorem dX6_kindsLeft_84 : decode cX6_kindsLeft 84 = .ok (.ifCond .eq 9, 3) := by decide +kernel
theorem dX6_kindsLeft_87 : decode cX6_kindsLeft 87 = .ok (.iload_n 2, 1) := by decide +kernel
theorem dX6_kindsLeft_88 : decode cX6_kindsLeft 88 = .ok (.iconst 1, 1) := by decide +kernel
theorem dX6_kindsLeft_89 : decode cX6_kindsLeft 89 = .ok (.iload_n 3, 1) := by decide +kernel
theorem dX6_kindsLeft_90 : decode cX6_kindsLeft 90 = .ok (.ishl, 1) := by decide +kernel
theorem dX6_kindsLeft_91 : decode cX6_kindsLeft 91 = .ok (.ior, 1) := by decide +kernel
theorem dX6_kindsLeft_92 : decode cX6_kindsLeft 92 = .ok (.istore_n 2, 1) := by decide +kernel
theorem dX6_kindsLeft_93 : decode cX6_kindsLeft 93 = .ok (.iinc 3 1, 3) := by decide +kernel
theorem dX6_kindsLeft_96 : decode cX6_kindsLeft 96 = .ok (.goto (-92), 3) := by decide +kernel
theorem dX6_kindsLeft_99 : decode cX6_kindsLeft 99 = .ok (.iload_n 2, 1) := by decide +kernel
theorem dX6_kindsLeft_100 : decode cX6_kindsLeft 100 = .ok (.ireturn, 1) := by decide +kernel
theorem dX6_nextSeed_0 : decode cX6_nextSeed 0 = .ok (.ldc2_w 248, 3) := by decide +kernel
theorem dX6_nextSeed_3 : decode cX6_nextSeed 3 = .ok (.iload_n 0, 1) := by decide +kernel
theorem dX6_nextSeed_4 : decode cX6_nextSeed 4 = .ok (.i2l, 1) := by decide +kernel
theorem dX6_nextSeed_5 : decode cX6_nextSeed 5 = .ok (.lmul, 1) := by decide +kernel
theorem dX6_nextSeed_6 : decode cX6_nextSeed 6 = .ok (.ldc2_w 250, 3) := by decide +kernel
theorem dX6_nextSeed_9 : decode cX6_nextSeed 9 = .ok (.ladd, 1) := by decide +kernel
theorem dX6_nextSeed_10 : decode cX6_nextSeed 10 = .ok (.ldc2_w 252, 3) := by decide +kernel
theorem dX6_nextSeed_13 : decode cX6_nextSeed 13 = .ok (.land, 1) := by decide +kernel
theorem dX6_nextSeed_14 : decode cX6_nextSeed 14 = .ok (.l2i, 1) := by decide +kernel
theorem dX6_nextSeed_15 : decode cX6_nextSeed 15 = .ok (.ireturn, 1) := by decide +kernel
theorem dL_law_0 : decode cL_law 0 = .ok (.new 7, 3) := by decide +kernel
theorem dL_law_3 : decode cL_law 3 = .ok (.dup, 1) := by decide +kernel
theorem dL_law_4 : decode cL_law 4 = .ok (.invokespecial 9, 3) := by decide +kernel
theorem dL_law_7 : decode cL_law 7 = .ok (.astore_n 1, 1) := by decide +kernel
theorem dL_law_8 : decode cL_law 8 = .ok (.new 10, 3) := by decide +kernel
theorem dL_law_11 : decode cL_law 11 = .ok (.dup, 1) := by decide +kernel
theorem dL_law_12 : decode cL_law 12 = .ok (.invokespecial 12, 3) := by decide +kernel
theorem dL_law_15 : decode cL_law 15 = .ok (.astore_n 2, 1) := by decide +kernel
theorem dL_law_16 : decode cL_law 16 = .ok (.iconst 0, 1) := by decide +kernel
theorem dL_law_17 : decode cL_law 17 = .ok (.istore_n 3, 1) := by decide +kernel
theorem dL_law_18 : decode cL_law 18 = .ok (.iload_n 3, 1) := by decide +kernel
theorem dL_law_19 : decode cL_law 19 = .ok (.aload_n 0, 1) := by decide +kernel
theorem dL_law_20 : decode cL_law 20 = .ok (.arraylength, 1) := by decide +kernel
theorem dL_law_21 : decode cL_law 21 = .ok (.iconst 4, 1) := by decide +kernel
theorem dL_law_22 : decode cL_law 22 = .ok (.isub, 1) := by decide +kernel
theorem dL_law_23 : decode cL_law 23 = .ok (.if_icmp .gt 707, 3) := by decide +kernel
theorem dL_law_26 : decode cL_law 26 = .ok (.aload_n 0, 1) := by decide +kernel
theorem dL_law_27 : decode cL_law 27 = .ok (.iload_n 3, 1) := by decide +kernel
theorem dL_law_28 : decode cL_law 28 = .ok (.iaload, 1) := by decide +kernel
theorem dL_law_29 : decode cL_law 29 = .ok (.bipush 31, 2) := by decide +kernel
theorem dL_law_31 : decode cL_law 31 = .ok (.iand, 1) := by decide +kernel
theorem dL_law_32 : decode cL_law 32 = .ok (.tableswitch 692 0 24 #[116, 139, 152, 165, 178, 211, 244, 267, 290, 313, 336, 369, 392, 425, 448, 471, 494, 517, 530, 573, 586, 629, 642, 655, 678], 116) := by decide +kernel
theorem dL_law_148 : decode cL_law 148 = .ok (.aload_n 1, 1) := by decide +kernel
theorem dL_law_149 : decode cL_law 149 = .ok (.aload_n 0, 1) := by decide +kernel
theorem dL_law_150 : decode cL_law 150 = .ok (.iload_n 3, 1) := by decide +kernel
theorem dL_law_151 : decode cL_law 151 = .ok (.iconst 1, 1) := by decide +kernel
theorem dL_law_152 : decode cL_law 152 = .ok (.iadd, 1) := by decide +kernel
theorem dL_law_153 : decode cL_law 153 = .ok (.iaload, 1) := by decide +kernel
theorem dL_law_154 : decode cL_law 154 = .ok (.invokevirtual 13, 3) := by decide +kernel
theorem dL_law_157 : decode cL_law 157 = .ok (.aload_n 2, 1) := by decide +kernel
theorem dL_law_158 : decode cL_law 158 = .ok (.aload_n 0, 1) := by decide +kernel
theorem dL_law_159 : decode cL_law 159 = .ok (.iload_n 3, 1) := by decide +kernel
theorem dL_law_160 : decode cL_law 160 = .ok (.iconst 1, 1) := by decide +kernel
theorem dL_law_161 : decode cL_law 161 = .ok (.iadd, 1) := by decide +kernel
theorem dL_law_162 : decode cL_law 162 = .ok (.iaload, 1) := by decide +kernel
theorem dL_law_163 : decode cL_law 163 = .ok (.invokevirtual 17, 3) := by decide +kernel
theorem dL_law_166 : decode cL_law 166 = .ok (.if_icmp .eq 558, 3) := by decide +kernel
theorem dL_law_169 : decode cL_law 169 = .ok (.iconst 0, 1) := by decide +kernel
theorem dL_law_170 : decode cL_law 170 = .ok (.ireturn, 1) := by decide +kernel
theorem dL_law_171 : decode cL_law 171 = .ok (.aload_n 1, 1) := by decide +kernel
theorem dL_law_172 : decode cL_law 172 = .ok (.invokevirtual 18, 3) := by decide +kernel
theorem dL_law_175 : decode cL_law 175 = .ok (.aload_n 2, 1) := by decide +kernel
theorem dL_law_176 : decode cL_law 176 = .ok (.invokevirtual 22, 3) := by decide +kernel
theorem dL_law_179 : decode cL_law 179 = .ok (.if_icmp .eq 545, 3) := by decide +kernel
theorem dL_law_182 : decode cL_law 182 = .ok (.iconst 0, 1) := by decide +kernel
theorem dL_law_183 : decode cL_law 183 = .ok (.ireturn, 1) := by decide +kernel
theorem dL_law_184 : decode cL_law 184 = .ok (.aload_n 1, 1) := by decide +kernel
theorem dL_law_185 : decode cL_law 185 = .ok (.invokevirtual 23, 3) := by decide +kernel
theorem dL_law_188 : decode cL_law 188 = .ok (.aload_n 2, 1) := by decide +kernel
theorem dL_law_189 : decode cL_law 189 = .ok (.invokevirtual 26, 3) := by decide +kernel
theorem dL_law_192 : decode cL_law 192 = .ok (.if_icmp .eq 532, 3) := by decide +kernel
theorem dL_law_195 : decode cL_law 195 = .ok (.iconst 0, 1) := by decide +kernel
theorem dL_law_196 : decode cL_law 196 = .ok (.ireturn, 1) := by decide +kernel
theorem dL_law_197 : decode cL_law 197 = .ok (.aload_n 1, 1) := by decide +kernel
theorem dL_law_198 : decode cL_law 198 = .ok (.invokevirtual 27, 3) := by decide +kernel
theorem dL_law_201 : decode cL_law 201 = .ok (.aload_n 2, 1) := by decide +kernel
theorem dL_law_202 : decode cL_law 202 = .ok (.invokevirtual 30, 3) := by decide +kernel
theorem dL_law_205 : decode cL_law 205 = .ok (.if_icmp .eq 519, 3) := by decide +kernel
theorem dL_law_208 : decode cL_law 208 = .ok (.iconst 0, 1) := by decide +kernel
theorem dL_law_209 : decode cL_law 209 = .ok (.ireturn, 1) := by decide +kernel
theorem dL_law_210 : decode cL_law 210 = .ok (.aload_n 1, 1) := by decide +kernel
theorem dL_law_211 : decode cL_law 211 = .ok (.aload_n 0, 1) := by decide +kernel
theorem dL_law_212 : decode cL_law 212 = .ok (.iload_n 3, 1) := by decide +kernel
theorem dL_law_213 : decode cL_law 213 = .ok (.iconst 1, 1) := by decide +kernel
theorem dL_law_214 : decode cL_law 214 = .ok (.iadd, 1) := by decide +kernel
theorem dL_law_215 : decode cL_law 215 = .ok (.iaload, 1) := by decide +kernel
theorem dL_law_216 : decode cL_law 216 = .ok (.aload_n 0, 1) := by decide +kernel
theorem dL_law_217 : decode cL_law 217 = .ok (.iload_n 3, 1) := by decide +kernel
theorem dL_law_218 : decode cL_law 218 = .ok (.iconst 2, 1) := by decide +kernel
theorem dL_law_219 : decode cL_law 219 = .ok (.iadd, 1) := by decide +kernel
theorem dL_law_220 : decode cL_law 220 = .ok (.iaload, 1) := by decide +kernel
theorem dL_law_221 : decode cL_law 221 = .ok (.invokevirtual 31, 3) := by decide +kernel
theorem dL_law_224 : decode cL_law 224 = .ok (.aload_n 2, 1) := by decide +kernel
theorem dL_law_225 : decode cL_law 225 = .ok (.aload_n 0, 1) := by decide +kernel
theorem dL_law_226 : decode cL_law 226 = .ok (.iload_n 3, 1) := by decide +kernel
theorem dL_law_227 : decode cL_law 227 = .ok (.iconst 1, 1) := by decide +kernel
theorem dL_law_228 : decode cL_law 228 = .ok (.iadd, 1) := by decide +kernel
theorem dL_law_229 : decode cL_law 229 = .ok (.iaload, 1) := by decide +kernel
theorem dL_law_230 : decode cL_law 230 = .ok (.aload_n 0, 1) := by decide +kernel
theorem dL_law_231 : decode cL_law 231 = .ok (.iload_n 3, 1) := by decide +kernel
theorem dL_law_232 : decode cL_law 232 = .ok (.iconst 2, 1) := by decide +kernel
theorem dL_law_233 : decode cL_law 233 = .ok (.iadd, 1) := by decide +kernel
theorem dL_law_234 : decode cL_law 234 = .ok (.iaload, 1) := by decide +kernel
theorem dL_law_235 : decode cL_law 235 = .ok (.invokevirtual 35, 3) := by decide +kernel
theorem dL_law_238 : decode cL_law 238 = .ok (.if_icmp .eq 486, 3) := by decide +kernel
theorem dL_law_241 : decode cL_law 241 = .ok (.iconst 0, 1) := by decide +kernel
theorem dL_law_242 : decode cL_law 242 = .ok (.ireturn, 1) := by decide +kernel
theorem dL_law_243 : decode cL_law 243 = .ok (.aload_n 1, 1) := by decide +kernel
theorem dL_law_244 : decode cL_law 244 = .ok (.aload_n 0, 1) := by decide +kernel
theorem dL_law_245 : decode cL_law 245 = .ok (.iload_n 3, 1) := by decide +kernel
theorem dL_law_246 : decode cL_law 246 = .ok (.iconst 1, 1) := by decide +kernel
theorem dL_law_247 : decode cL_law 247 = .ok (.iadd, 1) := by decide +kernel
theorem dL_law_248 : decode cL_law 248 = .ok (.iaload, 1) := by decide +kernel
theorem dL_law_249 : decode cL_law 249 = .ok (.aload_n 0, 1) := by decide +kernel
theorem dL_law_250 : decode cL_law 250 = .ok (.iload_n 3, 1) := by decide +kernel
theorem dL_law_251 : decode cL_law 251 = .ok (.iconst 2, 1) := by decide +kernel
theorem dL_law_252 : decode cL_law 252 = .ok (.iadd, 1) := by decide +kernel
theorem dL_law_253 : decode cL_law 253 = .ok (.iaload, 1) := by decide +kernel
theorem dL_law_254 : decode cL_law 254 = .ok (.invokevirtual 36, 3) := by decide +kernel
theorem dL_law_257 : decode cL_law 257 = .ok (.aload_n 2, 1) := by decide +kernel
theorem dL_law_258 : decode cL_law 258 = .ok (.aload_n 0, 1) := by decide +kernel
theorem dL_law_259 : decode cL_law 259 = .ok (.iload_n 3, 1) := by decide +kernel
theorem dL_law_260 : decode cL_law 260 = .ok (.iconst 1, 1) := by decide +kernel
theorem dL_law_261 : decode cL_law 261 = .ok (.iadd, 1) := by decide +kernel
theorem dL_law_262 : decode cL_law 262 = .ok (.iaload, 1) := by decide +kernel
theorem dL_law_263 : decode cL_law 263 = .ok (.aload_n 0, 1) := by decide +kernel
theorem dL_law_264 : decode cL_law 264 = .ok (.iload_n 3, 1) := by decide +kernel
theorem dL_law_265 : decode cL_law 265 = .ok (.iconst 2, 1) := by decide +kernel
theorem dL_law_266 : decode cL_law 266 = .ok (.iadd, 1) := by decide +kernel
theorem dL_law_267 : decode cL_law 267 = .ok (.iaload, 1) := by decide +kernel
theorem dL_law_268 : decode cL_law 268 = .ok (.invokevirtual 39, 3) := by decide +kernel
theorem dL_law_271 : decode cL_law 271 = .ok (.if_icmp .eq 453, 3) := by decide +kernel
theorem dL_law_274 : decode cL_law 274 = .ok (.iconst 0, 1) := by decide +kernel
theorem dL_law_275 : decode cL_law 275 = .ok (.ireturn, 1) := by decide +kernel
theorem dL_law_276 : decode cL_law 276 = .ok (.aload_n 1, 1) := by decide +kernel
theorem dL_law_277 : decode cL_law 277 = .ok (.aload_n 0, 1) := by decide +kernel
theorem dL_law_278 : decode cL_law 278 = .ok (.iload_n 3, 1) := by decide +kernel
theorem dL_law_279 : decode cL_law 279 = .ok (.iconst 1, 1) := by decide +kernel
theorem dL_law_280 : decode cL_law 280 = .ok (.iadd, 1) := by decide +kernel
theorem dL_law_281 : decode cL_law 281 = .ok (.iaload, 1) := by decide +kernel
theorem dL_law_282 : decode cL_law 282 = .ok (.invokevirtual 40, 3) := by decide +kernel
theorem dL_law_285 : decode cL_law 285 = .ok (.aload_n 2, 1) := by decide +kernel
theorem dL_law_286 : decode cL_law 286 = .ok (.aload_n 0, 1) := by decide +kernel
theorem dL_law_287 : decode cL_law 287 = .ok (.iload_n 3, 1) := by decide +kernel
theorem dL_law_288 : decode cL_law 288 = .ok (.iconst 1, 1) := by decide +kernel
theorem dL_law_289 : decode cL_law 289 = .ok (.iadd, 1) := by decide +kernel
theorem dL_law_290 : decode cL_law 290 = .ok (.iaload, 1) := by decide +kernel
theorem dL_law_291 : decode cL_law 291 = .ok (.invokevirtual 43, 3) := by decide +kernel
theorem dL_law_294 : decode cL_law 294 = .ok (.if_icmp .eq 430, 3) := by decide +kernel
theorem dL_law_297 : decode cL_law 297 = .ok (.iconst 0, 1) := by decide +kernel
theorem dL_law_298 : decode cL_law 298 = .ok (.ireturn, 1) := by decide +kernel
theorem dL_law_299 : decode cL_law 299 = .ok (.aload_n 1, 1) := by decide +kernel
theorem dL_law_300 : decode cL_law 300 = .ok (.aload_n 0, 1) := by decide +kernel
theorem dL_law_301 : decode cL_law 301 = .ok (.iload_n 3, 1) := by decide +kernel
theorem dL_law_302 : decode cL_law 302 = .ok (.iconst 1, 1) := by decide +kernel
theorem dL_law_303 : decode cL_law 303 = .ok (.iadd, 1) := by decide +kernel
theorem dL_law_304 : decode cL_law 304 = .ok (.iaload, 1) := by decide +kernel
theorem dL_law_305 : decode cL_law 305 = .ok (.invokevirtual 44, 3) := by decide +kernel
theorem dL_law_308 : decode cL_law 308 = .ok (.aload_n 2, 1) := by decide +kernel
theorem dL_law_309 : decode cL_law 309 = .ok (.aload_n 0, 1) := by decide +kernel
theorem dL_law_310 : decode cL_law 310 = .ok (.iload_n 3, 1) := by decide +kernel
theorem dL_law_311 : decode cL_law 311 = .ok (.iconst 1, 1) := by decide +kernel
theorem dL_law_312 : decode cL_law 312 = .ok (.iadd, 1) := by decide +kernel
theorem dL_law_313 : decode cL_law 313 = .ok (.iaload, 1) := by decide +kernel
theorem dL_law_314 : decode cL_law 314 = .ok (.invokevirtual 47, 3) := by decide +kernel
theorem dL_law_317 : decode cL_law 317 = .ok (.if_icmp .eq 407, 3) := by decide +kernel
theorem dL_law_320 : decode cL_law 320 = .ok (.iconst 0, 1) := by decide +kernel
theorem dL_law_321 : decode cL_law 321 = .ok (.ireturn, 1) := by decide +kernel
theorem dL_law_322 : decode cL_law 322 = .ok (.aload_n 1, 1) := by decide +kernel
theorem dL_law_323 : decode cL_law 323 = .ok (.aload_n 0, 1) := by decide +kernel
theorem dL_law_324 : decode cL_law 324 = .ok (.iload_n 3, 1) := by decide +kernel
theorem dL_law_325 : decode cL_law 325 = .ok (.iconst 1, 1) := by decide +kernel
theorem dL_law_326 : decode cL_law 326 = .ok (.iadd, 1) := by decide +kernel
theorem dL_law_327 : decode cL_law 327 = .ok (.iaload, 1) := by decide +kernel
theorem dL_law_328 : decode cL_law 328 = .ok (.invokevirtual 48, 3) := by decide +kernel
theorem dL_law_331 : decode cL_law 331 = .ok (.aload_n 2, 1) := by decide +kernel
theorem dL_law_332 : decode cL_law 332 = .ok (.aload_n 0, 1) := by decide +kernel
theorem dL_law_333 : decode cL_law 333 = .ok (.iload_n 3, 1) := by decide +kernel
theorem dL_law_334 : decode cL_law 334 = .ok (.iconst 1, 1) := by decide +kernel
theorem dL_law_335 : decode cL_law 335 = .ok (.iadd, 1) := by decide +kernel
theorem dL_law_336 : decode cL_law 336 = .ok (.iaload, 1) := by decide +kernel
theorem dL_law_337 : decode cL_law 337 = .ok (.invokevirtual 51, 3) := by decide +kernel
theorem dL_law_340 : decode cL_law 340 = .ok (.if_icmp .eq 384, 3) := by decide +kernel
theorem dL_law_343 : decode cL_law 343 = .ok (.iconst 0, 1) := by decide +kernel
theorem dL_law_344 : decode cL_law 344 = .ok (.ireturn, 1) := by decide +kernel
theorem dL_law_345 : decode cL_law 345 = .ok (.aload_n 1, 1) := by decide +kernel
theorem dL_law_346 : decode cL_law 346 = .ok (.aload_n 0, 1) := by decide +kernel
theorem dL_law_347 : decode cL_law 347 = .ok (.iload_n 3, 1) := by decide +kernel
theorem dL_law_348 : decode cL_law 348 = .ok (.iconst 1, 1) := by decide +kernel
theorem dL_law_349 : decode cL_law 349 = .ok (.iadd, 1) := by decide +kernel
theorem dL_law_350 : decode cL_law 350 = .ok (.iaload, 1) := by decide +kernel
theorem dL_law_351 : decode cL_law 351 = .ok (.invokevirtual 52, 3) := by decide +kernel
theorem dL_law_354 : decode cL_law 354 = .ok (.aload_n 2, 1) := by decide +kernel
theorem dL_law_355 : decode cL_law 355 = .ok (.aload_n 0, 1) := by decide +kernel
theorem dL_law_356 : decode cL_law 356 = .ok (.iload_n 3, 1) := by decide +kernel
theorem dL_law_357 : decode cL_law 357 = .ok (.iconst 1, 1) := by decide +kernel
theorem dL_law_358 : decode cL_law 358 = .ok (.iadd, 1) := by decide +kernel
theorem dL_law_359 : decode cL_law 359 = .ok (.iaload, 1) := by decide +kernel
theorem dL_law_360 : decode cL_law 360 = .ok (.invokevirtual 55, 3) := by decide +kernel
theorem dL_law_363 : decode cL_law 363 = .ok (.if_icmp .eq 361, 3) := by decide +kernel
theorem dL_law_366 : decode cL_law 366 = .ok (.iconst 0, 1) := by decide +kernel
theorem dL_law_367 : decode cL_law 367 = .ok (.ireturn, 1) := by decide +kernel
theorem dL_law_368 : decode cL_law 368 = .ok (.aload_n 1, 1) := by decide +kernel
theorem dL_law_369 : decode cL_law 369 = .ok (.aload_n 0, 1) := by decide +kernel
theorem dL_law_370 : decode cL_law 370 = .ok (.iload_n 3, 1) := by decide +kernel
theorem dL_law_371 : decode cL_law 371 = .ok (.iconst 1, 1) := by decide +kernel
theorem dL_law_372 : decode cL_law 372 = .ok (.iadd, 1) := by decide +kernel
theorem dL_law_373 : decode cL_law 373 = .ok (.iaload, 1) := by decide +kernel
theorem dL_law_374 : decode cL_law 374 = .ok (.aload_n 0, 1) := by decide +kernel
theorem dL_law_375 : decode cL_law 375 = .ok (.iload_n 3, 1) := by decide +kernel
theorem dL_law_376 : decode cL_law 376 = .ok (.iconst 2, 1) := by decide +kernel
theorem dL_law_377 : decode cL_law 377 = .ok (.iadd, 1) := by decide +kernel
theorem dL_law_378 : decode cL_law 378 = .ok (.iaload, 1) := by decide +kernel
theorem dL_law_379 : decode cL_law 379 = .ok (.invokevirtual 56, 3) := by decide +kernel
theorem dL_law_382 : decode cL_law 382 = .ok (.aload_n 2, 1) := by decide +kernel
theorem dL_law_383 : decode cL_law 383 = .ok (.aload_n 0, 1) := by decide +kernel
theorem dL_law_384 : decode cL_law 384 = .ok (.iload_n 3, 1) := by decide +kernel
theorem dL_law_385 : decode cL_law 385 = .ok (.iconst 1, 1) := by decide +kernel
theorem dL_law_386 : decode cL_law 386 = .ok (.iadd, 1) := by decide +kernel
theorem dL_law_387 : decode cL_law 387 = .ok (.iaload, 1) := by decide +kernel
theorem dL_law_388 : decode cL_law 388 = .ok (.aload_n 0, 1) := by decide +kernel
theorem dL_law_389 : decode cL_law 389 = .ok (.iload_n 3, 1) := by decide +kernel
theorem dL_law_390 : decode cL_law 390 = .ok (.iconst 2, 1) := by decide +kernel
theorem dL_law_391 : decode cL_law 391 = .ok (.iadd, 1) := by decide +kernel
theorem dL_law_392 : decode cL_law 392 = .ok (.iaload, 1) := by decide +kernel
theorem dL_law_393 : decode cL_law 393 = .ok (.invokevirtual 59, 3) := by decide +kernel
theorem dL_law_396 : decode cL_law 396 = .ok (.if_icmp .eq 328, 3) := by decide +kernel
theorem dL_law_399 : decode cL_law 399 = .ok (.iconst 0, 1) := by decide +kernel
theorem dL_law_400 : decode cL_law 400 = .ok (.ireturn, 1) := by decide +kernel
theorem dL_law_401 : decode cL_law 401 = .ok (.aload_n 1, 1) := by decide +kernel
theorem dL_law_402 : decode cL_law 402 = .ok (.aload_n 0, 1) := by decide +kernel
theorem dL_law_403 : decode cL_law 403 = .ok (.iload_n 3, 1) := by decide +kernel
theorem dL_law_404 : decode cL_law 404 = .ok (.iconst 1, 1) := by decide +kernel
theorem dL_law_405 : decode cL_law 405 = .ok (.iadd, 1) := by decide +kernel
theorem dL_law_406 : decode cL_law 406 = .ok (.iaload, 1) := by decide +kernel
theorem dL_law_407 : decode cL_law 407 = .ok (.invokevirtual 60, 3) := by decide +kernel
theorem dL_law_410 : decode cL_law 410 = .ok (.aload_n 2, 1) := by decide +kernel
theorem dL_law_411 : decode cL_law 411 = .ok (.aload_n 0, 1) := by decide +kernel
theorem dL_law_412 : decode cL_law 412 = .ok (.iload_n 3, 1) := by decide +kernel
theorem dL_law_413 : decode cL_law 413 = .ok (.iconst 1, 1) := by decide +kernel
theorem dL_law_414 : decode cL_law 414 = .ok (.iadd, 1) := by decide +kernel
theorem dL_law_415 : decode cL_law 415 = .ok (.iaload, 1) := by decide +kernel
theorem dL_law_416 : decode cL_law 416 = .ok (.invokevirtual 63, 3) := by decide +kernel
theorem dL_law_419 : decode cL_law 419 = .ok (.if_icmp .eq 305, 3) := by decide +kernel
theorem dL_law_422 : decode cL_law 422 = .ok (.iconst 0, 1) := by decide +kernel
theorem dL_law_423 : decode cL_law 423 = .ok (.ireturn, 1) := by decide +kernel
theorem dL_law_424 : decode cL_law 424 = .ok (.aload_n 1, 1) := by decide +kernel
theorem dL_law_425 : decode cL_law 425 = .ok (.aload_n 0, 1) := by decide +kernel
theorem dL_law_426 : decode cL_law 426 = .ok (.iload_n 3, 1) := by decide +kernel
theorem dL_law_427 : decode cL_law 427 = .ok (.iconst 1, 1) := by decide +kernel
theorem dL_law_428 : decode cL_law 428 = .ok (.iadd, 1) := by decide +kernel
theorem dL_law_429 : decode cL_law 429 = .ok (.iaload, 1) := by decide +kernel
theorem dL_law_430 : decode cL_law 430 = .ok (.aload_n 0, 1) := by decide +kernel
theorem dL_law_431 : decode cL_law 431 = .ok (.iload_n 3, 1) := by decide +kernel
theorem dL_law_432 : decode cL_law 432 = .ok (.iconst 2, 1) := by decide +kernel
theorem dL_law_433 : decode cL_law 433 = .ok (.iadd, 1) := by decide +kernel
theorem dL_law_434 : decode cL_law 434 = .ok (.iaload, 1) := by decide +kernel
theorem dL_law_435 : decode cL_law 435 = .ok (.invokevirtual 64, 3) := by decide +kernel
theorem dL_law_438 : decode cL_law 438 = .ok (.aload_n 2, 1) := by decide +kernel
theorem dL_law_439 : decode cL_law 439 = .ok (.aload_n 0, 1) := by decide +kernel
theorem dL_law_440 : decode cL_law 440 = .ok (.iload_n 3, 1) := by decide +kernel
theorem dL_law_441 : decode cL_law 441 = .ok (.iconst 1, 1) := by decide +kernel
theorem dL_law_442 : decode cL_law 442 = .ok (.iadd, 1) := by decide +kernel
theorem dL_law_443 : decode cL_law 443 = .ok (.iaload, 1) := by decide +kernel
theorem dL_law_444 : decode cL_law 444 = .ok (.aload_n 0, 1) := by decide +kernel
theorem dL_law_445 : decode cL_law 445 = .ok (.iload_n 3, 1) := by decide +kernel
theorem dL_law_446 : decode cL_law 446 = .ok (.iconst 2, 1) := by decide +kernel
theorem dL_law_447 : decode cL_law 447 = .ok (.iadd, 1) := by decide +kernel
theorem dL_law_448 : decode cL_law 448 = .ok (.iaload, 1) := by decide +kernel
theorem dL_law_449 : decode cL_law 449 = .ok (.invokevirtual 67, 3) := by decide +kernel
theorem dL_law_452 : decode cL_law 452 = .ok (.if_icmp .eq 272, 3) := by decide +kernel
theorem dL_law_455 : decode cL_law 455 = .ok (.iconst 0, 1) := by decide +kernel
theorem dL_law_456 : decode cL_law 456 = .ok (.ireturn, 1) := by decide +kernel
theorem dL_law_457 : decode cL_law 457 = .ok (.aload_n 1, 1) := by decide +kernel
theorem dL_law_458 : decode cL_law 458 = .ok (.aload_n 0, 1) := by decide +kernel
theorem dL_law_459 : decode cL_law 459 = .ok (.iload_n 3, 1) := by decide +kernel
theorem dL_law_460 : decode cL_law 460 = .ok (.iconst 1, 1) := by decide +kernel
theorem dL_law_461 : decode cL_law 461 = .ok (.iadd, 1) := by decide +kernel
theorem dL_law_462 : decode cL_law 462 = .ok (.iaload, 1) := by decide +kernel
theorem dL_law_463 : decode cL_law 463 = .ok (.invokevirtual 68, 3) := by decide +kernel
theorem dL_law_466 : decode cL_law 466 = .ok (.aload_n 2, 1) := by decide +kernel
theorem dL_law_467 : decode cL_law 467 = .ok (.aload_n 0, 1) := by decide +kernel
theorem dL_law_468 : decode cL_law 468 = .ok (.iload_n 3, 1) := by decide +kernel
theorem dL_law_469 : decode cL_law 469 = .ok (.iconst 1, 1) := by decide +kernel
theorem dL_law_470 : decode cL_law 470 = .ok (.iadd, 1) := by decide +kernel
theorem dL_law_471 : decode cL_law 471 = .ok (.iaload, 1) := by decide +kernel
theorem dL_law_472 : decode cL_law 472 = .ok (.invokevirtual 71, 3) := by decide +kernel
theorem dL_law_475 : decode cL_law 475 = .ok (.if_icmp .eq 249, 3) := by decide +kernel
theorem dL_law_478 : decode cL_law 478 = .ok (.iconst 0, 1) := by decide +kernel
theorem dL_law_479 : decode cL_law 479 = .ok (.ireturn, 1) := by decide +kernel
theorem dL_law_480 : decode cL_law 480 = .ok (.aload_n 1, 1) := by decide +kernel
theorem dL_law_481 : decode cL_law 481 = .ok (.aload_n 0, 1) := by decide +kernel
theorem dL_law_482 : decode cL_law 482 = .ok (.iload_n 3, 1) := by decide +kernel
theorem dL_law_483 : decode cL_law 483 = .ok (.iconst 1, 1) := by decide +kernel
theorem dL_law_484 : decode cL_law 484 = .ok (.iadd, 1) := by decide +kernel
theorem dL_law_485 : decode cL_law 485 = .ok (.iaload, 1) := by decide +kernel
theorem dL_law_486 : decode cL_law 486 = .ok (.invokevirtual 72, 3) := by decide +kernel
theorem dL_law_489 : decode cL_law 489 = .ok (.aload_n 2, 1) := by decide +kernel
theorem dL_law_490 : decode cL_law 490 = .ok (.aload_n 0, 1) := by decide +kernel
theorem dL_law_491 : decode cL_law 491 = .ok (.iload_n 3, 1) := by decide +kernel
theorem dL_law_492 : decode cL_law 492 = .ok (.iconst 1, 1) := by decide +kernel
theorem dL_law_493 : decode cL_law 493 = .ok (.iadd, 1) := by decide +kernel
theorem dL_law_494 : decode cL_law 494 = .ok (.iaload, 1) := by decide +kernel
theorem dL_law_495 : decode cL_law 495 = .ok (.invokevirtual 75, 3) := by decide +kernel
theorem dL_law_498 : decode cL_law 498 = .ok (.if_icmp .eq 226, 3) := by decide +kernel
theorem dL_law_501 : decode cL_law 501 = .ok (.iconst 0, 1) := by decide +kernel
theorem dL_law_502 : decode cL_law 502 = .ok (.ireturn, 1) := by decide +kernel
theorem dL_law_503 : decode cL_law 503 = .ok (.aload_n 1, 1) := by decide +kernel
theorem dL_law_504 : decode cL_law 504 = .ok (.aload_n 0, 1) := by decide +kernel
theorem dL_law_505 : decode cL_law 505 = .ok (.iload_n 3, 1) := by decide +kernel
theorem dL_law_506 : decode cL_law 506 = .ok (.iconst 1, 1) := by decide +kernel
theorem dL_law_507 : decode cL_law 507 = .ok (.iadd, 1) := by decide +kernel
theorem dL_law_508 : decode cL_law 508 = .ok (.iaload, 1) := by decide +kernel
theorem dL_law_509 : decode cL_law 509 = .ok (.invokevirtual 76, 3) := by decide +kernel
theorem dL_law_512 : decode cL_law 512 = .ok (.aload_n 2, 1) := by decide +kernel
theorem dL_law_513 : decode cL_law 513 = .ok (.aload_n 0, 1) := by decide +kernel
theorem dL_law_514 : decode cL_law 514 = .ok (.iload_n 3, 1) := by decide +kernel
theorem dL_law_515 : decode cL_law 515 = .ok (.iconst 1, 1) := by decide +kernel
theorem dL_law_516 : decode cL_law 516 = .ok (.iadd, 1) := by decide +kernel
theorem dL_law_517 : decode cL_law 517 = .ok (.iaload, 1) := by decide +kernel
theorem dL_law_518 : decode cL_law 518 = .ok (.invokevirtual 79, 3) := by decide +kernel
theorem dL_law_521 : decode cL_law 521 = .ok (.if_icmp .eq 203, 3) := by decide +kernel
theorem dL_law_524 : decode cL_law 524 = .ok (.iconst 0, 1) := by decide +kernel
theorem dL_law_525 : decode cL_law 525 = .ok (.ireturn, 1) := by decide +kernel
theorem dL_law_526 : decode cL_law 526 = .ok (.aload_n 1, 1) := by decide +kernel
theorem dL_law_527 : decode cL_law 527 = .ok (.aload_n 0, 1) := by decide +kernel
theorem dL_law_528 : decode cL_law 528 = .ok (.iload_n 3, 1) := by decide +kernel
theorem dL_law_529 : decode cL_law 529 = .ok (.iconst 1, 1) := by decide +kernel
theorem dL_law_530 : decode cL_law 530 = .ok (.iadd, 1) := by decide +kernel
theorem dL_law_531 : decode cL_law 531 = .ok (.iaload, 1) := by decide +kernel
theorem dL_law_532 : decode cL_law 532 = .ok (.invokevirtual 80, 3) := by decide +kernel
theorem dL_law_535 : decode cL_law 535 = .ok (.aload_n 2, 1) := by decide +kernel
theorem dL_law_536 : decode cL_law 536 = .ok (.aload_n 0, 1) := by decide +kernel
theorem dL_law_537 : decode cL_law 537 = .ok (.iload_n 3, 1) := by decide +kernel
theorem dL_law_538 : decode cL_law 538 = .ok (.iconst 1, 1) := by decide +kernel
theorem dL_law_539 : decode cL_law 539 = .ok (.iadd, 1) := by decide +kernel
theorem dL_law_540 : decode cL_law 540 = .ok (.iaload, 1) := by decide +kernel
theorem dL_law_541 : decode cL_law 541 = .ok (.invokevirtual 83, 3) := by decide +kernel
theorem dL_law_544 : decode cL_law 544 = .ok (.if_icmp .eq 180, 3) := by decide +kernel
theorem dL_law_547 : decode cL_law 547 = .ok (.iconst 0, 1) := by decide +kernel
theorem dL_law_548 : decode cL_law 548 = .ok (.ireturn, 1) := by decide +kernel
theorem dL_law_549 : decode cL_law 549 = .ok (.aload_n 1, 1) := by decide +kernel
theorem dL_law_550 : decode cL_law 550 = .ok (.invokevirtual 84, 3) := by decide +kernel
theorem dL_law_553 : decode cL_law 553 = .ok (.aload_n 2, 1) := by decide +kernel
theorem dL_law_554 : decode cL_law 554 = .ok (.invokevirtual 87, 3) := by decide +kernel
theorem dL_law_557 : decode cL_law 557 = .ok (.if_icmp .eq 167, 3) := by decide +kernel
theorem dL_law_560 : decode cL_law 560 = .ok (.iconst 0, 1) := by decide +kernel
theorem dL_law_561 : decode cL_law 561 = .ok (.ireturn, 1) := by decide +kernel
theorem dL_law_562 : decode cL_law 562 = .ok (.aload_n 1, 1) := by decide +kernel
theorem dL_law_563 : decode cL_law 563 = .ok (.aload_n 0, 1) := by decide +kernel
theorem dL_law_564 : decode cL_law 564 = .ok (.iload_n 3, 1) := by decide +kernel
theorem dL_law_565 : decode cL_law 565 = .ok (.iconst 1, 1) := by decide +kernel
theorem dL_law_566 : decode cL_law 566 = .ok (.iadd, 1) := by decide +kernel
theorem dL_law_567 : decode cL_law 567 = .ok (.iaload, 1) := by decide +kernel
theorem dL_law_568 : decode cL_law 568 = .ok (.aload_n 0, 1) := by decide +kernel
theorem dL_law_569 : decode cL_law 569 = .ok (.iload_n 3, 1) := by decide +kernel
theorem dL_law_570 : decode cL_law 570 = .ok (.iconst 2, 1) := by decide +kernel
theorem dL_law_571 : decode cL_law 571 = .ok (.iadd, 1) := by decide +kernel
theorem dL_law_572 : decode cL_law 572 = .ok (.iaload, 1) := by decide +kernel
theorem dL_law_573 : decode cL_law 573 = .ok (.aload_n 0, 1) := by decide +kernel
theorem dL_law_574 : decode cL_law 574 = .ok (.iload_n 3, 1) := by decide +kernel
theorem dL_law_575 : decode cL_law 575 = .ok (.iconst 3, 1) := by decide +kernel
theorem dL_law_576 : decode cL_law 576 = .ok (.iadd, 1) := by decide +kernel
theorem dL_law_577 : decode cL_law 577 = .ok (.iaload, 1) := by decide +kernel
theorem dL_law_578 : decode cL_law 578 = .ok (.invokevirtual 88, 3) := by decide +kernel
theorem dL_law_581 : decode cL_law 581 = .ok (.aload_n 2, 1) := by decide +kernel
theorem dL_law_582 : decode cL_law 582 = .ok (.aload_n 0, 1) := by decide +kernel
theorem dL_law_583 : decode cL_law 583 = .ok (.iload_n 3, 1) := by decide +kernel
theorem dL_law_584 : decode cL_law 584 = .ok (.iconst 1, 1) := by decide +kernel
theorem dL_law_585 : decode cL_law 585 = .ok (.iadd, 1) := by decide +kernel
theorem dL_law_586 : decode cL_law 586 = .ok (.iaload, 1) := by decide +kernel
theorem dL_law_587 : decode cL_law 587 = .ok (.aload_n 0, 1) := by decide +kernel
theorem dL_law_588 : decode cL_law 588 = .ok (.iload_n 3, 1) := by decide +kernel
theorem dL_law_589 : decode cL_law 589 = .ok (.iconst 2, 1) := by decide +kernel
theorem dL_law_590 : decode cL_law 590 = .ok (.iadd, 1) := by decide +kernel
theorem dL_law_591 : decode cL_law 591 = .ok (.iaload, 1) := by decide +kernel
theorem dL_law_592 : decode cL_law 592 = .ok (.aload_n 0, 1) := by decide +kernel
theorem dL_law_593 : decode cL_law 593 = .ok (.iload_n 3, 1) := by decide +kernel
theorem dL_law_594 : decode cL_law 594 = .ok (.iconst 3, 1) := by decide +kernel
theorem dL_law_595 : decode cL_law 595 = .ok (.iadd, 1) := by decide +kernel
theorem dL_law_596 : decode cL_law 596 = .ok (.iaload, 1) := by decide +kernel
theorem dL_law_597 : decode cL_law 597 = .ok (.invokevirtual 92, 3) := by decide +kernel
theorem dL_law_600 : decode cL_law 600 = .ok (.if_icmp .eq 124, 3) := by decide +kernel
theorem dL_law_603 : decode cL_law 603 = .ok (.iconst 0, 1) := by decide +kernel
theorem dL_law_604 : decode cL_law 604 = .ok (.ireturn, 1) := by decide +kernel
theorem dL_law_605 : decode cL_law 605 = .ok (.aload_n 1, 1) := by decide +kernel
theorem dL_law_606 : decode cL_law 606 = .ok (.invokevirtual 93, 3) := by decide +kernel
theorem dL_law_609 : decode cL_law 609 = .ok (.aload_n 2, 1) := by decide +kernel
theorem dL_law_610 : decode cL_law 610 = .ok (.invokevirtual 96, 3) := by decide +kernel
theorem dL_law_613 : decode cL_law 613 = .ok (.if_icmp .eq 111, 3) := by decide +kernel
theorem dL_law_616 : decode cL_law 616 = .ok (.iconst 0, 1) := by decide +kernel
theorem dL_law_617 : decode cL_law 617 = .ok (.ireturn, 1) := by decide +kernel
theorem dL_law_618 : decode cL_law 618 = .ok (.aload_n 1, 1) := by decide +kernel
theorem dL_law_619 : decode cL_law 619 = .ok (.aload_n 0, 1) := by decide +kernel
theorem dL_law_620 : decode cL_law 620 = .ok (.iload_n 3, 1) := by decide +kernel
theorem dL_law_621 : decode cL_law 621 = .ok (.iconst 1, 1) := by decide +kernel
theorem dL_law_622 : decode cL_law 622 = .ok (.iadd, 1) := by decide +kernel
theorem dL_law_623 : decode cL_law 623 = .ok (.iaload, 1) := by decide +kernel
theorem dL_law_624 : decode cL_law 624 = .ok (.aload_n 0, 1) := by decide +kernel
theorem dL_law_625 : decode cL_law 625 = .ok (.iload_n 3, 1) := by decide +kernel
theorem dL_law_626 : decode cL_law 626 = .ok (.iconst 2, 1) := by decide +kernel
theorem dL_law_627 : decode cL_law 627 = .ok (.iadd, 1) := by decide +kernel
theorem dL_law_628 : decode cL_law 628 = .ok (.iaload, 1) := by decide +kernel
theorem dL_law_629 : decode cL_law 629 = .ok (.aload_n 0, 1) := by decide +kernel
theorem dL_law_630 : decode cL_law 630 = .ok (.iload_n 3, 1) := by decide +kernel
theorem dL_law_631 : decode cL_law 631 = .ok (.iconst 3, 1) := by decide +kernel
theorem dL_law_632 : decode cL_law 632 = .ok (.iadd, 1) := by decide +kernel
theorem dL_law_633 : decode cL_law 633 = .ok (.iaload, 1) := by decide +kernel
theorem dL_law_634 : decode cL_law 634 = .ok (.invokevirtual 97, 3) := by decide +kernel
theorem dL_law_637 : decode cL_law 637 = .ok (.aload_n 2, 1) := by decide +kernel
theorem dL_law_638 : decode cL_law 638 = .ok (.aload_n 0, 1) := by decide +kernel
theorem dL_law_639 : decode cL_law 639 = .ok (.iload_n 3, 1) := by decide +kernel
theorem dL_law_640 : decode cL_law 640 = .ok (.iconst 1, 1) := by decide +kernel
theorem dL_law_641 : decode cL_law 641 = .ok (.iadd, 1) := by decide +kernel
theorem dL_law_642 : decode cL_law 642 = .ok (.iaload, 1) := by decide +kernel
theorem dL_law_643 : decode cL_law 643 = .ok (.aload_n 0, 1) := by decide +kernel
theorem dL_law_644 : decode cL_law 644 = .ok (.iload_n 3, 1) := by decide +kernel
theorem dL_law_645 : decode cL_law 645 = .ok (.iconst 2, 1) := by decide +kernel
theorem dL_law_646 : decode cL_law 646 = .ok (.iadd, 1) := by decide +kernel
theorem dL_law_647 : decode cL_law 647 = .ok (.iaload, 1) := by decide +kernel
theorem dL_law_648 : decode cL_law 648 = .ok (.aload_n 0, 1) := by decide +kernel
theorem dL_law_649 : decode cL_law 649 = .ok (.iload_n 3, 1) := by decide +kernel
theorem dL_law_650 : decode cL_law 650 = .ok (.iconst 3, 1) := by decide +kernel
theorem dL_law_651 : decode cL_law 651 = .ok (.iadd, 1) := by decide +kernel
theorem dL_law_652 : decode cL_law 652 = .ok (.iaload, 1) := by decide +kernel
theorem dL_law_653 : decode cL_law 653 = .ok (.invokevirtual 100, 3) := by decide +kernel
theorem dL_law_656 : decode cL_law 656 = .ok (.if_icmp .eq 68, 3) := by decide +kernel
theorem dL_law_659 : decode cL_law 659 = .ok (.iconst 0, 1) := by decide +kernel
theorem dL_law_660 : decode cL_law 660 = .ok (.ireturn, 1) := by decide +kernel
theorem dL_law_661 : decode cL_law 661 = .ok (.aload_n 1, 1) := by decide +kernel
theorem dL_law_662 : decode cL_law 662 = .ok (.invokevirtual 101, 3) := by decide +kernel
theorem dL_law_665 : decode cL_law 665 = .ok (.aload_n 2, 1) := by decide +kernel
theorem dL_law_666 : decode cL_law 666 = .ok (.invokevirtual 104, 3) := by decide +kernel
theorem dL_law_669 : decode cL_law 669 = .ok (.if_icmp .eq 55, 3) := by decide +kernel
theorem dL_law_672 : decode cL_law 672 = .ok (.iconst 0, 1) := by decide +kernel
theorem dL_law_673 : decode cL_law 673 = .ok (.ireturn, 1) := by decide +kernel
theorem dL_law_674 : decode cL_law 674 = .ok (.aload_n 1, 1) := by decide +kernel
theorem dL_law_675 : decode cL_law 675 = .ok (.invokevirtual 105, 3) := by decide +kernel
theorem dL_law_678 : decode cL_law 678 = .ok (.aload_n 2, 1) := by decide +kernel
theorem dL_law_679 : decode cL_law 679 = .ok (.invokevirtual 108, 3) := by decide +kernel
theorem dL_law_682 : decode cL_law 682 = .ok (.if_icmp .eq 42, 3) := by decide +kernel
theorem dL_law_685 : decode cL_law 685 = .ok (.iconst 0, 1) := by decide +kernel
theorem dL_law_686 : decode cL_law 686 = .ok (.ireturn, 1) := by decide +kernel
theorem dL_law_687 : decode cL_law 687 = .ok (.aload_n 1, 1) := by decide +kernel
theorem dL_law_688 : decode cL_law 688 = .ok (.aload_n 0, 1) := by decide +kernel
theorem dL_law_689 : decode cL_law 689 = .ok (.iload_n 3, 1) := by decide +kernel
theorem dL_law_690 : decode cL_law 690 = .ok (.iconst 1, 1) := by decide +kernel
theorem dL_law_691 : decode cL_law 691 = .ok (.iadd, 1) := by decide +kernel
theorem dL_law_692 : decode cL_law 692 = .ok (.iaload, 1) := by decide +kernel
theorem dL_law_693 : decode cL_law 693 = .ok (.invokevirtual 109, 3) := by decide +kernel
theorem dL_law_696 : decode cL_law 696 = .ok (.aload_n 2, 1) := by decide +kernel
theorem dL_law_697 : decode cL_law 697 = .ok (.aload_n 0, 1) := by decide +kernel
theorem dL_law_698 : decode cL_law 698 = .ok (.iload_n 3, 1) := by decide +kernel
theorem dL_law_699 : decode cL_law 699 = .ok (.iconst 1, 1) := by decide +kernel
theorem dL_law_700 : decode cL_law 700 = .ok (.iadd, 1) := by decide +kernel
theorem dL_law_701 : decode cL_law 701 = .ok (.iaload, 1) := by decide +kernel
theorem dL_law_702 : decode cL_law 702 = .ok (.invokevirtual 112, 3) := by decide +kernel
theorem dL_law_705 : decode cL_law 705 = .ok (.if_icmp .eq 19, 3) := by decide +kernel
theorem dL_law_708 : decode cL_law 708 = .ok (.iconst 0, 1) := by decide +kernel
theorem dL_law_709 : decode cL_law 709 = .ok (.ireturn, 1) := by decide +kernel
theorem dL_law_710 : decode cL_law 710 = .ok (.aload_n 1, 1) := by decide +kernel
theorem dL_law_711 : decode cL_law 711 = .ok (.invokevirtual 113, 3) := by decide +kernel
theorem dL_law_714 : decode cL_law 714 = .ok (.aload_n 2, 1) := by decide +kernel
theorem dL_law_715 : decode cL_law 715 = .ok (.invokevirtual 117, 3) := by decide +kernel
theorem dL_law_718 : decode cL_law 718 = .ok (.lcmp, 1) := by decide +kernel
theorem dL_law_719 : decode cL_law 719 = .ok (.ifCond .eq 5, 3) := by decide +kernel
theorem dL_law_722 : decode cL_law 722 = .ok (.iconst 0, 1) := by decide +kernel
theorem dL_law_723 : decode cL_law 723 = .ok (.ireturn, 1) := by decide +kernel
theorem dL_law_724 : decode cL_law 724 = .ok (.iinc 3 4, 3) := by decide +kernel
theorem dL_law_727 : decode cL_law 727 = .ok (.goto (-709), 3) := by decide +kernel
theorem dL_law_730 : decode cL_law 730 = .ok (.iconst 1, 1) := by decide +kernel
theorem dL_law_731 : decode cL_law 731 = .ok (.ireturn, 1) := by decide +kernel
