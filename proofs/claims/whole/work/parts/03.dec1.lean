theorem dX7_set_46 : decode cX7_set 46 = .ok (.invokevirtual 67, 3) := by decide +kernel
theorem dX7_set_49 : decode cX7_set 49 = .ok (.ireturn, 1) := by decide +kernel
theorem dX7_set_50 : decode cX7_set 50 = .ok (.aload_n 0, 1) := by decide +kernel
theorem dX7_set_51 : decode cX7_set 51 = .ok (.aload_n 0, 1) := by decide +kernel
theorem dX7_set_52 : decode cX7_set 52 = .ok (.getfield 10, 3) := by decide +kernel
theorem dX7_set_55 : decode cX7_set 55 = .ok (.iload_n 1, 1) := by decide +kernel
theorem dX7_set_56 : decode cX7_set 56 = .ok (.iload_n 2, 1) := by decide +kernel
theorem dX7_set_57 : decode cX7_set 57 = .ok (.iload_n 3, 1) := by decide +kernel
theorem dX7_set_58 : decode cX7_set 58 = .ok (.invokevirtual 84, 3) := by decide +kernel
theorem dX7_set_61 : decode cX7_set 61 = .ok (.invokevirtual 75, 3) := by decide +kernel
theorem dX7_set_64 : decode cX7_set 64 = .ok (.ireturn, 1) := by decide +kernel
theorem dX7_copy_0 : decode cX7_copy 0 = .ok (.aload_n 0, 1) := by decide +kernel
theorem dX7_copy_1 : decode cX7_copy 1 = .ok (.getfield 10, 3) := by decide +kernel
theorem dX7_copy_4 : decode cX7_copy 4 = .ok (.iload_n 1, 1) := by decide +kernel
theorem dX7_copy_5 : decode cX7_copy 5 = .ok (.invokevirtual 58, 3) := by decide +kernel
theorem dX7_copy_8 : decode cX7_copy 8 = .ok (.ifCond .eq 14, 3) := by decide +kernel
theorem dX7_copy_11 : decode cX7_copy 11 = .ok (.aload_n 0, 1) := by decide +kernel
theorem dX7_copy_12 : decode cX7_copy 12 = .ok (.getfield 10, 3) := by decide +kernel
theorem dX7_copy_15 : decode cX7_copy 15 = .ok (.iload_n 3, 1) := by decide +kernel
theorem dX7_copy_16 : decode cX7_copy 16 = .ok (.invokevirtual 58, 3) := by decide +kernel
theorem dX7_copy_19 : decode cX7_copy 19 = .ok (.ifCond .ne 6, 3) := by decide +kernel
theorem dX7_copy_22 : decode cX7_copy 22 = .ok (.ldc 66, 2) := by decide +kernel
theorem dX7_copy_24 : decode cX7_copy 24 = .ok (.ireturn, 1) := by decide +kernel
theorem dX7_copy_25 : decode cX7_copy 25 = .ok (.aload_n 0, 1) := by decide +kernel
theorem dX7_copy_26 : decode cX7_copy 26 = .ok (.getfield 10, 3) := by decide +kernel
theorem dX7_copy_29 : decode cX7_copy 29 = .ok (.iload_n 1, 1) := by decide +kernel
theorem dX7_copy_30 : decode cX7_copy 30 = .ok (.invokevirtual 78, 3) := by decide +kernel
theorem dX7_copy_33 : decode cX7_copy 33 = .ok (.ifCond .ne 14, 3) := by decide +kernel
theorem dX7_copy_36 : decode cX7_copy 36 = .ok (.aload_n 0, 1) := by decide +kernel
theorem dX7_copy_37 : decode cX7_copy 37 = .ok (.getfield 10, 3) := by decide +kernel
theorem dX7_copy_40 : decode cX7_copy 40 = .ok (.iload_n 3, 1) := by decide +kernel
theorem dX7_copy_41 : decode cX7_copy 41 = .ok (.invokevirtual 78, 3) := by decide +kernel
theorem dX7_copy_44 : decode cX7_copy 44 = .ok (.ifCond .eq 9, 3) := by decide +kernel
theorem dX7_copy_47 : decode cX7_copy 47 = .ok (.aload_n 0, 1) := by decide +kernel
theorem dX7_copy_48 : decode cX7_copy 48 = .ok (.iconst 1, 1) := by decide +kernel
theorem dX7_copy_49 : decode cX7_copy 49 = .ok (.invokevirtual 67, 3) := by decide +kernel
theorem dX7_copy_52 : decode cX7_copy 52 = .ok (.ireturn, 1) := by decide +kernel
theorem dX7_copy_53 : decode cX7_copy 53 = .ok (.aload_n 0, 1) := by decide +kernel
theorem dX7_copy_54 : decode cX7_copy 54 = .ok (.getfield 10, 3) := by decide +kernel
theorem dX7_copy_57 : decode cX7_copy 57 = .ok (.iload_n 1, 1) := by decide +kernel
theorem dX7_copy_58 : decode cX7_copy 58 = .ok (.iload_n 3, 1) := by decide +kernel
theorem dX7_copy_59 : decode cX7_copy 59 = .ok (.invokevirtual 88, 3) := by decide +kernel
theorem dX7_copy_62 : decode cX7_copy 62 = .ok (.ifCond .ne 9, 3) := by decide +kernel
theorem dX7_copy_65 : decode cX7_copy 65 = .ok (.aload_n 0, 1) := by decide +kernel
theorem dX7_copy_66 : decode cX7_copy 66 = .ok (.iconst 5, 1) := by decide +kernel
theorem dX7_copy_67 : decode cX7_copy 67 = .ok (.invokevirtual 67, 3) := by decide +kernel
theorem dX7_copy_70 : decode cX7_copy 70 = .ok (.ireturn, 1) := by decide +kernel
theorem dX7_copy_71 : decode cX7_copy 71 = .ok (.aload_n 0, 1) := by decide +kernel
theorem dX7_copy_72 : decode cX7_copy 72 = .ok (.getfield 10, 3) := by decide +kernel
theorem dX7_copy_75 : decode cX7_copy 75 = .ok (.iload_n 1, 1) := by decide +kernel
theorem dX7_copy_76 : decode cX7_copy 76 = .ok (.iload_n 2, 1) := by decide +kernel
theorem dX7_copy_77 : decode cX7_copy 77 = .ok (.iload 5, 2) := by decide +kernel
theorem dX7_copy_79 : decode cX7_copy 79 = .ok (.invokevirtual 81, 3) := by decide +kernel
theorem dX7_copy_82 : decode cX7_copy 82 = .ok (.ifCond .eq 18, 3) := by decide +kernel
theorem dX7_copy_85 : decode cX7_copy 85 = .ok (.aload_n 0, 1) := by decide +kernel
theorem dX7_copy_86 : decode cX7_copy 86 = .ok (.getfield 10, 3) := by decide +kernel
theorem dX7_copy_89 : decode cX7_copy 89 = .ok (.iload_n 3, 1) := by decide +kernel
theorem dX7_copy_90 : decode cX7_copy 90 = .ok (.iload 4, 2) := by decide +kernel
theorem dX7_copy_92 : decode cX7_copy 92 = .ok (.iload 5, 2) := by decide +kernel
theorem dX7_copy_94 : decode cX7_copy 94 = .ok (.invokevirtual 81, 3) := by decide +kernel
theorem dX7_copy_97 : decode cX7_copy 97 = .ok (.ifCond .ne 9, 3) := by decide +kernel
theorem dX7_copy_100 : decode cX7_copy 100 = .ok (.aload_n 0, 1) := by decide +kernel
theorem dX7_copy_101 : decode cX7_copy 101 = .ok (.iconst 2, 1) := by decide +kernel
theorem dX7_copy_102 : decode cX7_copy 102 = .ok (.invokevirtual 67, 3) := by decide +kernel
theorem dX7_copy_105 : decode cX7_copy 105 = .ok (.ireturn, 1) := by decide +kernel
theorem dX7_copy_106 : decode cX7_copy 106 = .ok (.aload_n 0, 1) := by decide +kernel
theorem dX7_copy_107 : decode cX7_copy 107 = .ok (.getfield 10, 3) := by decide +kernel
theorem dX7_copy_110 : decode cX7_copy 110 = .ok (.iload_n 1, 1) := by decide +kernel
theorem dX7_copy_111 : decode cX7_copy 111 = .ok (.iload_n 2, 1) := by decide +kernel
theorem dX7_copy_112 : decode cX7_copy 112 = .ok (.iload_n 3, 1) := by decide +kernel
theorem dX7_copy_113 : decode cX7_copy 113 = .ok (.iload 4, 2) := by decide +kernel
theorem dX7_copy_115 : decode cX7_copy 115 = .ok (.iload 5, 2) := by decide +kernel
theorem dX7_copy_117 : decode cX7_copy 117 = .ok (.invokevirtual 92, 3) := by decide +kernel
theorem dX7_copy_120 : decode cX7_copy 120 = .ok (.aload_n 0, 1) := by decide +kernel
theorem dX7_copy_121 : decode cX7_copy 121 = .ok (.iload 5, 2) := by decide +kernel
theorem dX7_copy_123 : decode cX7_copy 123 = .ok (.invokevirtual 75, 3) := by decide +kernel
theorem dX7_copy_126 : decode cX7_copy 126 = .ok (.ireturn, 1) := by decide +kernel
theorem dX7_drop_0 : decode cX7_drop 0 = .ok (.aload_n 0, 1) := by decide +kernel
theorem dX7_drop_1 : decode cX7_drop 1 = .ok (.getfield 10, 3) := by decide +kernel
theorem dX7_drop_4 : decode cX7_drop 4 = .ok (.iload_n 1, 1) := by decide +kernel
theorem dX7_drop_5 : decode cX7_drop 5 = .ok (.invokevirtual 58, 3) := by decide +kernel
theorem dX7_drop_8 : decode cX7_drop 8 = .ok (.ifCond .ne 6, 3) := by decide +kernel
theorem dX7_drop_11 : decode cX7_drop 11 = .ok (.ldc 66, 2) := by decide +kernel
theorem dX7_drop_13 : decode cX7_drop 13 = .ok (.ireturn, 1) := by decide +kernel
theorem dX7_drop_14 : decode cX7_drop 14 = .ok (.aload_n 0, 1) := by decide +kernel
theorem dX7_drop_15 : decode cX7_drop 15 = .ok (.getfield 10, 3) := by decide +kernel
theorem dX7_drop_18 : decode cX7_drop 18 = .ok (.iload_n 1, 1) := by decide +kernel
theorem dX7_drop_19 : decode cX7_drop 19 = .ok (.invokevirtual 78, 3) := by decide +kernel
theorem dX7_drop_22 : decode cX7_drop 22 = .ok (.ifCond .eq 9, 3) := by decide +kernel
theorem dX7_drop_25 : decode cX7_drop 25 = .ok (.aload_n 0, 1) := by decide +kernel
theorem dX7_drop_26 : decode cX7_drop 26 = .ok (.iconst 1, 1) := by decide +kernel
theorem dX7_drop_27 : decode cX7_drop 27 = .ok (.invokevirtual 67, 3) := by decide +kernel
theorem dX7_drop_30 : decode cX7_drop 30 = .ok (.ireturn, 1) := by decide +kernel
theorem dX7_drop_31 : decode cX7_drop 31 = .ok (.aload_n 0, 1) := by decide +kernel
theorem dX7_drop_32 : decode cX7_drop 32 = .ok (.aload_n 0, 1) := by decide +kernel
theorem dX7_drop_33 : decode cX7_drop 33 = .ok (.getfield 10, 3) := by decide +kernel
theorem dX7_drop_36 : decode cX7_drop 36 = .ok (.iload_n 1, 1) := by decide +kernel
theorem dX7_drop_37 : decode cX7_drop 37 = .ok (.invokevirtual 96, 3) := by decide +kernel
theorem dX7_drop_40 : decode cX7_drop 40 = .ok (.invokevirtual 75, 3) := by decide +kernel
theorem dX7_drop_43 : decode cX7_drop 43 = .ok (.ireturn, 1) := by decide +kernel
theorem dX7_feed_0 : decode cX7_feed 0 = .ok (.iload_n 3, 1) := by decide +kernel
theorem dX7_feed_1 : decode cX7_feed 1 = .ok (.iconst 1, 1) := by decide +kernel
theorem dX7_feed_2 : decode cX7_feed 2 = .ok (.bipush 8, 2) := by decide +kernel
theorem dX7_feed_4 : decode cX7_feed 4 = .ok (.invokestatic 62, 3) := by decide +kernel
theorem dX7_feed_7 : decode cX7_feed 7 = .ok (.ifCond .ne 6, 3) := by decide +kernel
theorem dX7_feed_10 : decode cX7_feed 10 = .ok (.ldc 66, 2) := by decide +kernel
theorem dX7_feed_12 : decode cX7_feed 12 = .ok (.ireturn, 1) := by decide +kernel
theorem dX7_feed_13 : decode cX7_feed 13 = .ok (.aload_n 0, 1) := by decide +kernel
theorem dX7_feed_14 : decode cX7_feed 14 = .ok (.getfield 19, 3) := by decide +kernel
theorem dX7_feed_17 : decode cX7_feed 17 = .ok (.iload_n 3, 1) := by decide +kernel
theorem dX7_feed_18 : decode cX7_feed 18 = .ok (.invokevirtual 99, 3) := by decide +kernel
theorem dX7_feed_21 : decode cX7_feed 21 = .ok (.ifCond .ne 6, 3) := by decide +kernel
theorem dX7_feed_24 : decode cX7_feed 24 = .ok (.ldc 102, 2) := by decide +kernel
theorem dX7_feed_26 : decode cX7_feed 26 = .ok (.ireturn, 1) := by decide +kernel
theorem dX7_feed_27 : decode cX7_feed 27 = .ok (.aload_n 0, 1) := by decide +kernel
theorem dX7_feed_28 : decode cX7_feed 28 = .ok (.getfield 19, 3) := by decide +kernel
theorem dX7_feed_31 : decode cX7_feed 31 = .ok (.lload_n 1, 1) := by decide +kernel
theorem dX7_feed_32 : decode cX7_feed 32 = .ok (.iload_n 3, 1) := by decide +kernel
theorem dX7_feed_33 : decode cX7_feed 33 = .ok (.invokevirtual 103, 3) := by decide +kernel
theorem dX7_feed_36 : decode cX7_feed 36 = .ok (.ireturn, 1) := by decide +kernel
theorem dX7_net_0 : decode cX7_net 0 = .ok (.aload_n 0, 1) := by decide +kernel
theorem dX7_net_1 : decode cX7_net 1 = .ok (.getfield 26, 3) := by decide +kernel
theorem dX7_net_4 : decode cX7_net 4 = .ok (.getfield 107, 3) := by decide +kernel
theorem dX7_net_7 : decode cX7_net 7 = .ok (.istore_n 1, 1) := by decide +kernel
theorem dX7_net_8 : decode cX7_net 8 = .ok (.aload_n 0, 1) := by decide +kernel
theorem dX7_net_9 : decode cX7_net 9 = .ok (.getfield 26, 3) := by decide +kernel
theorem dX7_net_12 : decode cX7_net 12 = .ok (.getfield 110, 3) := by decide +kernel
theorem dX7_net_15 : decode cX7_net 15 = .ok (.istore_n 2, 1) := by decide +kernel
theorem dX7_net_16 : decode cX7_net 16 = .ok (.aload_n 0, 1) := by decide +kernel
theorem dX7_net_17 : decode cX7_net 17 = .ok (.getfield 19, 3) := by decide +kernel
theorem dX7_net_20 : decode cX7_net 20 = .ok (.aload_n 0, 1) := by decide +kernel
theorem dX7_net_21 : decode cX7_net 21 = .ok (.getfield 26, 3) := by decide +kernel
theorem dX7_net_24 : decode cX7_net 24 = .ok (.invokevirtual 113, 3) := by decide +kernel
theorem dX7_net_27 : decode cX7_net 27 = .ok (.istore_n 3, 1) := by decide +kernel
theorem dX7_net_28 : decode cX7_net 28 = .ok (.iload_n 3, 1) := by decide +kernel
theorem dX7_net_29 : decode cX7_net 29 = .ok (.ifCond .ne 11, 3) := by decide +kernel
theorem dX7_net_32 : decode cX7_net 32 = .ok (.aload_n 0, 1) := by decide +kernel
theorem dX7_net_33 : decode cX7_net 33 = .ok (.getfield 26, 3) := by decide +kernel
theorem dX7_net_36 : decode cX7_net 36 = .ok (.getfield 107, 3) := by decide +kernel
theorem dX7_net_39 : decode cX7_net 39 = .ok (.ireturn, 1) := by decide +kernel
theorem dX7_net_40 : decode cX7_net 40 = .ok (.aload_n 0, 1) := by decide +kernel
theorem dX7_net_41 : decode cX7_net 41 = .ok (.getfield 26, 3) := by decide +kernel
theorem dX7_net_44 : decode cX7_net 44 = .ok (.iload_n 1, 1) := by decide +kernel
theorem dX7_net_45 : decode cX7_net 45 = .ok (.iload_n 2, 1) := by decide +kernel
theorem dX7_net_46 : decode cX7_net 46 = .ok (.invokevirtual 117, 3) := by decide +kernel
theorem dX7_net_49 : decode cX7_net 49 = .ok (.aload_n 0, 1) := by decide +kernel
theorem dX7_net_50 : decode cX7_net 50 = .ok (.iload_n 3, 1) := by decide +kernel
theorem dX7_net_51 : decode cX7_net 51 = .ok (.putfield 51, 3) := by decide +kernel
theorem dX7_net_54 : decode cX7_net 54 = .ok (.ldc 121, 2) := by decide +kernel
theorem dX7_net_56 : decode cX7_net 56 = .ok (.aload_n 0, 1) := by decide +kernel
theorem dX7_net_57 : decode cX7_net 57 = .ok (.getfield 19, 3) := by decide +kernel
theorem dX7_net_60 : decode cX7_net 60 = .ok (.getfield 122, 3) := by decide +kernel
theorem dX7_net_63 : decode cX7_net 63 = .ok (.isub, 1) := by decide +kernel
theorem dX7_net_64 : decode cX7_net 64 = .ok (.ireturn, 1) := by decide +kernel
theorem dX7_fault_0 : decode cX7_fault 0 = .ok (.aload_n 0, 1) := by decide +kernel
theorem dX7_fault_1 : decode cX7_fault 1 = .ok (.getfield 51, 3) := by decide +kernel
theorem dX7_fault_4 : decode cX7_fault 4 = .ok (.ireturn, 1) := by decide +kernel
theorem dX7_node_0 : decode cX7_node 0 = .ok (.aload_n 0, 1) := by decide +kernel
theorem dX7_node_1 : decode cX7_node 1 = .ok (.getfield 26, 3) := by decide +kernel
theorem dX7_node_4 : decode cX7_node 4 = .ok (.iload_n 1, 1) := by decide +kernel
theorem dX7_node_5 : decode cX7_node 5 = .ok (.invokevirtual 125, 3) := by decide +kernel
theorem dX7_node_8 : decode cX7_node 8 = .ok (.ifCond .ne 6, 3) := by decide +kernel
theorem dX7_node_11 : decode cX7_node 11 = .ok (.ldc 66, 2) := by decide +kernel
theorem dX7_node_13 : decode cX7_node 13 = .ok (.ireturn, 1) := by decide +kernel
theorem dX7_node_14 : decode cX7_node 14 = .ok (.aload_n 0, 1) := by decide +kernel
theorem dX7_node_15 : decode cX7_node 15 = .ok (.getfield 26, 3) := by decide +kernel
theorem dX7_node_18 : decode cX7_node 18 = .ok (.iload_n 1, 1) := by decide +kernel
theorem dX7_node_19 : decode cX7_node 19 = .ok (.invokevirtual 128, 3) := by decide +kernel
theorem dX7_node_22 : decode cX7_node 22 = .ok (.istore_n 3, 1) := by decide +kernel
theorem dX7_node_23 : decode cX7_node 23 = .ok (.iload_n 2, 1) := by decide +kernel
theorem dX7_node_24 : decode cX7_node 24 = .ok (.tableswitch 129 0 5 #[40, 50, 69, 88, 107, 117], 40) := by decide +kernel
theorem dX7_node_64 : decode cX7_node 64 = .ok (.aload_n 0, 1) := by decide +kernel
theorem dX7_node_65 : decode cX7_node 65 = .ok (.getfield 26, 3) := by decide +kernel
theorem dX7_node_68 : decode cX7_node 68 = .ok (.getfield 131, 3) := by decide +kernel
theorem dX7_node_71 : decode cX7_node 71 = .ok (.iload_n 1, 1) := by decide +kernel
theorem dX7_node_72 : decode cX7_node 72 = .ok (.iaload, 1) := by decide +kernel
theorem dX7_node_73 : decode cX7_node 73 = .ok (.ireturn, 1) := by decide +kernel
theorem dX7_node_74 : decode cX7_node 74 = .ok (.iload_n 3, 1) := by decide +kernel
theorem dX7_node_75 : decode cX7_node 75 = .ok (.ifCond .eq 8, 3) := by decide +kernel
theorem dX7_node_78 : decode cX7_node 78 = .ok (.ldc 135, 2) := by decide +kernel
theorem dX7_node_80 : decode cX7_node 80 = .ok (.goto 12, 3) := by decide +kernel
theorem dX7_node_83 : decode cX7_node 83 = .ok (.aload_n 0, 1) := by decide +kernel
theorem dX7_node_84 : decode cX7_node 84 = .ok (.getfield 26, 3) := by decide +kernel
theorem dX7_node_87 : decode cX7_node 87 = .ok (.getfield 136, 3) := by decide +kernel
theorem dX7_node_90 : decode cX7_node 90 = .ok (.iload_n 1, 1) := by decide +kernel
theorem dX7_node_91 : decode cX7_node 91 = .ok (.iaload, 1) := by decide +kernel
theorem dX7_node_92 : decode cX7_node 92 = .ok (.ireturn, 1) := by decide +kernel
theorem dX7_node_93 : decode cX7_node 93 = .ok (.iload_n 3, 1) := by decide +kernel
theorem dX7_node_94 : decode cX7_node 94 = .ok (.ifCond .eq 8, 3) := by decide +kernel
theorem dX7_node_97 : decode cX7_node 97 = .ok (.ldc 135, 2) := by decide +kernel
theorem dX7_node_99 : decode cX7_node 99 = .ok (.goto 12, 3) := by decide +kernel
theorem dX7_node_102 : decode cX7_node 102 = .ok (.aload_n 0, 1) := by decide +kernel
theorem dX7_node_103 : decode cX7_node 103 = .ok (.getfield 26, 3) := by decide +kernel
theorem dX7_node_106 : decode cX7_node 106 = .ok (.getfield 139, 3) := by decide +kernel
theorem dX7_node_109 : decode cX7_node 109 = .ok (.iload_n 1, 1) := by decide +kernel
theorem dX7_node_110 : decode cX7_node 110 = .ok (.iaload, 1) := by decide +kernel
theorem dX7_node_111 : decode cX7_node 111 = .ok (.ireturn, 1) := by decide +kernel
theorem dX7_node_112 : decode cX7_node 112 = .ok (.iload_n 3, 1) := by decide +kernel
theorem dX7_node_113 : decode cX7_node 113 = .ok (.ifCond .eq 8, 3) := by decide +kernel
theorem dX7_node_116 : decode cX7_node 116 = .ok (.ldc 135, 2) := by decide +kernel
theorem dX7_node_118 : decode cX7_node 118 = .ok (.goto 12, 3) := by decide +kernel
theorem dX7_node_121 : decode cX7_node 121 = .ok (.aload_n 0, 1) := by decide +kernel
theorem dX7_node_122 : decode cX7_node 122 = .ok (.getfield 26, 3) := by decide +kernel
theorem dX7_node_125 : decode cX7_node 125 = .ok (.getfield 142, 3) := by decide +kernel
theorem dX7_node_128 : decode cX7_node 128 = .ok (.iload_n 1, 1) := by decide +kernel
theorem dX7_node_129 : decode cX7_node 129 = .ok (.iaload, 1) := by decide +kernel
theorem dX7_node_130 : decode cX7_node 130 = .ok (.ireturn, 1) := by decide +kernel
theorem dX7_node_131 : decode cX7_node 131 = .ok (.aload_n 0, 1) := by decide +kernel
theorem dX7_node_132 : decode cX7_node 132 = .ok (.getfield 26, 3) := by decide +kernel
theorem dX7_node_135 : decode cX7_node 135 = .ok (.getfield 145, 3) := by decide +kernel
theorem dX7_node_138 : decode cX7_node 138 = .ok (.iload_n 1, 1) := by decide +kernel
theorem dX7_node_139 : decode cX7_node 139 = .ok (.iaload, 1) := by decide +kernel
theorem dX7_node_140 : decode cX7_node 140 = .ok (.ireturn, 1) := by decide +kernel
theorem dX7_node_141 : decode cX7_node 141 = .ok (.aload_n 0, 1) := by decide +kernel
theorem dX7_node_142 : decode cX7_node 142 = .ok (.getfield 26, 3) := by decide +kernel
theorem dX7_node_145 : decode cX7_node 145 = .ok (.invokevirtual 148, 3) := by decide +kernel
theorem dX7_node_148 : decode cX7_node 148 = .ok (.iload_n 1, 1) := by decide +kernel
theorem dX7_node_149 : decode cX7_node 149 = .ok (.invokestatic 152, 3) := by decide +kernel
theorem dX7_node_152 : decode cX7_node 152 = .ok (.ireturn, 1) := by decide +kernel
theorem dX7_node_153 : decode cX7_node 153 = .ok (.ldc 66, 2) := by decide +kernel
theorem dX7_node_155 : decode cX7_node 155 = .ok (.ireturn, 1) := by decide +kernel
theorem dX7_step_0 : decode cX7_step 0 = .ok (.aload_n 0, 1) := by decide +kernel
theorem dX7_step_1 : decode cX7_step 1 = .ok (.getfield 26, 3) := by decide +kernel
theorem dX7_step_4 : decode cX7_step 4 = .ok (.iload_n 1, 1) := by decide +kernel
theorem dX7_step_5 : decode cX7_step 5 = .ok (.invokevirtual 156, 3) := by decide +kernel
theorem dX7_step_8 : decode cX7_step 8 = .ok (.ifCond .ne 6, 3) := by decide +kernel
theorem dX7_step_11 : decode cX7_step 11 = .ok (.ldc 66, 2) := by decide +kernel
theorem dX7_step_13 : decode cX7_step 13 = .ok (.ireturn, 1) := by decide +kernel
theorem dX7_step_14 : decode cX7_step 14 = .ok (.iload_n 2, 1) := by decide +kernel
theorem dX7_step_15 : decode cX7_step 15 = .ok (.tableswitch 110 0 5 #[37, 47, 57, 67, 76, 86], 37) := by decide +kernel
theorem dX7_step_52 : decode cX7_step 52 = .ok (.aload_n 0, 1) := by decide +kernel
theorem dX7_step_53 : decode cX7_step 53 = .ok (.getfield 26, 3) := by decide +kernel
theorem dX7_step_56 : decode cX7_step 56 = .ok (.getfield 159, 3) := by decide +kernel
theorem dX7_step_59 : decode cX7_step 59 = .ok (.iload_n 1, 1) := by decide +kernel
theorem dX7_step_60 : decode cX7_step 60 = .ok (.iaload, 1) := by decide +kernel
theorem dX7_step_61 : decode cX7_step 61 = .ok (.ireturn, 1) := by decide +kernel
theorem dX7_step_62 : decode cX7_step 62 = .ok (.aload_n 0, 1) := by decide +kernel
theorem dX7_step_63 : decode cX7_step 63 = .ok (.getfield 26, 3) := by decide +kernel
theorem dX7_step_66 : decode cX7_step 66 = .ok (.getfield 162, 3) := by decide +kernel
theorem dX7_step_69 : decode cX7_step 69 = .ok (.iload_n 1, 1) := by decide +kernel
theorem dX7_step_70 : decode cX7_step 70 = .ok (.iaload, 1) := by decide +kernel
theorem dX7_step_71 : decode cX7_step 71 = .ok (.ireturn, 1) := by decide +kernel
theorem dX7_step_72 : decode cX7_step 72 = .ok (.aload_n 0, 1) := by decide +kernel
theorem dX7_step_73 : decode cX7_step 73 = .ok (.getfield 26, 3) := by decide +kernel
theorem dX7_step_76 : decode cX7_step 76 = .ok (.getfield 165, 3) := by decide +kernel
theorem dX7_step_79 : decode cX7_step 79 = .ok (.iload_n 1, 1) := by decide +kernel
theorem dX7_step_80 : decode cX7_step 80 = .ok (.iaload, 1) := by decide +kernel
theorem dX7_step_81 : decode cX7_step 81 = .ok (.ireturn, 1) := by decide +kernel
theorem dX7_step_82 : decode cX7_step 82 = .ok (.aload_n 0, 1) := by decide +kernel
theorem dX7_step_83 : decode cX7_step 83 = .ok (.getfield 26, 3) := by decide +kernel
theorem dX7_step_86 : decode cX7_step 86 = .ok (.iload_n 1, 1) := by decide +kernel
theorem dX7_step_87 : decode cX7_step 87 = .ok (.invokevirtual 168, 3) := by decide +kernel
theorem dX7_step_90 : decode cX7_step 90 = .ok (.ireturn, 1) := by decide +kernel
theorem dX7_step_91 : decode cX7_step 91 = .ok (.aload_n 0, 1) := by decide +kernel
theorem dX7_step_92 : decode cX7_step 92 = .ok (.getfield 26, 3) := by decide +kernel
theorem dX7_step_95 : decode cX7_step 95 = .ok (.getfield 171, 3) := by decide +kernel
theorem dX7_step_98 : decode cX7_step 98 = .ok (.iload_n 1, 1) := by decide +kernel
theorem dX7_step_99 : decode cX7_step 99 = .ok (.iaload, 1) := by decide +kernel
theorem dX7_step_100 : decode cX7_step 100 = .ok (.ireturn, 1) := by decide +kernel
theorem dX7_step_101 : decode cX7_step 101 = .ok (.aload_n 0, 1) := by decide +kernel
theorem dX7_step_102 : decode cX7_step 102 = .ok (.getfield 26, 3) := by decide +kernel
theorem dX7_step_105 : decode cX7_step 105 = .ok (.iload_n 1, 1) := by decide +kernel
theorem dX7_step_106 : decode cX7_step 106 = .ok (.aload_n 0, 1) := by decide +kernel
theorem dX7_step_107 : decode cX7_step 107 = .ok (.getfield 26, 3) := by decide +kernel
theorem dX7_step_110 : decode cX7_step 110 = .ok (.invokevirtual 148, 3) := by decide +kernel
theorem dX7_step_113 : decode cX7_step 113 = .ok (.invokevirtual 174, 3) := by decide +kernel
theorem dX7_step_116 : decode cX7_step 116 = .ok (.ifCond .eq 7, 3) := by decide +kernel
theorem dX7_step_119 : decode cX7_step 119 = .ok (.iconst 1, 1) := by decide +kernel
theorem dX7_step_120 : decode cX7_step 120 = .ok (.goto 4, 3) := by decide +kernel
theorem dX7_step_123 : decode cX7_step 123 = .ok (.iconst 0, 1) := by decide +kernel
theorem dX7_step_124 : decode cX7_step 124 = .ok (.ireturn, 1) := by decide +kernel
theorem dX7_step_125 : decode cX7_step 125 = .ok (.ldc 66, 2) := by decide +kernel
theorem dX7_step_127 : decode cX7_step 127 = .ok (.ireturn, 1) := by decide +kernel
theorem dX7_part_0 : decode cX7_part 0 = .ok (.aload_n 0, 1) := by decide +kernel
theorem dX7_part_1 : decode cX7_part 1 = .ok (.getfield 26, 3) := by decide +kernel
theorem dX7_part_4 : decode cX7_part 4 = .ok (.iload_n 1, 1) := by decide +kernel
theorem dX7_part_5 : decode cX7_part 5 = .ok (.invokevirtual 156, 3) := by decide +kernel
theorem dX7_part_8 : decode cX7_part 8 = .ok (.ifCond .eq 7, 3) := by decide +kernel
theorem dX7_part_11 : decode cX7_part 11 = .ok (.iload_n 2, 1) := by decide +kernel
theorem dX7_part_12 : decode cX7_part 12 = .ok (.ifCond .ge 6, 3) := by decide +kernel
theorem dX7_part_15 : decode cX7_part 15 = .ok (.ldc 66, 2) := by decide +kernel
theorem dX7_part_17 : decode cX7_part 17 = .ok (.ireturn, 1) := by decide +kernel
theorem dX7_part_18 : decode cX7_part 18 = .ok (.iload_n 2, 1) := by decide +kernel
theorem dX7_part_19 : decode cX7_part 19 = .ok (.aload_n 0, 1) := by decide +kernel
theorem dX7_part_20 : decode cX7_part 20 = .ok (.getfield 26, 3) := by decide +kernel
theorem dX7_part_23 : decode cX7_part 23 = .ok (.getfield 165, 3) := by decide +kernel
theorem dX7_part_26 : decode cX7_part 26 = .ok (.iload_n 1, 1) := by decide +kernel
theorem dX7_part_27 : decode cX7_part 27 = .ok (.iaload, 1) := by decide +kernel
theorem dX7_part_28 : decode cX7_part 28 = .ok (.if_icmp .ge 15, 3) := by decide +kernel
theorem dX7_part_31 : decode cX7_part 31 = .ok (.aload_n 0, 1) := by decide +kernel
theorem dX7_part_32 : decode cX7_part 32 = .ok (.getfield 26, 3) := by decide +kernel
theorem dX7_part_35 : decode cX7_part 35 = .ok (.iload_n 1, 1) := by decide +kernel
theorem dX7_part_36 : decode cX7_part 36 = .ok (.iload_n 2, 1) := by decide +kernel
theorem dX7_part_37 : decode cX7_part 37 = .ok (.invokevirtual 177, 3) := by decide +kernel
theorem dX7_part_40 : decode cX7_part 40 = .ok (.goto 5, 3) := by decide +kernel
theorem dX7_part_43 : decode cX7_part 43 = .ok (.ldc 135, 2) := by decide +kernel
theorem dX7_part_45 : decode cX7_part 45 = .ok (.ireturn, 1) := by decide +kernel
theorem dX7_doubt_0 : decode cX7_doubt 0 = .ok (.aload_n 0, 1) := by decide +kernel
theorem dX7_doubt_1 : decode cX7_doubt 1 = .ok (.getfield 26, 3) := by decide +kernel
theorem dX7_doubt_4 : decode cX7_doubt 4 = .ok (.iload_n 1, 1) := by decide +kernel
theorem dX7_doubt_5 : decode cX7_doubt 5 = .ok (.invokevirtual 156, 3) := by decide +kernel
theorem dX7_doubt_8 : decode cX7_doubt 8 = .ok (.ifCond .eq 21, 3) := by decide +kernel
theorem dX7_doubt_11 : decode cX7_doubt 11 = .ok (.iload_n 2, 1) := by decide +kernel
theorem dX7_doubt_12 : decode cX7_doubt 12 = .ok (.iconst 0, 1) := by decide +kernel
theorem dX7_doubt_13 : decode cX7_doubt 13 = .ok (.aload_n 0, 1) := by decide +kernel
theorem dX7_doubt_14 : decode cX7_doubt 14 = .ok (.getfield 26, 3) := by decide +kernel
theorem dX7_doubt_17 : decode cX7_doubt 17 = .ok (.iload_n 1, 1) := by decide +kernel
theorem dX7_doubt_18 : decode cX7_doubt 18 = .ok (.invokevirtual 168, 3) := by decide +kernel
theorem dX7_doubt_21 : decode cX7_doubt 21 = .ok (.iconst 1, 1) := by decide +kernel
theorem dX7_doubt_22 : decode cX7_doubt 22 = .ok (.isub, 1) := by decide +kernel
theorem dX7_doubt_23 : decode cX7_doubt 23 = .ok (.invokestatic 62, 3) := by decide +kernel
theorem dX7_doubt_26 : decode cX7_doubt 26 = .ok (.ifCond .ne 6, 3) := by decide +kernel
theorem dX7_doubt_29 : decode cX7_doubt 29 = .ok (.ldc 66, 2) := by decide +kernel
theorem dX7_doubt_31 : decode cX7_doubt 31 = .ok (.ireturn, 1) := by decide +kernel
theorem dX7_doubt_32 : decode cX7_doubt 32 = .ok (.iload_n 3, 1) := by decide +kernel
theorem dX7_doubt_33 : decode cX7_doubt 33 = .ok (.iconst 0, 1) := by decide +kernel
theorem dX7_doubt_34 : decode cX7_doubt 34 = .ok (.bipush 11, 2) := by decide +kernel
theorem dX7_doubt_36 : decode cX7_doubt 36 = .ok (.invokestatic 62, 3) := by decide +kernel
theorem dX7_doubt_39 : decode cX7_doubt 39 = .ok (.ifCond .ne 6, 3) := by decide +kernel
theorem dX7_doubt_42 : decode cX7_doubt 42 = .ok (.ldc 66, 2) := by decide +kernel
theorem dX7_doubt_44 : decode cX7_doubt 44 = .ok (.ireturn, 1) := by decide +kernel
theorem dX7_doubt_45 : decode cX7_doubt 45 = .ok (.aload_n 0, 1) := by decide +kernel
theorem dX7_doubt_46 : decode cX7_doubt 46 = .ok (.getfield 26, 3) := by decide +kernel
theorem dX7_doubt_49 : decode cX7_doubt 49 = .ok (.iload_n 1, 1) := by decide +kernel
theorem dX7_doubt_50 : decode cX7_doubt 50 = .ok (.iload_n 2, 1) := by decide +kernel
theorem dX7_doubt_51 : decode cX7_doubt 51 = .ok (.iload_n 3, 1) := by decide +kernel
theorem dX7_doubt_52 : decode cX7_doubt 52 = .ok (.invokevirtual 180, 3) := by decide +kernel
theorem dX7_doubt_55 : decode cX7_doubt 55 = .ok (.ireturn, 1) := by decide +kernel
theorem dX7_borne_0 : decode cX7_borne 0 = .ok (.iload_n 1, 1) := by decide +kernel
theorem dX7_borne_1 : decode cX7_borne 1 = .ok (.iconst 0, 1) := by decide +kernel
theorem dX7_borne_2 : decode cX7_borne 2 = .ok (.bipush 9, 2) := by decide +kernel
theorem dX7_borne_4 : decode cX7_borne 4 = .ok (.invokestatic 62, 3) := by decide +kernel
theorem dX7_borne_7 : decode cX7_borne 7 = .ok (.ifCond .ne 6, 3) := by decide +kernel
theorem dX7_borne_10 : decode cX7_borne 10 = .ok (.ldc 66, 2) := by decide +kernel
theorem dX7_borne_12 : decode cX7_borne 12 = .ok (.ireturn, 1) := by decide +kernel
theorem dX7_borne_13 : decode cX7_borne 13 = .ok (.aload_n 0, 1) := by decide +kernel
theorem dX7_borne_14 : decode cX7_borne 14 = .ok (.getfield 26, 3) := by decide +kernel
theorem dX7_borne_17 : decode cX7_borne 17 = .ok (.iconst 2, 1) := by decide +kernel
theorem dX7_borne_18 : decode cX7_borne 18 = .ok (.iload_n 1, 1) := by decide +kernel
theorem dX7_borne_19 : decode cX7_borne 19 = .ok (.iadd, 1) := by decide +kernel
theorem dX7_borne_20 : decode cX7_borne 20 = .ok (.invokevirtual 183, 3) := by decide +kernel
theorem dX7_borne_23 : decode cX7_borne 23 = .ok (.ireturn, 1) := by decide +kernel
theorem dX7_looked_0 : decode cX7_looked 0 = .ok (.aload_n 0, 1) := by decide +kernel
theorem dX7_looked_1 : decode cX7_looked 1 = .ok (.getfield 10, 3) := by decide +kernel
theorem dX7_looked_4 : decode cX7_looked 4 = .ok (.iload_n 1, 1) := by decide +kernel
theorem dX7_looked_5 : decode cX7_looked 5 = .ok (.invokevirtual 58, 3) := by decide +kernel
theorem dX7_looked_8 : decode cX7_looked 8 = .ok (.ifCond .eq 13, 3) := by decide +kernel
theorem dX7_looked_11 : decode cX7_looked 11 = .ok (.iload_n 3, 1) := by decide +kernel
theorem dX7_looked_12 : decode cX7_looked 12 = .ok (.iconst 1, 1) := by decide +kernel
theorem dX7_looked_13 : decode cX7_looked 13 = .ok (.bipush 8, 2) := by decide +kernel
theorem dX7_looked_15 : decode cX7_looked 15 = .ok (.invokestatic 62, 3) := by decide +kernel
theorem dX7_looked_18 : decode cX7_looked 18 = .ok (.ifCond .ne 6, 3) := by decide +kernel
theorem dX7_looked_21 : decode cX7_looked 21 = .ok (.ldc 66, 2) := by decide +kernel
theorem dX7_looked_23 : decode cX7_looked 23 = .ok (.ireturn, 1) := by decide +kernel
theorem dX7_looked_24 : decode cX7_looked 24 = .ok (.aload_n 0, 1) := by decide +kernel
theorem dX7_looked_25 : decode cX7_looked 25 = .ok (.getfield 10, 3) := by decide +kernel
theorem dX7_looked_28 : decode cX7_looked 28 = .ok (.iload_n 1, 1) := by decide +kernel
theorem dX7_looked_29 : decode cX7_looked 29 = .ok (.invokevirtual 78, 3) := by decide +kernel
theorem dX7_looked_32 : decode cX7_looked 32 = .ok (.ifCond .eq 9, 3) := by decide +kernel
theorem dX7_looked_35 : decode cX7_looked 35 = .ok (.aload_n 0, 1) := by decide +kernel
theorem dX7_looked_36 : decode cX7_looked 36 = .ok (.iconst 1, 1) := by decide +kernel
theorem dX7_looked_37 : decode cX7_looked 37 = .ok (.invokevirtual 67, 3) := by decide +kernel
theorem dX7_looked_40 : decode cX7_looked 40 = .ok (.ireturn, 1) := by decide +kernel
theorem dX7_looked_41 : decode cX7_looked 41 = .ok (.aload_n 0, 1) := by decide +kernel
theorem dX7_looked_42 : decode cX7_looked 42 = .ok (.getfield 10, 3) := by decide +kernel
theorem dX7_looked_45 : decode cX7_looked 45 = .ok (.iload_n 1, 1) := by decide +kernel
theorem dX7_looked_46 : decode cX7_looked 46 = .ok (.iload_n 2, 1) := by decide +kernel
theorem dX7_looked_47 : decode cX7_looked 47 = .ok (.iconst 3, 1) := by decide +kernel
theorem dX7_looked_48 : decode cX7_looked 48 = .ok (.iload_n 3, 1) := by decide +kernel
theorem dX7_looked_49 : decode cX7_looked 49 = .ok (.imul, 1) := by decide +kernel
theorem dX7_looked_50 : decode cX7_looked 50 = .ok (.invokevirtual 81, 3) := by decide +kernel
theorem dX7_looked_53 : decode cX7_looked 53 = .ok (.ifCond .ne 9, 3) := by decide +kernel
theorem dX7_looked_56 : decode cX7_looked 56 = .ok (.aload_n 0, 1) := by decide +kernel
theorem dX7_looked_57 : decode cX7_looked 57 = .ok (.iconst 2, 1) := by decide +kernel
theorem dX7_looked_58 : decode cX7_looked 58 = .ok (.invokevirtual 67, 3) := by decide +kernel
theorem dX7_looked_61 : decode cX7_looked 61 = .ok (.ireturn, 1) := by decide +kernel
theorem dX7_looked_62 : decode cX7_looked 62 = .ok (.iconst 0, 1) := by decide +kernel
theorem dX7_looked_63 : decode cX7_looked 63 = .ok (.istore 4, 2) := by decide +kernel
theorem dX7_looked_65 : decode cX7_looked 65 = .ok (.iload 4, 2) := by decide +kernel
theorem dX7_looked_67 : decode cX7_looked 67 = .ok (.iload_n 3, 1) := by decide +kernel
theorem dX7_looked_68 : decode cX7_looked 68 = .ok (.if_icmp .ge 26, 3) := by decide +kernel
theorem dX7_looked_71 : decode cX7_looked 71 = .ok (.aload_n 0, 1) := by decide +kernel
theorem dX7_looked_72 : decode cX7_looked 72 = .ok (.iload_n 1, 1) := by decide +kernel
theorem dX7_looked_73 : decode cX7_looked 73 = .ok (.iload_n 2, 1) := by decide +kernel
theorem dX7_looked_74 : decode cX7_looked 74 = .ok (.iconst 3, 1) := by decide +kernel
theorem dX7_looked_75 : decode cX7_looked 75 = .ok (.iload 4, 2) := by decide +kernel
theorem dX7_looked_77 : decode cX7_looked 77 = .ok (.imul, 1) := by decide +kernel
theorem dX7_looked_78 : decode cX7_looked 78 = .ok (.iadd, 1) := by decide +kernel
theorem dX7_looked_79 : decode cX7_looked 79 = .ok (.invokevirtual 186, 3) := by decide +kernel
theorem dX7_looked_82 : decode cX7_looked 82 = .ok (.ifCond .ne 6, 3) := by decide +kernel
theorem dX7_looked_85 : decode cX7_looked 85 = .ok (.ldc 66, 2) := by decide +kernel
theorem dX7_looked_87 : decode cX7_looked 87 = .ok (.ireturn, 1) := by decide +kernel
theorem dX7_looked_88 : decode cX7_looked 88 = .ok (.iinc 4 1, 3) := by decide +kernel
theorem dX7_looked_91 : decode cX7_looked 91 = .ok (.goto (-26), 3) := by decide +kernel
theorem dX7_looked_94 : decode cX7_looked 94 = .ok (.iconst 0, 1) := by decide +kernel
theorem dX7_looked_95 : decode cX7_looked 95 = .ok (.istore 4, 2) := by decide +kernel
theorem dX7_looked_97 : decode cX7_looked 97 = .ok (.iload 4, 2) := by decide +kernel
theorem dX7_looked_99 : decode cX7_looked 99 = .ok (.iload_n 3, 1) := by decide +kernel
theorem dX7_looked_100 : decode cX7_looked 100 = .ok (.if_icmp .ge 20, 3) := by decide +kernel
theorem dX7_looked_103 : decode cX7_looked 103 = .ok (.aload_n 0, 1) := by decide +kernel
theorem dX7_looked_104 : decode cX7_looked 104 = .ok (.iload_n 1, 1) := by decide +kernel
theorem dX7_looked_105 : decode cX7_looked 105 = .ok (.iload_n 2, 1) := by decide +kernel
theorem dX7_looked_106 : decode cX7_looked 106 = .ok (.iconst 3, 1) := by decide +kernel
theorem dX7_looked_107 : decode cX7_looked 107 = .ok (.iload 4, 2) := by decide +kernel
theorem dX7_looked_109 : decode cX7_looked 109 = .ok (.imul, 1) := by decide +kernel
theorem dX7_looked_110 : decode cX7_looked 110 = .ok (.iadd, 1) := by decide +kernel
theorem dX7_looked_111 : decode cX7_looked 111 = .ok (.invokevirtual 189, 3) := by decide +kernel
theorem dX7_looked_114 : decode cX7_looked 114 = .ok (.iinc 4 1, 3) := by decide +kernel
theorem dX7_looked_117 : decode cX7_looked 117 = .ok (.goto (-20), 3) := by decide +kernel
theorem dX7_looked_120 : decode cX7_looked 120 = .ok (.aload_n 0, 1) := by decide +kernel
theorem dX7_looked_121 : decode cX7_looked 121 = .ok (.iload_n 3, 1) := by decide +kernel
theorem dX7_looked_122 : decode cX7_looked 122 = .ok (.invokevirtual 75, 3) := by decide +kernel
theorem dX7_looked_125 : decode cX7_looked 125 = .ok (.ireturn, 1) := by decide +kernel
theorem dX7_fall_0 : decode cX7_fall 0 = .ok (.aload_n 0, 1) := by decide +kernel
theorem dX7_fall_1 : decode cX7_fall 1 = .ok (.getfield 26, 3) := by decide +kernel
theorem dX7_fall_4 : decode cX7_fall 4 = .ok (.iload_n 1, 1) := by decide +kernel
theorem dX7_fall_5 : decode cX7_fall 5 = .ok (.invokevirtual 192, 3) := by decide +kernel
theorem dX7_fall_8 : decode cX7_fall 8 = .ok (.ifCond .eq 12, 3) := by decide +kernel
theorem dX7_fall_11 : decode cX7_fall 11 = .ok (.iload_n 2, 1) := by decide +kernel
theorem dX7_fall_12 : decode cX7_fall 12 = .ok (.iconst 0, 1) := by decide +kernel
theorem dX7_fall_13 : decode cX7_fall 13 = .ok (.iconst 1, 1) := by decide +kernel
theorem dX7_fall_14 : decode cX7_fall 14 = .ok (.invokestatic 62, 3) := by decide +kernel
theorem dX7_fall_17 : decode cX7_fall 17 = .ok (.ifCond .ne 6, 3) := by decide +kernel
theorem dX7_fall_20 : decode cX7_fall 20 = .ok (.ldc 66, 2) := by decide +kernel
theorem dX7_fall_22 : decode cX7_fall 22 = .ok (.ireturn, 1) := by decide +kernel
theorem dX7_fall_23 : decode cX7_fall 23 = .ok (.aload_n 0, 1) := by decide +kernel
theorem dX7_fall_24 : decode cX7_fall 24 = .ok (.getfield 26, 3) := by decide +kernel
theorem dX7_fall_27 : decode cX7_fall 27 = .ok (.getfield 145, 3) := by decide +kernel
theorem dX7_fall_30 : decode cX7_fall 30 = .ok (.iload_n 1, 1) := by decide +kernel
theorem dX7_fall_31 : decode cX7_fall 31 = .ok (.iaload, 1) := by decide +kernel
theorem dX7_fall_32 : decode cX7_fall 32 = .ok (.istore_n 3, 1) := by decide +kernel
theorem dX7_fall_33 : decode cX7_fall 33 = .ok (.aload_n 0, 1) := by decide +kernel
theorem dX7_fall_34 : decode cX7_fall 34 = .ok (.getfield 26, 3) := by decide +kernel
theorem dX7_fall_37 : decode cX7_fall 37 = .ok (.getfield 145, 3) := by decide +kernel
theorem dX7_fall_40 : decode cX7_fall 40 = .ok (.iload_n 1, 1) := by decide +kernel
theorem dX7_fall_41 : decode cX7_fall 41 = .ok (.iload_n 2, 1) := by decide +kernel
theorem dX7_fall_42 : decode cX7_fall 42 = .ok (.iastore, 1) := by decide +kernel
theorem dX7_fall_43 : decode cX7_fall 43 = .ok (.iload_n 3, 1) := by decide +kernel
theorem dX7_fall_44 : decode cX7_fall 44 = .ok (.ireturn, 1) := by decide +kernel
theorem dX7_day_0 : decode cX7_day 0 = .ok (.iload_n 1, 1) := by decide +kernel
theorem dX7_day_1 : decode cX7_day 1 = .ok (.iconst 0, 1) := by decide +kernel
theorem dX7_day_2 : decode cX7_day 2 = .ok (.sipush 9999, 3) := by decide +kernel
theorem dX7_day_5 : decode cX7_day 5 = .ok (.invokestatic 62, 3) := by decide +kernel
theorem dX7_day_8 : decode cX7_day 8 = .ok (.ifCond .ne 6, 3) := by decide +kernel
theorem dX7_day_11 : decode cX7_day 11 = .ok (.ldc 66, 2) := by decide +kernel
theorem dX7_day_13 : decode cX7_day 13 = .ok (.ireturn, 1) := by decide +kernel
theorem dX7_day_14 : decode cX7_day 14 = .ok (.aload_n 0, 1) := by decide +kernel
theorem dX7_day_15 : decode cX7_day 15 = .ok (.getfield 26, 3) := by decide +kernel
theorem dX7_day_18 : decode cX7_day 18 = .ok (.getfield 195, 3) := by decide +kernel
theorem dX7_day_21 : decode cX7_day 21 = .ok (.istore_n 2, 1) := by decide +kernel
theorem dX7_day_22 : decode cX7_day 22 = .ok (.aload_n 0, 1) := by decide +kernel
theorem dX7_day_23 : decode cX7_day 23 = .ok (.getfield 26, 3) := by decide +kernel
theorem dX7_day_26 : decode cX7_day 26 = .ok (.iload_n 1, 1) := by decide +kernel
theorem dX7_day_27 : decode cX7_day 27 = .ok (.putfield 195, 3) := by decide +kernel
theorem dX7_day_30 : decode cX7_day 30 = .ok (.iload_n 2, 1) := by decide +kernel
theorem dX7_day_31 : decode cX7_day 31 = .ok (.ireturn, 1) := by decide +kernel
theorem dX7_shown_0 : decode cX7_shown 0 = .ok (.iload_n 1, 1) := by decide +kernel
theorem dX7_shown_1 : decode cX7_shown 1 = .ok (.tableswitch 59 0 2 #[27, 43, 51], 27) := by decide +kernel
theorem dX7_shown_28 : decode cX7_shown 28 = .ok (.aload_n 0, 1) := by decide +kernel
theorem dX7_shown_29 : decode cX7_shown 29 = .ok (.getfield 26, 3) := by decide +kernel
theorem dX7_shown_32 : decode cX7_shown 32 = .ok (.invokevirtual 148, 3) := by decide +kernel
theorem dX7_shown_35 : decode cX7_shown 35 = .ok (.aload_n 0, 1) := by decide +kernel
theorem dX7_shown_36 : decode cX7_shown 36 = .ok (.getfield 26, 3) := by decide +kernel
theorem dX7_shown_39 : decode cX7_shown 39 = .ok (.invokevirtual 198, 3) := by decide +kernel
theorem dX7_shown_42 : decode cX7_shown 42 = .ok (.iand, 1) := by decide +kernel
theorem dX7_shown_43 : decode cX7_shown 43 = .ok (.ireturn, 1) := by decide +kernel
theorem dX7_shown_44 : decode cX7_shown 44 = .ok (.aload_n 0, 1) := by decide +kernel
theorem dX7_shown_45 : decode cX7_shown 45 = .ok (.getfield 26, 3) := by decide +kernel
theorem dX7_shown_48 : decode cX7_shown 48 = .ok (.invokevirtual 201, 3) := by decide +kernel
theorem dX7_shown_51 : decode cX7_shown 51 = .ok (.ireturn, 1) := by decide +kernel
theorem dX7_shown_52 : decode cX7_shown 52 = .ok (.aload_n 0, 1) := by decide +kernel
theorem dX7_shown_53 : decode cX7_shown 53 = .ok (.getfield 26, 3) := by decide +kernel
theorem dX7_shown_56 : decode cX7_shown 56 = .ok (.invokevirtual 204, 3) := by decide +kernel
theorem dX7_shown_59 : decode cX7_shown 59 = .ok (.ireturn, 1) := by decide +kernel
theorem dX7_shown_60 : decode cX7_shown 60 = .ok (.ldc 66, 2) := by decide +kernel
theorem dX7_shown_62 : decode cX7_shown 62 = .ok (.ireturn, 1) := by decide +kernel
theorem dX7_leaning_0 : decode cX7_leaning 0 = .ok (.aload_n 0, 1) := by decide +kernel
theorem dX7_leaning_1 : decode cX7_leaning 1 = .ok (.getfield 26, 3) := by decide +kernel
theorem dX7_leaning_4 : decode cX7_leaning 4 = .ok (.iload_n 1, 1) := by decide +kernel
theorem dX7_leaning_5 : decode cX7_leaning 5 = .ok (.invokevirtual 125, 3) := by decide +kernel
theorem dX7_leaning_8 : decode cX7_leaning 8 = .ok (.ifCond .ne 6, 3) := by decide +kernel
theorem dX7_leaning_11 : decode cX7_leaning 11 = .ok (.ldc 66, 2) := by decide +kernel
theorem dX7_leaning_13 : decode cX7_leaning 13 = .ok (.ireturn, 1) := by decide +kernel
theorem dX7_leaning_14 : decode cX7_leaning 14 = .ok (.iconst 1, 1) := by decide +kernel
theorem dX7_leaning_15 : decode cX7_leaning 15 = .ok (.iload_n 1, 1) := by decide +kernel
theorem dX7_leaning_16 : decode cX7_leaning 16 = .ok (.ishl, 1) := by decide +kernel
theorem dX7_leaning_17 : decode cX7_leaning 17 = .ok (.istore_n 2, 1) := by decide +kernel
theorem dX7_leaning_18 : decode cX7_leaning 18 = .ok (.aload_n 0, 1) := by decide +kernel
theorem dX7_leaning_19 : decode cX7_leaning 19 = .ok (.getfield 26, 3) := by decide +kernel
theorem dX7_leaning_22 : decode cX7_leaning 22 = .ok (.aload_n 0, 1) := by decide +kernel
theorem dX7_leaning_23 : decode cX7_leaning 23 = .ok (.getfield 26, 3) := by decide +kernel
theorem dX7_leaning_26 : decode cX7_leaning 26 = .ok (.invokevirtual 207, 3) := by decide +kernel
theorem dX7_leaning_29 : decode cX7_leaning 29 = .ok (.iload_n 2, 1) := by decide +kernel
theorem dX7_leaning_30 : decode cX7_leaning 30 = .ok (.iconst (-1), 1) := by decide +kernel
theorem dX7_leaning_31 : decode cX7_leaning 31 = .ok (.ixor, 1) := by decide +kernel
theorem dX7_leaning_32 : decode cX7_leaning 32 = .ok (.iand, 1) := by decide +kernel
theorem dX7_leaning_33 : decode cX7_leaning 33 = .ok (.iload_n 2, 1) := by decide +kernel
theorem dX7_leaning_34 : decode cX7_leaning 34 = .ok (.invokevirtual 210, 3) := by decide +kernel
theorem dX7_leaning_37 : decode cX7_leaning 37 = .ok (.istore_n 3, 1) := by decide +kernel
theorem dX7_leaning_38 : decode cX7_leaning 38 = .ok (.aload_n 0, 1) := by decide +kernel
theorem dX7_leaning_39 : decode cX7_leaning 39 = .ok (.getfield 26, 3) := by decide +kernel
theorem dX7_leaning_42 : decode cX7_leaning 42 = .ok (.invokevirtual 148, 3) := by decide +kernel
theorem dX7_leaning_45 : decode cX7_leaning 45 = .ok (.aload_n 0, 1) := by decide +kernel
theorem dX7_leaning_46 : decode cX7_leaning 46 = .ok (.getfield 26, 3) := by decide +kernel
theorem dX7_leaning_49 : decode cX7_leaning 49 = .ok (.invokevirtual 198, 3) := by decide +kernel
theorem dX7_leaning_52 : decode cX7_leaning 52 = .ok (.iand, 1) := by decide +kernel
theorem dX7_leaning_53 : decode cX7_leaning 53 = .ok (.iload_n 3, 1) := by decide +kernel
theorem dX7_leaning_54 : decode cX7_leaning 54 = .ok (.iconst (-1), 1) := by decide +kernel
theorem dX7_leaning_55 : decode cX7_leaning 55 = .ok (.ixor, 1) := by decide +kernel
theorem dX7_leaning_56 : decode cX7_leaning 56 = .ok (.iand, 1) := by decide +kernel
theorem dX7_leaning_57 : decode cX7_leaning 57 = .ok (.iload_n 2, 1) := by decide +kernel
theorem dX7_leaning_58 : decode cX7_leaning 58 = .ok (.iconst (-1), 1) := by decide +kernel
theorem dX7_leaning_59 : decode cX7_leaning 59 = .ok (.ixor, 1) := by decide +kernel
theorem dX7_leaning_60 : decode cX7_leaning 60 = .ok (.iand, 1) := by decide +kernel
theorem dX7_leaning_61 : decode cX7_leaning 61 = .ok (.ireturn, 1) := by decide +kernel
theorem dX7_felling_0 : decode cX7_felling 0 = .ok (.aload_n 0, 1) := by decide +kernel
theorem dX7_felling_1 : decode cX7_felling 1 = .ok (.getfield 26, 3) := by decide +kernel
theorem dX7_felling_4 : decode cX7_felling 4 = .ok (.iload_n 1, 1) := by decide +kernel
theorem dX7_felling_5 : decode cX7_felling 5 = .ok (.invokevirtual 128, 3) := by decide +kernel
theorem dX7_felling_8 : decode cX7_felling 8 = .ok (.ifCond .eq 8, 3) := by decide +kernel
theorem dX7_felling_11 : decode cX7_felling 11 = .ok (.iload_n 2, 1) := by decide +kernel
theorem dX7_felling_12 : decode cX7_felling 12 = .ok (.iconst (-1), 1) := by decide +kernel
theorem dX7_felling_13 : decode cX7_felling 13 = .ok (.if_icmp .ge 6, 3) := by decide +kernel
theorem dX7_felling_16 : decode cX7_felling 16 = .ok (.ldc 66, 2) := by decide +kernel
theorem dX7_felling_18 : decode cX7_felling 18 = .ok (.ireturn, 1) := by decide +kernel
theorem dX7_felling_19 : decode cX7_felling 19 = .ok (.aload_n 0, 1) := by decide +kernel
theorem dX7_felling_20 : decode cX7_felling 20 = .ok (.getfield 26, 3) := by decide +kernel
theorem dX7_felling_23 : decode cX7_felling 23 = .ok (.invokevirtual 148, 3) := by decide +kernel
theorem dX7_felling_26 : decode cX7_felling 26 = .ok (.iload_n 1, 1) := by decide +kernel
theorem dX7_felling_27 : decode cX7_felling 27 = .ok (.invokestatic 152, 3) := by decide +kernel
theorem dX7_felling_30 : decode cX7_felling 30 = .ok (.ifCond .ne 6, 3) := by decide +kernel
theorem dX7_felling_33 : decode cX7_felling 33 = .ok (.ldc 213, 2) := by decide +kernel
theorem dX7_felling_35 : decode cX7_felling 35 = .ok (.ireturn, 1) := by decide +kernel
theorem dX7_felling_36 : decode cX7_felling 36 = .ok (.aload_n 0, 1) := by decide +kernel
theorem dX7_felling_37 : decode cX7_felling 37 = .ok (.getfield 33, 3) := by decide +kernel
theorem dX7_felling_40 : decode cX7_felling 40 = .ok (.aload_n 0, 1) := by decide +kernel
theorem dX7_felling_41 : decode cX7_felling 41 = .ok (.getfield 26, 3) := by decide +kernel
theorem dX7_felling_44 : decode cX7_felling 44 = .ok (.iload_n 1, 1) := by decide +kernel
theorem dX7_felling_45 : decode cX7_felling 45 = .ok (.iload_n 2, 1) := by decide +kernel
theorem dX7_felling_46 : decode cX7_felling 46 = .ok (.invokevirtual 214, 3) := by decide +kernel
theorem dX7_felling_49 : decode cX7_felling 49 = .ok (.ireturn, 1) := by decide +kernel
theorem dX7_hand_0 : decode cX7_hand 0 = .ok (.aload_n 0, 1) := by decide +kernel
theorem dX7_hand_1 : decode cX7_hand 1 = .ok (.getfield 26, 3) := by decide +kernel
theorem dX7_hand_4 : decode cX7_hand 4 = .ok (.invokevirtual 207, 3) := by decide +kernel
theorem dX7_hand_7 : decode cX7_hand 7 = .ok (.istore_n 1, 1) := by decide +kernel
theorem dX7_hand_8 : decode cX7_hand 8 = .ok (.aload_n 0, 1) := by decide +kernel
theorem dX7_hand_9 : decode cX7_hand 9 = .ok (.getfield 26, 3) := by decide +kernel
theorem dX7_hand_12 : decode cX7_hand 12 = .ok (.invokevirtual 148, 3) := by decide +kernel
theorem dX7_hand_15 : decode cX7_hand 15 = .ok (.aload_n 0, 1) := by decide +kernel
theorem dX7_hand_16 : decode cX7_hand 16 = .ok (.getfield 26, 3) := by decide +kernel
theorem dX7_hand_19 : decode cX7_hand 19 = .ok (.invokevirtual 198, 3) := by decide +kernel
theorem dX7_hand_22 : decode cX7_hand 22 = .ok (.iand, 1) := by decide +kernel
theorem dX7_hand_23 : decode cX7_hand 23 = .ok (.istore_n 2, 1) := by decide +kernel
theorem dX7_hand_24 : decode cX7_hand 24 = .ok (.ldc 135, 2) := by decide +kernel
theorem dX7_hand_26 : decode cX7_hand 26 = .ok (.istore_n 3, 1) := by decide +kernel
theorem dX7_hand_27 : decode cX7_hand 27 = .ok (.iconst 0, 1) := by decide +kernel
theorem dX7_hand_28 : decode cX7_hand 28 = .ok (.istore 4, 2) := by decide +kernel
theorem dX7_hand_30 : decode cX7_hand 30 = .ok (.iconst 0, 1) := by decide +kernel
theorem dX7_hand_31 : decode cX7_hand 31 = .ok (.istore 5, 2) := by decide +kernel
theorem dX7_hand_33 : decode cX7_hand 33 = .ok (.iload 5, 2) := by decide +kernel
theorem dX7_hand_35 : decode cX7_hand 35 = .ok (.bipush 9, 2) := by decide +kernel
theorem dX7_hand_37 : decode cX7_hand 37 = .ok (.if_icmp .gt 57, 3) := by decide +kernel
theorem dX7_hand_40 : decode cX7_hand 40 = .ok (.aload_n 0, 1) := by decide +kernel
theorem dX7_hand_41 : decode cX7_hand 41 = .ok (.getfield 26, 3) := by decide +kernel
theorem dX7_hand_44 : decode cX7_hand 44 = .ok (.iload_n 1, 1) := by decide +kernel
theorem dX7_hand_45 : decode cX7_hand 45 = .ok (.aload_n 0, 1) := by decide +kernel
theorem dX7_hand_46 : decode cX7_hand 46 = .ok (.getfield 26, 3) := by decide +kernel
theorem dX7_hand_49 : decode cX7_hand 49 = .ok (.iload 5, 2) := by decide +kernel
theorem dX7_hand_51 : decode cX7_hand 51 = .ok (.invokevirtual 218, 3) := by decide +kernel
theorem dX7_hand_54 : decode cX7_hand 54 = .ok (.iconst (-1), 1) := by decide +kernel
theorem dX7_hand_55 : decode cX7_hand 55 = .ok (.ixor, 1) := by decide +kernel
theorem dX7_hand_56 : decode cX7_hand 56 = .ok (.iand, 1) := by decide +kernel
theorem dX7_hand_57 : decode cX7_hand 57 = .ok (.iconst 0, 1) := by decide +kernel
theorem dX7_hand_58 : decode cX7_hand 58 = .ok (.invokevirtual 210, 3) := by decide +kernel
theorem dX7_hand_61 : decode cX7_hand 61 = .ok (.istore 6, 2) := by decide +kernel
theorem dX7_hand_63 : decode cX7_hand 63 = .ok (.iload_n 2, 1) := by decide +kernel
theorem dX7_hand_64 : decode cX7_hand 64 = .ok (.iload 6, 2) := by decide +kernel
theorem dX7_hand_66 : decode cX7_hand 66 = .ok (.iconst (-1), 1) := by decide +kernel
theorem dX7_hand_67 : decode cX7_hand 67 = .ok (.ixor, 1) := by decide +kernel
theorem dX7_hand_68 : decode cX7_hand 68 = .ok (.iand, 1) := by decide +kernel
theorem dX7_hand_69 : decode cX7_hand 69 = .ok (.invokestatic 221, 3) := by decide +kernel
theorem dX7_hand_72 : decode cX7_hand 72 = .ok (.istore 7, 2) := by decide +kernel
theorem dX7_hand_74 : decode cX7_hand 74 = .ok (.iload 7, 2) := by decide +kernel
theorem dX7_hand_76 : decode cX7_hand 76 = .ok (.iload 4, 2) := by decide +kernel
theorem dX7_hand_78 : decode cX7_hand 78 = .ok (.if_icmp .le 10, 3) := by decide +kernel
theorem dX7_hand_81 : decode cX7_hand 81 = .ok (.iload 7, 2) := by decide +kernel
theorem dX7_hand_83 : decode cX7_hand 83 = .ok (.istore 4, 2) := by decide +kernel
theorem dX7_hand_85 : decode cX7_hand 85 = .ok (.iload 5, 2) := by decide +kernel
theorem dX7_hand_87 : decode cX7_hand 87 = .ok (.istore_n 3, 1) := by decide +kernel
theorem dX7_hand_88 : decode cX7_hand 88 = .ok (.iinc 5 1, 3) := by decide +kernel
theorem dX7_hand_91 : decode cX7_hand 91 = .ok (.goto (-58), 3) := by decide +kernel
theorem dX7_hand_94 : decode cX7_hand 94 = .ok (.iload_n 3, 1) := by decide +kernel
theorem dX7_hand_95 : decode cX7_hand 95 = .ok (.ireturn, 1) := by decide +kernel
theorem dX7_weigh_0 : decode cX7_weigh 0 = .ok (.aload_n 0, 1) := by decide +kernel
theorem dX7_weigh_1 : decode cX7_weigh 1 = .ok (.getfield 26, 3) := by decide +kernel
theorem dX7_weigh_4 : decode cX7_weigh 4 = .ok (.iload_n 1, 1) := by decide +kernel
theorem dX7_weigh_5 : decode cX7_weigh 5 = .ok (.invokevirtual 192, 3) := by decide +kernel
theorem dX7_weigh_8 : decode cX7_weigh 8 = .ok (.ifCond .eq 11, 3) := by decide +kernel
theorem dX7_weigh_11 : decode cX7_weigh 11 = .ok (.iload_n 2, 1) := by decide +kernel
theorem dX7_weigh_12 : decode cX7_weigh 12 = .ok (.iload_n 3, 1) := by decide +kernel
theorem dX7_weigh_13 : decode cX7_weigh 13 = .ok (.invokestatic 226, 3) := by decide +kernel
theorem dX7_weigh_16 : decode cX7_weigh 16 = .ok (.ifCond .ne 6, 3) := by decide +kernel
theorem dX7_weigh_19 : decode cX7_weigh 19 = .ok (.ldc 66, 2) := by decide +kernel
theorem dX7_weigh_21 : decode cX7_weigh 21 = .ok (.ireturn, 1) := by decide +kernel
theorem dX7_weigh_22 : decode cX7_weigh 22 = .ok (.aload_n 0, 1) := by decide +kernel
theorem dX7_weigh_23 : decode cX7_weigh 23 = .ok (.getfield 40, 3) := by decide +kernel
theorem dX7_weigh_26 : decode cX7_weigh 26 = .ok (.iload_n 1, 1) := by decide +kernel
theorem dX7_weigh_27 : decode cX7_weigh 27 = .ok (.invokevirtual 229, 3) := by decide +kernel
theorem dX7_weigh_30 : decode cX7_weigh 30 = .ok (.ifCond .eq 6, 3) := by decide +kernel
theorem dX7_weigh_33 : decode cX7_weigh 33 = .ok (.ldc 213, 2) := by decide +kernel
theorem dX7_weigh_35 : decode cX7_weigh 35 = .ok (.ireturn, 1) := by decide +kernel
theorem dX7_weigh_36 : decode cX7_weigh 36 = .ok (.aload_n 0, 1) := by decide +kernel
theorem dX7_weigh_37 : decode cX7_weigh 37 = .ok (.getfield 40, 3) := by decide +kernel
theorem dX7_weigh_40 : decode cX7_weigh 40 = .ok (.invokevirtual 232, 3) := by decide +kernel
theorem dX7_weigh_43 : decode cX7_weigh 43 = .ok (.ifCond .eq 6, 3) := by decide +kernel
theorem dX7_weigh_46 : decode cX7_weigh 46 = .ok (.ldc 102, 2) := by decide +kernel
theorem dX7_weigh_48 : decode cX7_weigh 48 = .ok (.ireturn, 1) := by decide +kernel
theorem dX7_weigh_49 : decode cX7_weigh 49 = .ok (.aload_n 0, 1) := by decide +kernel
theorem dX7_weigh_50 : decode cX7_weigh 50 = .ok (.getfield 40, 3) := by decide +kernel
theorem dX7_weigh_53 : decode cX7_weigh 53 = .ok (.iload_n 1, 1) := by decide +kernel
theorem dX7_weigh_54 : decode cX7_weigh 54 = .ok (.iload_n 2, 1) := by decide +kernel
theorem dX7_weigh_55 : decode cX7_weigh 55 = .ok (.iload_n 3, 1) := by decide +kernel
theorem dX7_weigh_56 : decode cX7_weigh 56 = .ok (.invokevirtual 236, 3) := by decide +kernel
theorem dX7_weigh_59 : decode cX7_weigh 59 = .ok (.ireturn, 1) := by decide +kernel
theorem dX7_pair_0 : decode cX7_pair 0 = .ok (.aload_n 0, 1) := by decide +kernel
theorem dX7_pair_1 : decode cX7_pair 1 = .ok (.getfield 40, 3) := by decide +kernel
theorem dX7_pair_4 : decode cX7_pair 4 = .ok (.iload_n 1, 1) := by decide +kernel
theorem dX7_pair_5 : decode cX7_pair 5 = .ok (.invokevirtual 239, 3) := by decide +kernel
theorem dX7_pair_8 : decode cX7_pair 8 = .ok (.ifCond .eq 28, 3) := by decide +kernel
theorem dX7_pair_11 : decode cX7_pair 11 = .ok (.aload_n 0, 1) := by decide +kernel
theorem dX7_pair_12 : decode cX7_pair 12 = .ok (.getfield 40, 3) := by decide +kernel
theorem dX7_pair_15 : decode cX7_pair 15 = .ok (.iload_n 2, 1) := by decide +kernel
theorem dX7_pair_16 : decode cX7_pair 16 = .ok (.invokevirtual 239, 3) := by decide +kernel
theorem dX7_pair_19 : decode cX7_pair 19 = .ok (.ifCond .eq 17, 3) := by decide +kernel
theorem dX7_pair_22 : decode cX7_pair 22 = .ok (.iload_n 1, 1) := by decide +kernel
theorem dX7_pair_23 : decode cX7_pair 23 = .ok (.iload_n 2, 1) := by decide +kernel
theorem dX7_pair_24 : decode cX7_pair 24 = .ok (.if_icmp .eq 12, 3) := by decide +kernel
theorem dX7_pair_27 : decode cX7_pair 27 = .ok (.iload_n 3, 1) := by decide +kernel
theorem dX7_pair_28 : decode cX7_pair 28 = .ok (.iload 4, 2) := by decide +kernel
theorem dX7_pair_30 : decode cX7_pair 30 = .ok (.invokestatic 226, 3) := by decide +kernel
theorem dX7_pair_33 : decode cX7_pair 33 = .ok (.ifCond .ne 6, 3) := by decide +kernel
theorem dX7_pair_36 : decode cX7_pair 36 = .ok (.ldc 66, 2) := by decide +kernel
theorem dX7_pair_38 : decode cX7_pair 38 = .ok (.ireturn, 1) := by decide +kernel
theorem dX7_pair_39 : decode cX7_pair 39 = .ok (.aload_n 0, 1) := by decide +kernel
theorem dX7_pair_40 : decode cX7_pair 40 = .ok (.getfield 40, 3) := by decide +kernel
theorem dX7_pair_43 : decode cX7_pair 43 = .ok (.iload_n 1, 1) := by decide +kernel
theorem dX7_pair_44 : decode cX7_pair 44 = .ok (.iload_n 2, 1) := by decide +kernel
theorem dX7_pair_45 : decode cX7_pair 45 = .ok (.iload_n 3, 1) := by decide +kernel
theorem dX7_pair_46 : decode cX7_pair 46 = .ok (.iload 4, 2) := by decide +kernel
theorem dX7_pair_48 : decode cX7_pair 48 = .ok (.invokevirtual 242, 3) := by decide +kernel
theorem dX7_pair_51 : decode cX7_pair 51 = .ok (.iconst 1, 1) := by decide +kernel
theorem dX7_pair_52 : decode cX7_pair 52 = .ok (.ireturn, 1) := by decide +kernel
theorem dX7_unweigh_0 : decode cX7_unweigh 0 = .ok (.aload_n 0, 1) := by decide +kernel
theorem dX7_unweigh_1 : decode cX7_unweigh 1 = .ok (.getfield 40, 3) := by decide +kernel
theorem dX7_unweigh_4 : decode cX7_unweigh 4 = .ok (.invokevirtual 246, 3) := by decide +kernel
theorem dX7_unweigh_7 : decode cX7_unweigh 7 = .ok (.ireturn, 1) := by decide +kernel
theorem dX7_agree_0 : decode cX7_agree 0 = .ok (.aload_n 0, 1) := by decide +kernel
theorem dX7_agree_1 : decode cX7_agree 1 = .ok (.getfield 40, 3) := by decide +kernel
theorem dX7_agree_4 : decode cX7_agree 4 = .ok (.iconst 0, 1) := by decide +kernel
theorem dX7_agree_5 : decode cX7_agree 5 = .ok (.invokevirtual 249, 3) := by decide +kernel
theorem dX7_agree_8 : decode cX7_agree 8 = .ok (.ifCond .eq 7, 3) := by decide +kernel
theorem dX7_agree_11 : decode cX7_agree 11 = .ok (.iconst 1, 1) := by decide +kernel
theorem dX7_agree_12 : decode cX7_agree 12 = .ok (.goto 4, 3) := by decide +kernel
theorem dX7_agree_15 : decode cX7_agree 15 = .ok (.iconst 0, 1) := by decide +kernel
theorem dX7_agree_16 : decode cX7_agree 16 = .ok (.ireturn, 1) := by decide +kernel
theorem dX7_odds_0 : decode cX7_odds 0 = .ok (.aload_n 0, 1) := by decide +kernel
theorem dX7_odds_1 : decode cX7_odds 1 = .ok (.getfield 26, 3) := by decide +kernel
theorem dX7_odds_4 : decode cX7_odds 4 = .ok (.iload_n 1, 1) := by decide +kernel
theorem dX7_odds_5 : decode cX7_odds 5 = .ok (.invokevirtual 128, 3) := by decide +kernel
theorem dX7_odds_8 : decode cX7_odds 8 = .ok (.ifCond .eq 12, 3) := by decide +kernel
theorem dX7_odds_11 : decode cX7_odds 11 = .ok (.iload_n 2, 1) := by decide +kernel
theorem dX7_odds_12 : decode cX7_odds 12 = .ok (.iconst 0, 1) := by decide +kernel
theorem dX7_odds_13 : decode cX7_odds 13 = .ok (.iconst 3, 1) := by decide +kernel
theorem dX7_odds_14 : decode cX7_odds 14 = .ok (.invokestatic 62, 3) := by decide +kernel
theorem dX7_odds_17 : decode cX7_odds 17 = .ok (.ifCond .ne 6, 3) := by decide +kernel
theorem dX7_odds_20 : decode cX7_odds 20 = .ok (.ldc 66, 2) := by decide +kernel
theorem dX7_odds_22 : decode cX7_odds 22 = .ok (.ireturn, 1) := by decide +kernel
theorem dX7_odds_23 : decode cX7_odds 23 = .ok (.aload_n 0, 1) := by decide +kernel
theorem dX7_odds_24 : decode cX7_odds 24 = .ok (.getfield 40, 3) := by decide +kernel
theorem dX7_odds_27 : decode cX7_odds 27 = .ok (.aload_n 0, 1) := by decide +kernel
theorem dX7_odds_28 : decode cX7_odds 28 = .ok (.getfield 26, 3) := by decide +kernel
theorem dX7_odds_31 : decode cX7_odds 31 = .ok (.iload_n 1, 1) := by decide +kernel
theorem dX7_odds_32 : decode cX7_odds 32 = .ok (.invokevirtual 252, 3) := by decide +kernel
theorem dX7_odds_35 : decode cX7_odds 35 = .ok (.istore_n 3, 1) := by decide +kernel
theorem dX7_odds_36 : decode cX7_odds 36 = .ok (.iload_n 2, 1) := by decide +kernel
theorem dX7_odds_37 : decode cX7_odds 37 = .ok (.iconst 2, 1) := by decide +kernel
theorem dX7_odds_38 : decode cX7_odds 38 = .ok (.if_icmp .ge 14, 3) := by decide +kernel
theorem dX7_odds_41 : decode cX7_odds 41 = .ok (.aload_n 0, 1) := by decide +kernel
theorem dX7_odds_42 : decode cX7_odds 42 = .ok (.getfield 40, 3) := by decide +kernel
theorem dX7_odds_45 : decode cX7_odds 45 = .ok (.iload_n 3, 1) := by decide +kernel
theorem dX7_odds_46 : decode cX7_odds 46 = .ok (.invokevirtual 249, 3) := by decide +kernel
theorem dX7_odds_49 : decode cX7_odds 49 = .ok (.goto 11, 3) := by decide +kernel
theorem dX7_odds_52 : decode cX7_odds 52 = .ok (.aload_n 0, 1) := by decide +kernel
theorem dX7_odds_53 : decode cX7_odds 53 = .ok (.getfield 40, 3) := by decide +kernel
theorem dX7_odds_56 : decode cX7_odds 56 = .ok (.iload_n 3, 1) := by decide +kernel
theorem dX7_odds_57 : decode cX7_odds 57 = .ok (.invokevirtual 256, 3) := by decide +kernel
theorem dX7_odds_60 : decode cX7_odds 60 = .ok (.istore 4, 2) := by decide +kernel
theorem dX7_odds_62 : decode cX7_odds 62 = .ok (.iload 4, 2) := by decide +kernel
theorem dX7_odds_64 : decode cX7_odds 64 = .ok (.ifCond .ne 6, 3) := by decide +kernel
theorem dX7_odds_67 : decode cX7_odds 67 = .ok (.ldc 213, 2) := by decide +kernel
theorem dX7_odds_69 : decode cX7_odds 69 = .ok (.ireturn, 1) := by decide +kernel
theorem dX7_odds_70 : decode cX7_odds 70 = .ok (.iload_n 2, 1) := by decide +kernel
theorem dX7_odds_71 : decode cX7_odds 71 = .ok (.iconst 2, 1) := by decide +kernel
theorem dX7_odds_72 : decode cX7_odds 72 = .ok (.irem, 1) := by decide +kernel
theorem dX7_odds_73 : decode cX7_odds 73 = .ok (.ifCond .ne 13, 3) := by decide +kernel
theorem dX7_odds_76 : decode cX7_odds 76 = .ok (.aload_n 0, 1) := by decide +kernel
theorem dX7_odds_77 : decode cX7_odds 77 = .ok (.getfield 40, 3) := by decide +kernel
theorem dX7_odds_80 : decode cX7_odds 80 = .ok (.getfield 259, 3) := by decide +kernel
theorem dX7_odds_83 : decode cX7_odds 83 = .ok (.goto 10, 3) := by decide +kernel
theorem dX7_odds_86 : decode cX7_odds 86 = .ok (.aload_n 0, 1) := by decide +kernel
theorem dX7_odds_87 : decode cX7_odds 87 = .ok (.getfield 40, 3) := by decide +kernel
theorem dX7_odds_90 : decode cX7_odds 90 = .ok (.getfield 263, 3) := by decide +kernel
theorem dX7_odds_93 : decode cX7_odds 93 = .ok (.l2i, 1) := by decide +kernel
theorem dX7_odds_94 : decode cX7_odds 94 = .ok (.ireturn, 1) := by decide +kernel
theorem dX7_raise_0 : decode cX7_raise 0 = .ok (.aload_n 0, 1) := by decide +kernel
theorem dX7_raise_1 : decode cX7_raise 1 = .ok (.getfield 26, 3) := by decide +kernel
theorem dX7_raise_4 : decode cX7_raise 4 = .ok (.iload_n 1, 1) := by decide +kernel
theorem dX7_raise_5 : decode cX7_raise 5 = .ok (.invokevirtual 128, 3) := by decide +kernel
theorem dX7_raise_8 : decode cX7_raise 8 = .ok (.ifCond .ne 6, 3) := by decide +kernel
theorem dX7_raise_11 : decode cX7_raise 11 = .ok (.ldc 66, 2) := by decide +kernel
theorem dX7_raise_13 : decode cX7_raise 13 = .ok (.ireturn, 1) := by decide +kernel
theorem dX7_raise_14 : decode cX7_raise 14 = .ok (.aload_n 0, 1) := by decide +kernel
theorem dX7_raise_15 : decode cX7_raise 15 = .ok (.getfield 40, 3) := by decide +kernel
theorem dX7_raise_18 : decode cX7_raise 18 = .ok (.aload_n 0, 1) := by decide +kernel
theorem dX7_raise_19 : decode cX7_raise 19 = .ok (.getfield 26, 3) := by decide +kernel
theorem dX7_raise_22 : decode cX7_raise 22 = .ok (.iload_n 1, 1) := by decide +kernel
theorem dX7_raise_23 : decode cX7_raise 23 = .ok (.invokevirtual 252, 3) := by decide +kernel
theorem dX7_raise_26 : decode cX7_raise 26 = .ok (.istore_n 2, 1) := by decide +kernel
theorem dX7_raise_27 : decode cX7_raise 27 = .ok (.aload_n 0, 1) := by decide +kernel
theorem dX7_raise_28 : decode cX7_raise 28 = .ok (.getfield 40, 3) := by decide +kernel
theorem dX7_raise_31 : decode cX7_raise 31 = .ok (.iload_n 2, 1) := by decide +kernel
theorem dX7_raise_32 : decode cX7_raise 32 = .ok (.invokevirtual 249, 3) := by decide +kernel
theorem dX7_raise_35 : decode cX7_raise 35 = .ok (.ifCond .ne 6, 3) := by decide +kernel
theorem dX7_raise_38 : decode cX7_raise 38 = .ok (.ldc 213, 2) := by decide +kernel
theorem dX7_raise_40 : decode cX7_raise 40 = .ok (.ireturn, 1) := by decide +kernel
theorem dX7_raise_41 : decode cX7_raise 41 = .ok (.aload_n 0, 1) := by decide +kernel
theorem dX7_raise_42 : decode cX7_raise 42 = .ok (.getfield 40, 3) := by decide +kernel
theorem dX7_raise_45 : decode cX7_raise 45 = .ok (.iload_n 2, 1) := by decide +kernel
theorem dX7_raise_46 : decode cX7_raise 46 = .ok (.invokevirtual 266, 3) := by decide +kernel
theorem dX7_raise_49 : decode cX7_raise 49 = .ok (.istore_n 3, 1) := by decide +kernel
theorem dX7_raise_50 : decode cX7_raise 50 = .ok (.iload_n 3, 1) := by decide +kernel
theorem dX7_raise_51 : decode cX7_raise 51 = .ok (.ifCond .ge 8, 3) := by decide +kernel
theorem dX7_raise_54 : decode cX7_raise 54 = .ok (.ldc 135, 2) := by decide +kernel
theorem dX7_raise_56 : decode cX7_raise 56 = .ok (.goto 12, 3) := by decide +kernel
theorem dX7_raise_59 : decode cX7_raise 59 = .ok (.aload_n 0, 1) := by decide +kernel
theorem dX7_raise_60 : decode cX7_raise 60 = .ok (.getfield 40, 3) := by decide +kernel
theorem dX7_raise_63 : decode cX7_raise 63 = .ok (.getfield 269, 3) := by decide +kernel
theorem dX7_raise_66 : decode cX7_raise 66 = .ok (.iload_n 3, 1) := by decide +kernel
theorem dX7_raise_67 : decode cX7_raise 67 = .ok (.iaload, 1) := by decide +kernel
theorem dX7_raise_68 : decode cX7_raise 68 = .ok (.ireturn, 1) := by decide +kernel
theorem dX7_kind_0 : decode cX7_kind 0 = .ok (.aload_n 0, 1) := by decide +kernel
theorem dX7_kind_1 : decode cX7_kind 1 = .ok (.getfield 26, 3) := by decide +kernel
theorem dX7_kind_4 : decode cX7_kind 4 = .ok (.iload_n 1, 1) := by decide +kernel
theorem dX7_kind_5 : decode cX7_kind 5 = .ok (.invokevirtual 125, 3) := by decide +kernel
theorem dX7_kind_8 : decode cX7_kind 8 = .ok (.ifCond .ne 6, 3) := by decide +kernel
theorem dX7_kind_11 : decode cX7_kind 11 = .ok (.ldc 66, 2) := by decide +kernel
theorem dX7_kind_13 : decode cX7_kind 13 = .ok (.ireturn, 1) := by decide +kernel
theorem dX7_kind_14 : decode cX7_kind 14 = .ok (.aload_n 0, 1) := by decide +kernel
theorem dX7_kind_15 : decode cX7_kind 15 = .ok (.getfield 26, 3) := by decide +kernel
theorem dX7_kind_18 : decode cX7_kind 18 = .ok (.iload_n 1, 1) := by decide +kernel
theorem dX7_kind_19 : decode cX7_kind 19 = .ok (.invokevirtual 272, 3) := by decide +kernel
theorem dX7_kind_22 : decode cX7_kind 22 = .ok (.ireturn, 1) := by decide +kernel
theorem dX7_as_0 : decode cX7_as 0 = .ok (.aload_n 0, 1) := by decide +kernel
theorem dX7_as_1 : decode cX7_as 1 = .ok (.getfield 26, 3) := by decide +kernel
theorem dX7_as_4 : decode cX7_as 4 = .ok (.iload_n 1, 1) := by decide +kernel
theorem dX7_as_5 : decode cX7_as 5 = .ok (.invokevirtual 125, 3) := by decide +kernel
theorem dX7_as_8 : decode cX7_as 8 = .ok (.ifCond .eq 12, 3) := by decide +kernel
theorem dX7_as_11 : decode cX7_as 11 = .ok (.iload_n 2, 1) := by decide +kernel
theorem dX7_as_12 : decode cX7_as 12 = .ok (.iconst 0, 1) := by decide +kernel
theorem dX7_as_13 : decode cX7_as 13 = .ok (.iconst 5, 1) := by decide +kernel
theorem dX7_as_14 : decode cX7_as 14 = .ok (.invokestatic 62, 3) := by decide +kernel
theorem dX7_as_17 : decode cX7_as 17 = .ok (.ifCond .ne 6, 3) := by decide +kernel
theorem dX7_as_20 : decode cX7_as 20 = .ok (.ldc 66, 2) := by decide +kernel
theorem dX7_as_22 : decode cX7_as 22 = .ok (.ireturn, 1) := by decide +kernel
theorem dX7_as_23 : decode cX7_as 23 = .ok (.aload_n 0, 1) := by decide +kernel
theorem dX7_as_24 : decode cX7_as 24 = .ok (.getfield 26, 3) := by decide +kernel
theorem dX7_as_27 : decode cX7_as 27 = .ok (.iload_n 1, 1) := by decide +kernel
theorem dX7_as_28 : decode cX7_as 28 = .ok (.iload_n 2, 1) := by decide +kernel
theorem dX7_as_29 : decode cX7_as 29 = .ok (.invokevirtual 275, 3) := by decide +kernel
theorem dX7_as_32 : decode cX7_as 32 = .ok (.ifCond .ne 9, 3) := by decide +kernel
theorem dX7_as_35 : decode cX7_as 35 = .ok (.aload_n 0, 1) := by decide +kernel
theorem dX7_as_36 : decode cX7_as 36 = .ok (.iconst 3, 1) := by decide +kernel
theorem dX7_as_37 : decode cX7_as 37 = .ok (.invokevirtual 67, 3) := by decide +kernel
theorem dX7_as_40 : decode cX7_as 40 = .ok (.ireturn, 1) := by decide +kernel
theorem dX7_as_41 : decode cX7_as 41 = .ok (.aload_n 0, 1) := by decide +kernel
theorem dX7_as_42 : decode cX7_as 42 = .ok (.iload_n 1, 1) := by decide +kernel
theorem dX7_as_43 : decode cX7_as 43 = .ok (.invokevirtual 75, 3) := by decide +kernel
theorem dX7_as_46 : decode cX7_as 46 = .ok (.ireturn, 1) := by decide +kernel
theorem dX7_ask_0 : decode cX7_ask 0 = .ok (.aload_n 0, 1) := by decide +kernel
theorem dX7_ask_1 : decode cX7_ask 1 = .ok (.getfield 26, 3) := by decide +kernel
theorem dX7_ask_4 : decode cX7_ask 4 = .ok (.iload_n 1, 1) := by decide +kernel
theorem dX7_ask_5 : decode cX7_ask 5 = .ok (.invokevirtual 125, 3) := by decide +kernel
theorem dX7_ask_8 : decode cX7_ask 8 = .ok (.ifCond .eq 12, 3) := by decide +kernel
theorem dX7_ask_11 : decode cX7_ask 11 = .ok (.iload_n 2, 1) := by decide +kernel
theorem dX7_ask_12 : decode cX7_ask 12 = .ok (.iconst 0, 1) := by decide +kernel
theorem dX7_ask_13 : decode cX7_ask 13 = .ok (.iconst 1, 1) := by decide +kernel
theorem dX7_ask_14 : decode cX7_ask 14 = .ok (.invokestatic 62, 3) := by decide +kernel
theorem dX7_ask_17 : decode cX7_ask 17 = .ok (.ifCond .ne 6, 3) := by decide +kernel
theorem dX7_ask_20 : decode cX7_ask 20 = .ok (.ldc 66, 2) := by decide +kernel
theorem dX7_ask_22 : decode cX7_ask 22 = .ok (.ireturn, 1) := by decide +kernel
theorem dX7_ask_23 : decode cX7_ask 23 = .ok (.aload_n 0, 1) := by decide +kernel
theorem dX7_ask_24 : decode cX7_ask 24 = .ok (.getfield 47, 3) := by decide +kernel
theorem dX7_ask_27 : decode cX7_ask 27 = .ok (.aload_n 0, 1) := by decide +kernel
theorem dX7_ask_28 : decode cX7_ask 28 = .ok (.getfield 26, 3) := by decide +kernel
theorem dX7_ask_31 : decode cX7_ask 31 = .ok (.invokevirtual 148, 3) := by decide +kernel
theorem dX7_ask_34 : decode cX7_ask 34 = .ok (.invokevirtual 278, 3) := by decide +kernel
theorem dX7_ask_37 : decode cX7_ask 37 = .ok (.iload_n 2, 1) := by decide +kernel
theorem dX7_ask_38 : decode cX7_ask 38 = .ok (.ifCond .ne 18, 3) := by decide +kernel
theorem dX7_ask_41 : decode cX7_ask 41 = .ok (.aload_n 0, 1) := by decide +kernel
theorem dX7_ask_42 : decode cX7_ask 42 = .ok (.getfield 47, 3) := by decide +kernel
theorem dX7_ask_45 : decode cX7_ask 45 = .ok (.aload_n 0, 1) := by decide +kernel
theorem dX7_ask_46 : decode cX7_ask 46 = .ok (.getfield 26, 3) := by decide +kernel
theorem dX7_ask_49 : decode cX7_ask 49 = .ok (.iload_n 1, 1) := by decide +kernel
theorem dX7_ask_50 : decode cX7_ask 50 = .ok (.invokevirtual 282, 3) := by decide +kernel
theorem dX7_ask_53 : decode cX7_ask 53 = .ok (.goto 15, 3) := by decide +kernel
theorem dX7_ask_56 : decode cX7_ask 56 = .ok (.aload_n 0, 1) := by decide +kernel
theorem dX7_ask_57 : decode cX7_ask 57 = .ok (.getfield 47, 3) := by decide +kernel
theorem dX7_ask_60 : decode cX7_ask 60 = .ok (.aload_n 0, 1) := by decide +kernel
theorem dX7_ask_61 : decode cX7_ask 61 = .ok (.getfield 26, 3) := by decide +kernel
theorem dX7_ask_64 : decode cX7_ask 64 = .ok (.iload_n 1, 1) := by decide +kernel
theorem dX7_ask_65 : decode cX7_ask 65 = .ok (.invokevirtual 285, 3) := by decide +kernel
theorem dX7_ask_68 : decode cX7_ask 68 = .ok (.ireturn, 1) := by decide +kernel
theorem dX7_trace_0 : decode cX7_trace 0 = .ok (.iload_n 1, 1) := by decide +kernel
theorem dX7_trace_1 : decode cX7_trace 1 = .ok (.iconst 0, 1) := by decide +kernel
theorem dX7_trace_2 : decode cX7_trace 2 = .ok (.aload_n 0, 1) := by decide +kernel
theorem dX7_trace_3 : decode cX7_trace 3 = .ok (.getfield 47, 3) := by decide +kernel
theorem dX7_trace_6 : decode cX7_trace 6 = .ok (.getfield 288, 3) := by decide +kernel
theorem dX7_trace_9 : decode cX7_trace 9 = .ok (.iconst 1, 1) := by decide +kernel
theorem dX7_trace_10 : decode cX7_trace 10 = .ok (.isub, 1) := by decide +kernel
theorem dX7_trace_11 : decode cX7_trace 11 = .ok (.invokestatic 62, 3) := by decide +kernel
theorem dX7_trace_14 : decode cX7_trace 14 = .ok (.ifCond .eq 15, 3) := by decide +kernel
theorem dX7_trace_17 : decode cX7_trace 17 = .ok (.aload_n 0, 1) := by decide +kernel
theorem dX7_trace_18 : decode cX7_trace 18 = .ok (.getfield 47, 3) := by decide +kernel
theorem dX7_trace_21 : decode cX7_trace 21 = .ok (.getfield 291, 3) := by decide +kernel
theorem dX7_trace_24 : decode cX7_trace 24 = .ok (.iload_n 1, 1) := by decide +kernel
theorem dX7_trace_25 : decode cX7_trace 25 = .ok (.iaload, 1) := by decide +kernel
theorem dX7_trace_26 : decode cX7_trace 26 = .ok (.goto 5, 3) := by decide +kernel
theorem dX7_trace_29 : decode cX7_trace 29 = .ok (.ldc 135, 2) := by decide +kernel
theorem dX7_trace_31 : decode cX7_trace 31 = .ok (.ireturn, 1) := by decide +kernel
theorem dX7_count_0 : decode cX7_count 0 = .ok (.iload_n 1, 1) := by decide +kernel
theorem dX7_count_1 : decode cX7_count 1 = .ok (.tableswitch 128 0 7 #[47, 55, 63, 74, 82, 91, 112, 120], 47) := by decide +kernel
theorem dX7_count_48 : decode cX7_count 48 = .ok (.aload_n 0, 1) := by decide +kernel
theorem dX7_count_49 : decode cX7_count 49 = .ok (.getfield 10, 3) := by decide +kernel
theorem dX7_count_52 : decode cX7_count 52 = .ok (.invokevirtual 294, 3) := by decide +kernel
theorem dX7_count_55 : decode cX7_count 55 = .ok (.ireturn, 1) := by decide +kernel
theorem dX7_count_56 : decode cX7_count 56 = .ok (.aload_n 0, 1) := by decide +kernel
theorem dX7_count_57 : decode cX7_count 57 = .ok (.getfield 26, 3) := by decide +kernel
theorem dX7_count_60 : decode cX7_count 60 = .ok (.getfield 107, 3) := by decide +kernel
theorem dX7_count_63 : decode cX7_count 63 = .ok (.ireturn, 1) := by decide +kernel
theorem dX7_count_64 : decode cX7_count 64 = .ok (.aload_n 0, 1) := by decide +kernel
theorem dX7_count_65 : decode cX7_count 65 = .ok (.getfield 26, 3) := by decide +kernel
theorem dX7_count_68 : decode cX7_count 68 = .ok (.invokevirtual 198, 3) := by decide +kernel
theorem dX7_count_71 : decode cX7_count 71 = .ok (.invokestatic 221, 3) := by decide +kernel
theorem dX7_count_74 : decode cX7_count 74 = .ok (.ireturn, 1) := by decide +kernel
theorem dX7_count_75 : decode cX7_count 75 = .ok (.aload_n 0, 1) := by decide +kernel
theorem dX7_count_76 : decode cX7_count 76 = .ok (.getfield 26, 3) := by decide +kernel
theorem dX7_count_79 : decode cX7_count 79 = .ok (.getfield 110, 3) := by decide +kernel
theorem dX7_count_82 : decode cX7_count 82 = .ok (.ireturn, 1) := by decide +kernel
theorem dX7_count_83 : decode cX7_count 83 = .ok (.aload_n 0, 1) := by decide +kernel
theorem dX7_count_84 : decode cX7_count 84 = .ok (.getfield 26, 3) := by decide +kernel
theorem dX7_count_87 : decode cX7_count 87 = .ok (.iconst 0, 1) := by decide +kernel
theorem dX7_count_88 : decode cX7_count 88 = .ok (.invokevirtual 183, 3) := by decide +kernel
theorem dX7_count_91 : decode cX7_count 91 = .ok (.ireturn, 1) := by decide +kernel
theorem dX7_count_92 : decode cX7_count 92 = .ok (.aload_n 0, 1) := by decide +kernel
theorem dX7_count_93 : decode cX7_count 93 = .ok (.getfield 26, 3) := by decide +kernel
theorem dX7_count_96 : decode cX7_count 96 = .ok (.invokevirtual 297, 3) := by decide +kernel
theorem dX7_count_99 : decode cX7_count 99 = .ok (.aload_n 0, 1) := by decide +kernel
theorem dX7_count_100 : decode cX7_count 100 = .ok (.getfield 26, 3) := by decide +kernel
theorem dX7_count_103 : decode cX7_count 103 = .ok (.invokevirtual 207, 3) := by decide +kernel
theorem dX7_count_106 : decode cX7_count 106 = .ok (.iconst (-1), 1) := by decide +kernel
theorem dX7_count_107 : decode cX7_count 107 = .ok (.ixor, 1) := by decide +kernel
theorem dX7_count_108 : decode cX7_count 108 = .ok (.iand, 1) := by decide +kernel
theorem dX7_count_109 : decode cX7_count 109 = .ok (.invokestatic 221, 3) := by decide +kernel
theorem dX7_count_112 : decode cX7_count 112 = .ok (.ireturn, 1) := by decide +kernel
theorem dX7_count_113 : decode cX7_count 113 = .ok (.aload_n 0, 1) := by decide +kernel
theorem dX7_count_114 : decode cX7_count 114 = .ok (.getfield 40, 3) := by decide +kernel
theorem dX7_count_117 : decode cX7_count 117 = .ok (.getfield 300, 3) := by decide +kernel
theorem dX7_count_120 : decode cX7_count 120 = .ok (.ireturn, 1) := by decide +kernel
theorem dX7_count_121 : decode cX7_count 121 = .ok (.aload_n 0, 1) := by decide +kernel
theorem dX7_count_122 : decode cX7_count 122 = .ok (.getfield 19, 3) := by decide +kernel
theorem dX7_count_125 : decode cX7_count 125 = .ok (.getfield 303, 3) := by decide +kernel
theorem dX7_count_128 : decode cX7_count 128 = .ok (.ireturn, 1) := by decide +kernel
theorem dX7_count_129 : decode cX7_count 129 = .ok (.ldc 66, 2) := by decide +kernel
theorem dX7_count_131 : decode cX7_count 131 = .ok (.ireturn, 1) := by decide +kernel
theorem dX7_status_0 : decode cX7_status 0 = .ok (.aload_n 0, 1) := by decide +kernel
theorem dX7_status_1 : decode cX7_status 1 = .ok (.getfield 55, 3) := by decide +kernel
theorem dX7_status_4 : decode cX7_status 4 = .ok (.ireturn, 1) := by decide +kernel
theorem dX7_found_0 : decode cX7_found 0 = .ok (.aload_n 0, 1) := by decide +kernel
theorem dX7_found_1 : decode cX7_found 1 = .ok (.iload_n 1, 1) := by decide +kernel
theorem dX7_found_2 : decode cX7_found 2 = .ok (.putfield 55, 3) := by decide +kernel
theorem dX7_found_5 : decode cX7_found 5 = .ok (.ldc_w 306, 3) := by decide +kernel
theorem dX7_found_8 : decode cX7_found 8 = .ok (.iload_n 1, 1) := by decide +kernel
theorem dX7_found_9 : decode cX7_found 9 = .ok (.isub, 1) := by decide +kernel
theorem dX7_found_10 : decode cX7_found 10 = .ok (.ireturn, 1) := by decide +kernel
theorem dX7_unfound_0 : decode cX7_unfound 0 = .ok (.aload_n 0, 1) := by decide +kernel
theorem dX7_unfound_1 : decode cX7_unfound 1 = .ok (.iconst 0, 1) := by decide +kernel
theorem dX7_unfound_2 : decode cX7_unfound 2 = .ok (.putfield 55, 3) := by decide +kernel
theorem dX7_unfound_5 : decode cX7_unfound 5 = .ok (.iload_n 1, 1) := by decide +kernel
theorem dX7_unfound_6 : decode cX7_unfound 6 = .ok (.ireturn, 1) := by decide +kernel
theorem dX7_isLook_0 : decode cX7_isLook 0 = .ok (.aload_n 0, 1) := by decide +kernel
theorem dX7_isLook_1 : decode cX7_isLook 1 = .ok (.getfield 26, 3) := by decide +kernel
theorem dX7_isLook_4 : decode cX7_isLook 4 = .ok (.aload_n 0, 1) := by decide +kernel
theorem dX7_isLook_5 : decode cX7_isLook 5 = .ok (.getfield 10, 3) := by decide +kernel
theorem dX7_isLook_8 : decode cX7_isLook 8 = .ok (.iload_n 1, 1) := by decide +kernel
theorem dX7_isLook_9 : decode cX7_isLook 9 = .ok (.iload_n 2, 1) := by decide +kernel
theorem dX7_isLook_10 : decode cX7_isLook 10 = .ok (.invokevirtual 307, 3) := by decide +kernel
theorem dX7_isLook_13 : decode cX7_isLook 13 = .ok (.invokevirtual 192, 3) := by decide +kernel
theorem dX7_isLook_16 : decode cX7_isLook 16 = .ok (.ifCond .eq 49, 3) := by decide +kernel
theorem dX7_isLook_19 : decode cX7_isLook 19 = .ok (.aload_n 0, 1) := by decide +kernel
theorem dX7_isLook_20 : decode cX7_isLook 20 = .ok (.getfield 10, 3) := by decide +kernel
theorem dX7_isLook_23 : decode cX7_isLook 23 = .ok (.iload_n 1, 1) := by decide +kernel
theorem dX7_isLook_24 : decode cX7_isLook 24 = .ok (.iload_n 2, 1) := by decide +kernel
theorem dX7_isLook_25 : decode cX7_isLook 25 = .ok (.iconst 1, 1) := by decide +kernel
theorem dX7_isLook_26 : decode cX7_isLook 26 = .ok (.iadd, 1) := by decide +kernel
theorem dX7_isLook_27 : decode cX7_isLook 27 = .ok (.invokevirtual 307, 3) := by decide +kernel
theorem dX7_isLook_30 : decode cX7_isLook 30 = .ok (.iconst 0, 1) := by decide +kernel
theorem dX7_isLook_31 : decode cX7_isLook 31 = .ok (.sipush 9999, 3) := by decide +kernel
theorem dX7_isLook_34 : decode cX7_isLook 34 = .ok (.invokestatic 62, 3) := by decide +kernel
theorem dX7_isLook_37 : decode cX7_isLook 37 = .ok (.ifCond .eq 28, 3) := by decide +kernel
theorem dX7_isLook_40 : decode cX7_isLook 40 = .ok (.aload_n 0, 1) := by decide +kernel
theorem dX7_isLook_41 : decode cX7_isLook 41 = .ok (.getfield 10, 3) := by decide +kernel
theorem dX7_isLook_44 : decode cX7_isLook 44 = .ok (.iload_n 1, 1) := by decide +kernel
theorem dX7_isLook_45 : decode cX7_isLook 45 = .ok (.iload_n 2, 1) := by decide +kernel
theorem dX7_isLook_46 : decode cX7_isLook 46 = .ok (.iconst 2, 1) := by decide +kernel
theorem dX7_isLook_47 : decode cX7_isLook 47 = .ok (.iadd, 1) := by decide +kernel
theorem dX7_isLook_48 : decode cX7_isLook 48 = .ok (.invokevirtual 307, 3) := by decide +kernel
theorem dX7_isLook_51 : decode cX7_isLook 51 = .ok (.iconst 0, 1) := by decide +kernel
theorem dX7_isLook_52 : decode cX7_isLook 52 = .ok (.sipush 9999, 3) := by decide +kernel
theorem dX7_isLook_55 : decode cX7_isLook 55 = .ok (.invokestatic 62, 3) := by decide +kernel
theorem dX7_isLook_58 : decode cX7_isLook 58 = .ok (.ifCond .eq 7, 3) := by decide +kernel
theorem dX7_isLook_61 : decode cX7_isLook 61 = .ok (.iconst 1, 1) := by decide +kernel
theorem dX7_isLook_62 : decode cX7_isLook 62 = .ok (.goto 4, 3) := by decide +kernel
theorem dX7_isLook_65 : decode cX7_isLook 65 = .ok (.iconst 0, 1) := by decide +kernel
theorem dX7_isLook_66 : decode cX7_isLook 66 = .ok (.ireturn, 1) := by decide +kernel
theorem dX7_tellLook_0 : decode cX7_tellLook 0 = .ok (.aload_n 0, 1) := by decide +kernel
theorem dX7_tellLook_1 : decode cX7_tellLook 1 = .ok (.getfield 10, 3) := by decide +kernel
theorem dX7_tellLook_4 : decode cX7_tellLook 4 = .ok (.iload_n 1, 1) := by decide +kernel
theorem dX7_tellLook_5 : decode cX7_tellLook 5 = .ok (.iload_n 2, 1) := by decide +kernel
theorem dX7_tellLook_6 : decode cX7_tellLook 6 = .ok (.invokevirtual 307, 3) := by decide +kernel
theorem dX7_tellLook_9 : decode cX7_tellLook 9 = .ok (.istore_n 3, 1) := by decide +kernel
theorem dX7_tellLook_10 : decode cX7_tellLook 10 = .ok (.aload_n 0, 1) := by decide +kernel
theorem dX7_tellLook_11 : decode cX7_tellLook 11 = .ok (.getfield 26, 3) := by decide +kernel
theorem dX7_tellLook_14 : decode cX7_tellLook 14 = .ok (.iload_n 3, 1) := by decide +kernel
theorem dX7_tellLook_15 : decode cX7_tellLook 15 = .ok (.invokevirtual 192, 3) := by decide +kernel
theorem dX7_tellLook_18 : decode cX7_tellLook 18 = .ok (.ifCond .ne 4, 3) := by decide +kernel
theorem dX7_tellLook_21 : decode cX7_tellLook 21 = .ok (.return_, 1) := by decide +kernel
theorem dX7_tellLook_22 : decode cX7_tellLook 22 = .ok (.aload_n 0, 1) := by decide +kernel
theorem dX7_tellLook_23 : decode cX7_tellLook 23 = .ok (.getfield 26, 3) := by decide +kernel
theorem dX7_tellLook_26 : decode cX7_tellLook 26 = .ok (.getfield 139, 3) := by decide +kernel
theorem dX7_tellLook_29 : decode cX7_tellLook 29 = .ok (.iload_n 3, 1) := by decide +kernel
theorem dX7_tellLook_30 : decode cX7_tellLook 30 = .ok (.aload_n 0, 1) := by decide +kernel
theorem dX7_tellLook_31 : decode cX7_tellLook 31 = .ok (.getfield 10, 3) := by decide +kernel
theorem dX7_tellLook_34 : decode cX7_tellLook 34 = .ok (.iload_n 1, 1) := by decide +kernel
theorem dX7_tellLook_35 : decode cX7_tellLook 35 = .ok (.iload_n 2, 1) := by decide +kernel
theorem dX7_tellLook_36 : decode cX7_tellLook 36 = .ok (.iconst 1, 1) := by decide +kernel
theorem dX7_tellLook_37 : decode cX7_tellLook 37 = .ok (.iadd, 1) := by decide +kernel
theorem dX7_tellLook_38 : decode cX7_tellLook 38 = .ok (.invokevirtual 307, 3) := by decide +kernel
theorem dX7_tellLook_41 : decode cX7_tellLook 41 = .ok (.iastore, 1) := by decide +kernel
theorem dX7_tellLook_42 : decode cX7_tellLook 42 = .ok (.aload_n 0, 1) := by decide +kernel
theorem dX7_tellLook_43 : decode cX7_tellLook 43 = .ok (.getfield 26, 3) := by decide +kernel
theorem dX7_tellLook_46 : decode cX7_tellLook 46 = .ok (.getfield 142, 3) := by decide +kernel
theorem dX7_tellLook_49 : decode cX7_tellLook 49 = .ok (.iload_n 3, 1) := by decide +kernel
theorem dX7_tellLook_50 : decode cX7_tellLook 50 = .ok (.aload_n 0, 1) := by decide +kernel
theorem dX7_tellLook_51 : decode cX7_tellLook 51 = .ok (.getfield 10, 3) := by decide +kernel
theorem dX7_tellLook_54 : decode cX7_tellLook 54 = .ok (.iload_n 1, 1) := by decide +kernel
theorem dX7_tellLook_55 : decode cX7_tellLook 55 = .ok (.iload_n 2, 1) := by decide +kernel
theorem dX7_tellLook_56 : decode cX7_tellLook 56 = .ok (.iconst 2, 1) := by decide +kernel
theorem dX7_tellLook_57 : decode cX7_tellLook 57 = .ok (.iadd, 1) := by decide +kernel
theorem dX7_tellLook_58 : decode cX7_tellLook 58 = .ok (.invokevirtual 307, 3) := by decide +kernel
theorem dX7_tellLook_61 : decode cX7_tellLook 61 = .ok (.iastore, 1) := by decide +kernel
theorem dX7_tellLook_62 : decode cX7_tellLook 62 = .ok (.return_, 1) := by decide +kernel
theorem dX7_isWithin_0 : decode cX7_isWithin 0 = .ok (.iload_n 0, 1) := by decide +kernel
theorem dX7_isWithin_1 : decode cX7_isWithin 1 = .ok (.iload_n 1, 1) := by decide +kernel
theorem dX7_isWithin_2 : decode cX7_isWithin 2 = .ok (.if_icmp .lt 12, 3) := by decide +kernel
theorem dX7_isWithin_5 : decode cX7_isWithin 5 = .ok (.iload_n 0, 1) := by decide +kernel
theorem dX7_isWithin_6 : decode cX7_isWithin 6 = .ok (.iload_n 2, 1) := by decide +kernel
theorem dX7_isWithin_7 : decode cX7_isWithin 7 = .ok (.if_icmp .gt 7, 3) := by decide +kernel
theorem dX7_isWithin_10 : decode cX7_isWithin 10 = .ok (.iconst 1, 1) := by decide +kernel
theorem dX7_isWithin_11 : decode cX7_isWithin 11 = .ok (.goto 4, 3) := by decide +kernel
theorem dX7_isWithin_14 : decode cX7_isWithin 14 = .ok (.iconst 0, 1) := by decide +kernel
theorem dX7_isWithin_15 : decode cX7_isWithin 15 = .ok (.ireturn, 1) := by decide +kernel
theorem dX7_isSpan_0 : decode cX7_isSpan 0 = .ok (.iload_n 0, 1) := by decide +kernel
theorem dX7_isSpan_1 : decode cX7_isSpan 1 = .ok (.ifCond .lt 18, 3) := by decide +kernel
theorem dX7_isSpan_4 : decode cX7_isSpan 4 = .ok (.iload_n 0, 1) := by decide +kernel
theorem dX7_isSpan_5 : decode cX7_isSpan 5 = .ok (.iload_n 1, 1) := by decide +kernel
theorem dX7_isSpan_6 : decode cX7_isSpan 6 = .ok (.if_icmp .gt 13, 3) := by decide +kernel
theorem dX7_isSpan_9 : decode cX7_isSpan 9 = .ok (.iload_n 1, 1) := by decide +kernel
theorem dX7_isSpan_10 : decode cX7_isSpan 10 = .ok (.bipush 100, 2) := by decide +kernel
theorem dX7_isSpan_12 : decode cX7_isSpan 12 = .ok (.if_icmp .gt 7, 3) := by decide +kernel
theorem dX7_isSpan_15 : decode cX7_isSpan 15 = .ok (.iconst 1, 1) := by decide +kernel
theorem dX7_isSpan_16 : decode cX7_isSpan 16 = .ok (.goto 4, 3) := by decide +kernel
theorem dX7_isSpan_19 : decode cX7_isSpan 19 = .ok (.iconst 0, 1) := by decide +kernel
theorem dX7_isSpan_20 : decode cX7_isSpan 20 = .ok (.ireturn, 1) := by decide +kernel
theorem dX7_bitAt_0 : decode cX7_bitAt 0 = .ok (.iload_n 0, 1) := by decide +kernel
theorem dX7_bitAt_1 : decode cX7_bitAt 1 = .ok (.iload_n 1, 1) := by decide +kernel
theorem dX7_bitAt_2 : decode cX7_bitAt 2 = .ok (.ishr, 1) := by decide +kernel
theorem dX7_bitAt_3 : decode cX7_bitAt 3 = .ok (.iconst 1, 1) := by decide +kernel
theorem dX7_bitAt_4 : decode cX7_bitAt 4 = .ok (.iand, 1) := by decide +kernel
theorem dX7_bitAt_5 : decode cX7_bitAt 5 = .ok (.ireturn, 1) := by decide +kernel
theorem dX8_init_0 : decode cX8_init 0 = .ok (.aload_n 0, 1) := by decide +kernel
theorem dX8_init_1 : decode cX8_init 1 = .ok (.invokespecial 1, 3) := by decide +kernel
theorem dX8_init_4 : decode cX8_init 4 = .ok (.aload_n 0, 1) := by decide +kernel
theorem dX8_init_5 : decode cX8_init 5 = .ok (.bipush 8, 2) := by decide +kernel
theorem dX8_init_7 : decode cX8_init 7 = .ok (.newarray .int, 2) := by decide +kernel
theorem dX8_init_9 : decode cX8_init 9 = .ok (.dup, 1) := by decide +kernel
theorem dX8_init_10 : decode cX8_init 10 = .ok (.iconst 0, 1) := by decide +kernel
theorem dX8_init_11 : decode cX8_init 11 = .ok (.iconst (-1), 1) := by decide +kernel
theorem dX8_init_12 : decode cX8_init 12 = .ok (.iastore, 1) := by decide +kernel
theorem dX8_init_13 : decode cX8_init 13 = .ok (.dup, 1) := by decide +kernel
theorem dX8_init_14 : decode cX8_init 14 = .ok (.iconst 1, 1) := by decide +kernel
theorem dX8_init_15 : decode cX8_init 15 = .ok (.iconst (-1), 1) := by decide +kernel
theorem dX8_init_16 : decode cX8_init 16 = .ok (.iastore, 1) := by decide +kernel
theorem dX8_init_17 : decode cX8_init 17 = .ok (.dup, 1) := by decide +kernel
theorem dX8_init_18 : decode cX8_init 18 = .ok (.iconst 2, 1) := by decide +kernel
theorem dX8_init_19 : decode cX8_init 19 = .ok (.iconst (-1), 1) := by decide +kernel
theorem dX8_init_20 : decode cX8_init 20 = .ok (.iastore, 1) := by decide +kernel
theorem dX8_init_21 : decode cX8_init 21 = .ok (.dup, 1) := by decide +kernel
theorem dX8_init_22 : decode cX8_init 22 = .ok (.iconst 3, 1) := by decide +kernel
theorem dX8_init_23 : decode cX8_init 23 = .ok (.iconst (-1), 1) := by decide +kernel
theorem dX8_init_24 : decode cX8_init 24 = .ok (.iastore, 1) := by decide +kernel
theorem dX8_init_25 : decode cX8_init 25 = .ok (.dup, 1) := by decide +kernel
theorem dX8_init_26 : decode cX8_init 26 = .ok (.iconst 4, 1) := by decide +kernel
theorem dX8_init_27 : decode cX8_init 27 = .ok (.iconst (-1), 1) := by decide +kernel
theorem dX8_init_28 : decode cX8_init 28 = .ok (.iastore, 1) := by decide +kernel
theorem dX8_init_29 : decode cX8_init 29 = .ok (.dup, 1) := by decide +kernel
theorem dX8_init_30 : decode cX8_init 30 = .ok (.iconst 5, 1) := by decide +kernel
theorem dX8_init_31 : decode cX8_init 31 = .ok (.iconst (-1), 1) := by decide +kernel
theorem dX8_init_32 : decode cX8_init 32 = .ok (.iastore, 1) := by decide +kernel
theorem dX8_init_33 : decode cX8_init 33 = .ok (.dup, 1) := by decide +kernel
theorem dX8_init_34 : decode cX8_init 34 = .ok (.bipush 6, 2) := by decide +kernel
theorem dX8_init_36 : decode cX8_init 36 = .ok (.iconst (-1), 1) := by decide +kernel
theorem dX8_init_37 : decode cX8_init 37 = .ok (.iastore, 1) := by decide +kernel
theorem dX8_init_38 : decode cX8_init 38 = .ok (.dup, 1) := by decide +kernel
theorem dX8_init_39 : decode cX8_init 39 = .ok (.bipush 7, 2) := by decide +kernel
theorem dX8_init_41 : decode cX8_init 41 = .ok (.iconst (-1), 1) := by decide +kernel
theorem dX8_init_42 : decode cX8_init 42 = .ok (.iastore, 1) := by decide +kernel
theorem dX8_init_43 : decode cX8_init 43 = .ok (.putfield 7, 3) := by decide +kernel
theorem dX8_init_46 : decode cX8_init 46 = .ok (.aload_n 0, 1) := by decide +kernel
theorem dX8_init_47 : decode cX8_init 47 = .ok (.bipush 8, 2) := by decide +kernel
theorem dX8_init_49 : decode cX8_init 49 = .ok (.newarray .int, 2) := by decide +kernel
theorem dX8_init_51 : decode cX8_init 51 = .ok (.putfield 13, 3) := by decide +kernel
theorem dX8_init_54 : decode cX8_init 54 = .ok (.aload_n 0, 1) := by decide +kernel
theorem dX8_init_55 : decode cX8_init 55 = .ok (.sipush 320, 3) := by decide +kernel
theorem dX8_init_58 : decode cX8_init 58 = .ok (.newarray .int, 2) := by decide +kernel
theorem dX8_init_60 : decode cX8_init 60 = .ok (.putfield 16, 3) := by decide +kernel
theorem dX8_init_63 : decode cX8_init 63 = .ok (.aload_n 0, 1) := by decide +kernel
theorem dX8_init_64 : decode cX8_init 64 = .ok (.bipush 20, 2) := by decide +kernel
theorem dX8_init_66 : decode cX8_init 66 = .ok (.newarray .int, 2) := by decide +kernel
theorem dX8_init_68 : decode cX8_init 68 = .ok (.putfield 19, 3) := by decide +kernel
theorem dX8_init_71 : decode cX8_init 71 = .ok (.aload_n 0, 1) := by decide +kernel
theorem dX8_init_72 : decode cX8_init 72 = .ok (.bipush 20, 2) := by decide +kernel
theorem dX8_init_74 : decode cX8_init 74 = .ok (.newarray .int, 2) := by decide +kernel
theorem dX8_init_76 : decode cX8_init 76 = .ok (.putfield 22, 3) := by decide +kernel
theorem dX8_init_79 : decode cX8_init 79 = .ok (.aload_n 0, 1) := by decide +kernel
theorem dX8_init_80 : decode cX8_init 80 = .ok (.bipush 20, 2) := by decide +kernel
theorem dX8_init_82 : decode cX8_init 82 = .ok (.newarray .int, 2) := by decide +kernel
theorem dX8_init_84 : decode cX8_init 84 = .ok (.putfield 25, 3) := by decide +kernel
theorem dX8_init_87 : decode cX8_init 87 = .ok (.aload_n 0, 1) := by decide +kernel
theorem dX8_init_88 : decode cX8_init 88 = .ok (.bipush 20, 2) := by decide +kernel
theorem dX8_init_90 : decode cX8_init 90 = .ok (.newarray .int, 2) := by decide +kernel
theorem dX8_init_92 : decode cX8_init 92 = .ok (.putfield 28, 3) := by decide +kernel
theorem dX8_init_95 : decode cX8_init 95 = .ok (.aload_n 0, 1) := by decide +kernel
theorem dX8_init_96 : decode cX8_init 96 = .ok (.bipush 20, 2) := by decide +kernel
theorem dX8_init_98 : decode cX8_init 98 = .ok (.newarray .boolean, 2) := by decide +kernel
theorem dX8_init_100 : decode cX8_init 100 = .ok (.putfield 31, 3) := by decide +kernel
theorem dX8_init_103 : decode cX8_init 103 = .ok (.aload_n 0, 1) := by decide +kernel
theorem dX8_init_104 : decode cX8_init 104 = .ok (.bipush 16, 2) := by decide +kernel
theorem dX8_init_106 : decode cX8_init 106 = .ok (.newarray .int, 2) := by decide +kernel
theorem dX8_init_108 : decode cX8_init 108 = .ok (.putfield 35, 3) := by decide +kernel
theorem dX8_init_111 : decode cX8_init 111 = .ok (.aload_n 0, 1) := by decide +kernel
theorem dX8_init_112 : decode cX8_init 112 = .ok (.bipush 16, 2) := by decide +kernel
theorem dX8_init_114 : decode cX8_init 114 = .ok (.newarray .int, 2) := by decide +kernel
theorem dX8_init_116 : decode cX8_init 116 = .ok (.putfield 38, 3) := by decide +kernel
theorem dX8_init_119 : decode cX8_init 119 = .ok (.aload_n 0, 1) := by decide +kernel
theorem dX8_init_120 : decode cX8_init 120 = .ok (.bipush 16, 2) := by decide +kernel
theorem dX8_init_122 : decode cX8_init 122 = .ok (.newarray .int, 2) := by decide +kernel
theorem dX8_init_124 : decode cX8_init 124 = .ok (.putfield 41, 3) := by decide +kernel
theorem dX8_init_127 : decode cX8_init 127 = .ok (.aload_n 0, 1) := by decide +kernel
theorem dX8_init_128 : decode cX8_init 128 = .ok (.bipush 96, 2) := by decide +kernel
theorem dX8_init_130 : decode cX8_init 130 = .ok (.newarray .int, 2) := by decide +kernel
theorem dX8_init_132 : decode cX8_init 132 = .ok (.putfield 44, 3) := by decide +kernel
theorem dX8_init_135 : decode cX8_init 135 = .ok (.aload_n 0, 1) := by decide +kernel
theorem dX8_init_136 : decode cX8_init 136 = .ok (.bipush 48, 2) := by decide +kernel
theorem dX8_init_138 : decode cX8_init 138 = .ok (.newarray .int, 2) := by decide +kernel
theorem dX8_init_140 : decode cX8_init 140 = .ok (.putfield 47, 3) := by decide +kernel
theorem dX8_init_143 : decode cX8_init 143 = .ok (.aload_n 0, 1) := by decide +kernel
theorem dX8_init_144 : decode cX8_init 144 = .ok (.sipush 400, 3) := by decide +kernel
theorem dX8_init_147 : decode cX8_init 147 = .ok (.newarray .int, 2) := by decide +kernel
theorem dX8_init_149 : decode cX8_init 149 = .ok (.putfield 50, 3) := by decide +kernel
theorem dX8_init_152 : decode cX8_init 152 = .ok (.aload_n 0, 1) := by decide +kernel
theorem dX8_init_153 : decode cX8_init 153 = .ok (.iconst 3, 1) := by decide +kernel
theorem dX8_init_154 : decode cX8_init 154 = .ok (.newarray .int, 2) := by decide +kernel
theorem dX8_init_156 : decode cX8_init 156 = .ok (.putfield 53, 3) := by decide +kernel
theorem dX8_init_159 : decode cX8_init 159 = .ok (.aload_n 0, 1) := by decide +kernel
theorem dX8_init_160 : decode cX8_init 160 = .ok (.bipush 6, 2) := by decide +kernel
theorem dX8_init_162 : decode cX8_init 162 = .ok (.newarray .boolean, 2) := by decide +kernel
theorem dX8_init_164 : decode cX8_init 164 = .ok (.putfield 56, 3) := by decide +kernel
theorem dX8_init_167 : decode cX8_init 167 = .ok (.aload_n 0, 1) := by decide +kernel
theorem dX8_init_168 : decode cX8_init 168 = .ok (.bipush 6, 2) := by decide +kernel
theorem dX8_init_170 : decode cX8_init 170 = .ok (.newarray .int, 2) := by decide +kernel
theorem dX8_init_172 : decode cX8_init 172 = .ok (.putfield 59, 3) := by decide +kernel
theorem dX8_init_175 : decode cX8_init 175 = .ok (.aload_n 0, 1) := by decide +kernel
theorem dX8_init_176 : decode cX8_init 176 = .ok (.bipush 6, 2) := by decide +kernel
theorem dX8_init_178 : decode cX8_init 178 = .ok (.newarray .int, 2) := by decide +kernel
theorem dX8_init_180 : decode cX8_init 180 = .ok (.putfield 62, 3) := by decide +kernel
theorem dX8_init_183 : decode cX8_init 183 = .ok (.aload_n 0, 1) := by decide +kernel
theorem dX8_init_184 : decode cX8_init 184 = .ok (.bipush 112, 2) := by decide +kernel
theorem dX8_init_186 : decode cX8_init 186 = .ok (.newarray .long, 2) := by decide +kernel
theorem dX8_init_188 : decode cX8_init 188 = .ok (.putfield 65, 3) := by decide +kernel
theorem dX8_init_191 : decode cX8_init 191 = .ok (.aload_n 0, 1) := by decide +kernel
theorem dX8_init_192 : decode cX8_init 192 = .ok (.bipush 14, 2) := by decide +kernel
theorem dX8_init_194 : decode cX8_init 194 = .ok (.newarray .int, 2) := by decide +kernel
theorem dX8_init_196 : decode cX8_init 196 = .ok (.putfield 69, 3) := by decide +kernel
theorem dX8_init_199 : decode cX8_init 199 = .ok (.aload_n 0, 1) := by decide +kernel
theorem dX8_init_200 : decode cX8_init 200 = .ok (.bipush 8, 2) := by decide +kernel
theorem dX8_init_202 : decode cX8_init 202 = .ok (.newarray .int, 2) := by decide +kernel
theorem dX8_init_204 : decode cX8_init 204 = .ok (.putfield 72, 3) := by decide +kernel
theorem dX8_init_207 : decode cX8_init 207 = .ok (.aload_n 0, 1) := by decide +kernel
theorem dX8_init_208 : decode cX8_init 208 = .ok (.bipush 16, 2) := by decide +kernel
theorem dX8_init_210 : decode cX8_init 210 = .ok (.newarray .int, 2) := by decide +kernel
theorem dX8_init_212 : decode cX8_init 212 = .ok (.putfield 75, 3) := by decide +kernel
theorem dX8_init_215 : decode cX8_init 215 = .ok (.return_, 1) := by decide +kernel
theorem dX8_in_0 : decode cX8_in 0 = .ok (.lload_n 0, 1) := by decide +kernel
theorem dX8_in_1 : decode cX8_in 1 = .ok (.lload_n 2, 1) := by decide +kernel
theorem dX8_in_2 : decode cX8_in 2 = .ok (.lcmp, 1) := by decide +kernel
theorem dX8_in_3 : decode cX8_in 3 = .ok (.ifCond .lt 14, 3) := by decide +kernel
theorem dX8_in_6 : decode cX8_in 6 = .ok (.lload_n 0, 1) := by decide +kernel
theorem dX8_in_7 : decode cX8_in 7 = .ok (.lload 4, 2) := by decide +kernel
theorem dX8_in_9 : decode cX8_in 9 = .ok (.lcmp, 1) := by decide +kernel
theorem dX8_in_10 : decode cX8_in 10 = .ok (.ifCond .gt 7, 3) := by decide +kernel
theorem dX8_in_13 : decode cX8_in 13 = .ok (.iconst 1, 1) := by decide +kernel
theorem dX8_in_14 : decode cX8_in 14 = .ok (.goto 4, 3) := by decide +kernel
theorem dX8_in_17 : decode cX8_in 17 = .ok (.iconst 0, 1) := by decide +kernel
theorem dX8_in_18 : decode cX8_in 18 = .ok (.ireturn, 1) := by decide +kernel
theorem dX8_finding_0 : decode cX8_finding 0 = .ok (.aload_n 0, 1) := by decide +kernel
theorem dX8_finding_1 : decode cX8_finding 1 = .ok (.iload_n 1, 1) := by decide +kernel
theorem dX8_finding_2 : decode cX8_finding 2 = .ok (.putfield 82, 3) := by decide +kernel
theorem dX8_finding_5 : decode cX8_finding 5 = .ok (.ldc 85, 2) := by decide +kernel
theorem dX8_finding_7 : decode cX8_finding 7 = .ok (.iload_n 1, 1) := by decide +kernel
theorem dX8_finding_8 : decode cX8_finding 8 = .ok (.isub, 1) := by decide +kernel
theorem dX8_finding_9 : decode cX8_finding 9 = .ok (.ireturn, 1) := by decide +kernel
theorem dX8_isSheet_0 : decode cX8_isSheet 0 = .ok (.iload_n 0, 1) := by decide +kernel
theorem dX8_isSheet_1 : decode cX8_isSheet 1 = .ok (.i2l, 1) := by decide +kernel
theorem dX8_isSheet_2 : decode cX8_isSheet 2 = .ok (.lconst 0, 1) := by decide +kernel
theorem dX8_isSheet_3 : decode cX8_isSheet 3 = .ok (.ldc2_w 86, 3) := by decide +kernel
theorem dX8_isSheet_6 : decode cX8_isSheet 6 = .ok (.invokestatic 88, 3) := by decide +kernel
theorem dX8_isSheet_9 : decode cX8_isSheet 9 = .ok (.ireturn, 1) := by decide +kernel
theorem dX8_sheet_0 : decode cX8_sheet 0 = .ok (.aload_n 0, 1) := by decide +kernel
theorem dX8_sheet_1 : decode cX8_sheet 1 = .ok (.iconst 0, 1) := by decide +kernel
theorem dX8_sheet_2 : decode cX8_sheet 2 = .ok (.putfield 78, 3) := by decide +kernel
theorem dX8_sheet_5 : decode cX8_sheet 5 = .ok (.iload_n 1, 1) := by decide +kernel
theorem dX8_sheet_6 : decode cX8_sheet 6 = .ok (.invokestatic 92, 3) := by decide +kernel
theorem dX8_sheet_9 : decode cX8_sheet 9 = .ok (.ifCond .eq 21, 3) := by decide +kernel
theorem dX8_sheet_12 : decode cX8_sheet 12 = .ok (.iload_n 2, 1) := by decide +kernel
theorem dX8_sheet_13 : decode cX8_sheet 13 = .ok (.i2l, 1) := by decide +kernel
theorem dX8_sheet_14 : decode cX8_sheet 14 = .ok (.lconst 0, 1) := by decide +kernel
theorem dX8_sheet_15 : decode cX8_sheet 15 = .ok (.ldc2_w 96, 3) := by decide +kernel
theorem dX8_sheet_18 : decode cX8_sheet 18 = .ok (.invokestatic 88, 3) := by decide +kernel
theorem dX8_sheet_21 : decode cX8_sheet 21 = .ok (.ifCond .eq 9, 3) := by decide +kernel
theorem dX8_sheet_24 : decode cX8_sheet 24 = .ok (.iload_n 3, 1) := by decide +kernel
theorem dX8_sheet_25 : decode cX8_sheet 25 = .ok (.bipush 40, 2) := by decide +kernel
theorem dX8_sheet_27 : decode cX8_sheet 27 = .ok (.if_icmp .le 6, 3) := by decide +kernel
theorem dX8_sheet_30 : decode cX8_sheet 30 = .ok (.ldc 98, 2) := by decide +kernel
theorem dX8_sheet_32 : decode cX8_sheet 32 = .ok (.ireturn, 1) := by decide +kernel
theorem dX8_sheet_33 : decode cX8_sheet 33 = .ok (.aload_n 0, 1) := by decide +kernel
theorem dX8_sheet_34 : decode cX8_sheet 34 = .ok (.iconst 0, 1) := by decide +kernel
theorem dX8_sheet_35 : decode cX8_sheet 35 = .ok (.putfield 82, 3) := by decide +kernel
theorem dX8_sheet_38 : decode cX8_sheet 38 = .ok (.iload_n 3, 1) := by decide +kernel
theorem dX8_sheet_39 : decode cX8_sheet 39 = .ok (.ifCond .ge 9, 3) := by decide +kernel
theorem dX8_sheet_42 : decode cX8_sheet 42 = .ok (.aload_n 0, 1) := by decide +kernel
theorem dX8_sheet_43 : decode cX8_sheet 43 = .ok (.iconst 4, 1) := by decide +kernel
theorem dX8_sheet_44 : decode cX8_sheet 44 = .ok (.invokevirtual 99, 3) := by decide +kernel
theorem dX8_sheet_47 : decode cX8_sheet 47 = .ok (.ireturn, 1) := by decide +kernel
theorem dX8_sheet_48 : decode cX8_sheet 48 = .ok (.aload_n 0, 1) := by decide +kernel
theorem dX8_sheet_49 : decode cX8_sheet 49 = .ok (.getfield 7, 3) := by decide +kernel
theorem dX8_sheet_52 : decode cX8_sheet 52 = .ok (.iload_n 1, 1) := by decide +kernel
theorem dX8_sheet_53 : decode cX8_sheet 53 = .ok (.iload_n 2, 1) := by decide +kernel
theorem dX8_sheet_54 : decode cX8_sheet 54 = .ok (.iastore, 1) := by decide +kernel
theorem dX8_sheet_55 : decode cX8_sheet 55 = .ok (.aload_n 0, 1) := by decide +kernel
theorem dX8_sheet_56 : decode cX8_sheet 56 = .ok (.getfield 13, 3) := by decide +kernel
theorem dX8_sheet_59 : decode cX8_sheet 59 = .ok (.iload_n 1, 1) := by decide +kernel
theorem dX8_sheet_60 : decode cX8_sheet 60 = .ok (.iload_n 3, 1) := by decide +kernel
theorem dX8_sheet_61 : decode cX8_sheet 61 = .ok (.iastore, 1) := by decide +kernel
theorem dX8_sheet_62 : decode cX8_sheet 62 = .ok (.iconst 0, 1) := by decide +kernel
theorem dX8_sheet_63 : decode cX8_sheet 63 = .ok (.istore 4, 2) := by decide +kernel
theorem dX8_sheet_65 : decode cX8_sheet 65 = .ok (.iload 4, 2) := by decide +kernel
theorem dX8_sheet_67 : decode cX8_sheet 67 = .ok (.bipush 40, 2) := by decide +kernel
theorem dX8_sheet_69 : decode cX8_sheet 69 = .ok (.if_icmp .ge 22, 3) := by decide +kernel
theorem dX8_sheet_72 : decode cX8_sheet 72 = .ok (.aload_n 0, 1) := by decide +kernel
theorem dX8_sheet_73 : decode cX8_sheet 73 = .ok (.getfield 16, 3) := by decide +kernel
theorem dX8_sheet_76 : decode cX8_sheet 76 = .ok (.bipush 40, 2) := by decide +kernel
theorem dX8_sheet_78 : decode cX8_sheet 78 = .ok (.iload_n 1, 1) := by decide +kernel
theorem dX8_sheet_79 : decode cX8_sheet 79 = .ok (.imul, 1) := by decide +kernel
theorem dX8_sheet_80 : decode cX8_sheet 80 = .ok (.iload 4, 2) := by decide +kernel
theorem dX8_sheet_82 : decode cX8_sheet 82 = .ok (.iadd, 1) := by decide +kernel
theorem dX8_sheet_83 : decode cX8_sheet 83 = .ok (.iconst 0, 1) := by decide +kernel
theorem dX8_sheet_84 : decode cX8_sheet 84 = .ok (.iastore, 1) := by decide +kernel
theorem dX8_sheet_85 : decode cX8_sheet 85 = .ok (.iinc 4 1, 3) := by decide +kernel
theorem dX8_sheet_88 : decode cX8_sheet 88 = .ok (.goto (-23), 3) := by decide +kernel
theorem dX8_sheet_91 : decode cX8_sheet 91 = .ok (.iload_n 3, 1) := by decide +kernel
theorem dX8_sheet_92 : decode cX8_sheet 92 = .ok (.ireturn, 1) := by decide +kernel
theorem dX8_set_0 : decode cX8_set 0 = .ok (.aload_n 0, 1) := by decide +kernel
theorem dX8_set_1 : decode cX8_set 1 = .ok (.iconst 0, 1) := by decide +kernel
theorem dX8_set_2 : decode cX8_set 2 = .ok (.putfield 78, 3) := by decide +kernel
theorem dX8_set_5 : decode cX8_set 5 = .ok (.iload_n 1, 1) := by decide +kernel
theorem dX8_set_6 : decode cX8_set 6 = .ok (.invokestatic 92, 3) := by decide +kernel
theorem dX8_set_9 : decode cX8_set 9 = .ok (.ifCond .ne 6, 3) := by decide +kernel
theorem dX8_set_12 : decode cX8_set 12 = .ok (.ldc 98, 2) := by decide +kernel
theorem dX8_set_14 : decode cX8_set 14 = .ok (.ireturn, 1) := by decide +kernel
theorem dX8_set_15 : decode cX8_set 15 = .ok (.aload_n 0, 1) := by decide +kernel
theorem dX8_set_16 : decode cX8_set 16 = .ok (.iconst 0, 1) := by decide +kernel
theorem dX8_set_17 : decode cX8_set 17 = .ok (.putfield 82, 3) := by decide +kernel
theorem dX8_set_20 : decode cX8_set 20 = .ok (.aload_n 0, 1) := by decide +kernel
theorem dX8_set_21 : decode cX8_set 21 = .ok (.getfield 7, 3) := by decide +kernel
theorem dX8_set_24 : decode cX8_set 24 = .ok (.iload_n 1, 1) := by decide +kernel
theorem dX8_set_25 : decode cX8_set 25 = .ok (.iaload, 1) := by decide +kernel
theorem dX8_set_26 : decode cX8_set 26 = .ok (.ifCond .ge 9, 3) := by decide +kernel
theorem dX8_set_29 : decode cX8_set 29 = .ok (.aload_n 0, 1) := by decide +kernel
theorem dX8_set_30 : decode cX8_set 30 = .ok (.iconst 1, 1) := by decide +kernel
theorem dX8_set_31 : decode cX8_set 31 = .ok (.invokevirtual 99, 3) := by decide +kernel
theorem dX8_set_34 : decode cX8_set 34 = .ok (.ireturn, 1) := by decide +kernel
theorem dX8_set_35 : decode cX8_set 35 = .ok (.iload_n 2, 1) := by decide +kernel
theorem dX8_set_36 : decode cX8_set 36 = .ok (.i2l, 1) := by decide +kernel
theorem dX8_set_37 : decode cX8_set 37 = .ok (.lconst 0, 1) := by decide +kernel
theorem dX8_set_38 : decode cX8_set 38 = .ok (.aload_n 0, 1) := by decide +kernel
theorem dX8_set_39 : decode cX8_set 39 = .ok (.getfield 13, 3) := by decide +kernel
theorem dX8_set_42 : decode cX8_set 42 = .ok (.iload_n 1, 1) := by decide +kernel
theorem dX8_set_43 : decode cX8_set 43 = .ok (.iaload, 1) := by decide +kernel
theorem dX8_set_44 : decode cX8_set 44 = .ok (.iconst 1, 1) := by decide +kernel
theorem dX8_set_45 : decode cX8_set 45 = .ok (.isub, 1) := by decide +kernel
theorem dX8_set_46 : decode cX8_set 46 = .ok (.i2l, 1) := by decide +kernel
theorem dX8_set_47 : decode cX8_set 47 = .ok (.invokestatic 88, 3) := by decide +kernel
theorem dX8_set_50 : decode cX8_set 50 = .ok (.ifCond .ne 9, 3) := by decide +kernel
theorem dX8_set_53 : decode cX8_set 53 = .ok (.aload_n 0, 1) := by decide +kernel
theorem dX8_set_54 : decode cX8_set 54 = .ok (.iconst 2, 1) := by decide +kernel
theorem dX8_set_55 : decode cX8_set 55 = .ok (.invokevirtual 99, 3) := by decide +kernel
theorem dX8_set_58 : decode cX8_set 58 = .ok (.ireturn, 1) := by decide +kernel
theorem dX8_set_59 : decode cX8_set 59 = .ok (.aload_n 0, 1) := by decide +kernel
theorem dX8_set_60 : decode cX8_set 60 = .ok (.getfield 16, 3) := by decide +kernel
theorem dX8_set_63 : decode cX8_set 63 = .ok (.bipush 40, 2) := by decide +kernel
theorem dX8_set_65 : decode cX8_set 65 = .ok (.iload_n 1, 1) := by decide +kernel
theorem dX8_set_66 : decode cX8_set 66 = .ok (.imul, 1) := by decide +kernel
theorem dX8_set_67 : decode cX8_set 67 = .ok (.iload_n 2, 1) := by decide +kernel
theorem dX8_set_68 : decode cX8_set 68 = .ok (.iadd, 1) := by decide +kernel
theorem dX8_set_69 : decode cX8_set 69 = .ok (.aload_n 0, 1) := by decide +kernel
theorem dX8_set_70 : decode cX8_set 70 = .ok (.getfield 7, 3) := by decide +kernel
theorem dX8_set_73 : decode cX8_set 73 = .ok (.iload_n 1, 1) := by decide +kernel
theorem dX8_set_74 : decode cX8_set 74 = .ok (.iaload, 1) := by decide +kernel
theorem dX8_set_75 : decode cX8_set 75 = .ok (.ifCond .ne 8, 3) := by decide +kernel
theorem dX8_set_78 : decode cX8_set 78 = .ok (.iload_n 3, 1) := by decide +kernel
theorem dX8_set_79 : decode cX8_set 79 = .ok (.i2b, 1) := by decide +kernel
theorem dX8_set_80 : decode cX8_set 80 = .ok (.goto 19, 3) := by decide +kernel
theorem dX8_set_83 : decode cX8_set 83 = .ok (.aload_n 0, 1) := by decide +kernel
theorem dX8_set_84 : decode cX8_set 84 = .ok (.getfield 7, 3) := by decide +kernel
theorem dX8_set_87 : decode cX8_set 87 = .ok (.iload_n 1, 1) := by decide +kernel
theorem dX8_set_88 : decode cX8_set 88 = .ok (.iaload, 1) := by decide +kernel
theorem dX8_set_89 : decode cX8_set 89 = .ok (.iconst 1, 1) := by decide +kernel
theorem dX8_set_90 : decode cX8_set 90 = .ok (.if_icmp .ne 8, 3) := by decide +kernel
theorem dX8_set_93 : decode cX8_set 93 = .ok (.iload_n 3, 1) := by decide +kernel
theorem dX8_set_94 : decode cX8_set 94 = .ok (.i2s, 1) := by decide +kernel
theorem dX8_set_95 : decode cX8_set 95 = .ok (.goto 4, 3) := by decide +kernel
theorem dX8_set_98 : decode cX8_set 98 = .ok (.iload_n 3, 1) := by decide +kernel
theorem dX8_set_99 : decode cX8_set 99 = .ok (.iastore, 1) := by decide +kernel
theorem dX8_set_100 : decode cX8_set 100 = .ok (.aload_n 0, 1) := by decide +kernel
theorem dX8_set_101 : decode cX8_set 101 = .ok (.getfield 16, 3) := by decide +kernel
theorem dX8_set_104 : decode cX8_set 104 = .ok (.bipush 40, 2) := by decide +kernel
theorem dX8_set_106 : decode cX8_set 106 = .ok (.iload_n 1, 1) := by decide +kernel
theorem dX8_set_107 : decode cX8_set 107 = .ok (.imul, 1) := by decide +kernel
theorem dX8_set_108 : decode cX8_set 108 = .ok (.iload_n 2, 1) := by decide +kernel
theorem dX8_set_109 : decode cX8_set 109 = .ok (.iadd, 1) := by decide +kernel
theorem dX8_set_110 : decode cX8_set 110 = .ok (.iaload, 1) := by decide +kernel
theorem dX8_set_111 : decode cX8_set 111 = .ok (.ireturn, 1) := by decide +kernel
theorem dX8_copy_0 : decode cX8_copy 0 = .ok (.aload_n 0, 1) := by decide +kernel
theorem dX8_copy_1 : decode cX8_copy 1 = .ok (.iconst 0, 1) := by decide +kernel
theorem dX8_copy_2 : decode cX8_copy 2 = .ok (.putfield 78, 3) := by decide +kernel
theorem dX8_copy_5 : decode cX8_copy 5 = .ok (.iload_n 1, 1) := by decide +kernel
theorem dX8_copy_6 : decode cX8_copy 6 = .ok (.invokestatic 92, 3) := by decide +kernel
theorem dX8_copy_9 : decode cX8_copy 9 = .ok (.ifCond .eq 10, 3) := by decide +kernel
theorem dX8_copy_12 : decode cX8_copy 12 = .ok (.iload_n 3, 1) := by decide +kernel
theorem dX8_copy_13 : decode cX8_copy 13 = .ok (.invokestatic 92, 3) := by decide +kernel
theorem dX8_copy_16 : decode cX8_copy 16 = .ok (.ifCond .ne 6, 3) := by decide +kernel
theorem dX8_copy_19 : decode cX8_copy 19 = .ok (.ldc 98, 2) := by decide +kernel
theorem dX8_copy_21 : decode cX8_copy 21 = .ok (.ireturn, 1) := by decide +kernel
theorem dX8_copy_22 : decode cX8_copy 22 = .ok (.aload_n 0, 1) := by decide +kernel
theorem dX8_copy_23 : decode cX8_copy 23 = .ok (.iconst 0, 1) := by decide +kernel
theorem dX8_copy_24 : decode cX8_copy 24 = .ok (.putfield 82, 3) := by decide +kernel
theorem dX8_copy_27 : decode cX8_copy 27 = .ok (.aload_n 0, 1) := by decide +kernel
theorem dX8_copy_28 : decode cX8_copy 28 = .ok (.getfield 7, 3) := by decide +kernel
theorem dX8_copy_31 : decode cX8_copy 31 = .ok (.iload_n 1, 1) := by decide +kernel
theorem dX8_copy_32 : decode cX8_copy 32 = .ok (.iaload, 1) := by decide +kernel
theorem dX8_copy_33 : decode cX8_copy 33 = .ok (.ifCond .lt 12, 3) := by decide +kernel
theorem dX8_copy_36 : decode cX8_copy 36 = .ok (.aload_n 0, 1) := by decide +kernel
theorem dX8_copy_37 : decode cX8_copy 37 = .ok (.getfield 7, 3) := by decide +kernel
theorem dX8_copy_40 : decode cX8_copy 40 = .ok (.iload_n 3, 1) := by decide +kernel
theorem dX8_copy_41 : decode cX8_copy 41 = .ok (.iaload, 1) := by decide +kernel
theorem dX8_copy_42 : decode cX8_copy 42 = .ok (.ifCond .ge 9, 3) := by decide +kernel
theorem dX8_copy_45 : decode cX8_copy 45 = .ok (.aload_n 0, 1) := by decide +kernel
theorem dX8_copy_46 : decode cX8_copy 46 = .ok (.iconst 1, 1) := by decide +kernel
theorem dX8_copy_47 : decode cX8_copy 47 = .ok (.invokevirtual 99, 3) := by decide +kernel
theorem dX8_copy_50 : decode cX8_copy 50 = .ok (.ireturn, 1) := by decide +kernel
theorem dX8_copy_51 : decode cX8_copy 51 = .ok (.aload_n 0, 1) := by decide +kernel
theorem dX8_copy_52 : decode cX8_copy 52 = .ok (.getfield 7, 3) := by decide +kernel
theorem dX8_copy_55 : decode cX8_copy 55 = .ok (.iload_n 1, 1) := by decide +kernel
theorem dX8_copy_56 : decode cX8_copy 56 = .ok (.iaload, 1) := by decide +kernel
theorem dX8_copy_57 : decode cX8_copy 57 = .ok (.aload_n 0, 1) := by decide +kernel
theorem dX8_copy_58 : decode cX8_copy 58 = .ok (.getfield 7, 3) := by decide +kernel
theorem dX8_copy_61 : decode cX8_copy 61 = .ok (.iload_n 3, 1) := by decide +kernel
theorem dX8_copy_62 : decode cX8_copy 62 = .ok (.iaload, 1) := by decide +kernel
theorem dX8_copy_63 : decode cX8_copy 63 = .ok (.if_icmp .eq 9, 3) := by decide +kernel
theorem dX8_copy_66 : decode cX8_copy 66 = .ok (.aload_n 0, 1) := by decide +kernel
theorem dX8_copy_67 : decode cX8_copy 67 = .ok (.iconst 5, 1) := by decide +kernel
theorem dX8_copy_68 : decode cX8_copy 68 = .ok (.invokevirtual 99, 3) := by decide +kernel
theorem dX8_copy_71 : decode cX8_copy 71 = .ok (.ireturn, 1) := by decide +kernel
theorem dX8_copy_72 : decode cX8_copy 72 = .ok (.iload_n 2, 1) := by decide +kernel
theorem dX8_copy_73 : decode cX8_copy 73 = .ok (.ifCond .lt 48, 3) := by decide +kernel
theorem dX8_copy_76 : decode cX8_copy 76 = .ok (.iload 4, 2) := by decide +kernel
theorem dX8_copy_78 : decode cX8_copy 78 = .ok (.ifCond .lt 43, 3) := by decide +kernel
theorem dX8_copy_81 : decode cX8_copy 81 = .ok (.iload 5, 2) := by decide +kernel
theorem dX8_copy_83 : decode cX8_copy 83 = .ok (.ifCond .lt 38, 3) := by decide +kernel
theorem dX8_copy_86 : decode cX8_copy 86 = .ok (.iload_n 2, 1) := by decide +kernel
theorem dX8_copy_87 : decode cX8_copy 87 = .ok (.i2l, 1) := by decide +kernel
theorem dX8_copy_88 : decode cX8_copy 88 = .ok (.iload 5, 2) := by decide +kernel
theorem dX8_copy_90 : decode cX8_copy 90 = .ok (.i2l, 1) := by decide +kernel
theorem dX8_copy_91 : decode cX8_copy 91 = .ok (.ladd, 1) := by decide +kernel
theorem dX8_copy_92 : decode cX8_copy 92 = .ok (.aload_n 0, 1) := by decide +kernel
theorem dX8_copy_93 : decode cX8_copy 93 = .ok (.getfield 13, 3) := by decide +kernel
theorem dX8_copy_96 : decode cX8_copy 96 = .ok (.iload_n 1, 1) := by decide +kernel
theorem dX8_copy_97 : decode cX8_copy 97 = .ok (.iaload, 1) := by decide +kernel
theorem dX8_copy_98 : decode cX8_copy 98 = .ok (.i2l, 1) := by decide +kernel
theorem dX8_copy_99 : decode cX8_copy 99 = .ok (.lcmp, 1) := by decide +kernel
theorem dX8_copy_100 : decode cX8_copy 100 = .ok (.ifCond .gt 21, 3) := by decide +kernel
theorem dX8_copy_103 : decode cX8_copy 103 = .ok (.iload 4, 2) := by decide +kernel
theorem dX8_copy_105 : decode cX8_copy 105 = .ok (.i2l, 1) := by decide +kernel
theorem dX8_copy_106 : decode cX8_copy 106 = .ok (.iload 5, 2) := by decide +kernel
theorem dX8_copy_108 : decode cX8_copy 108 = .ok (.i2l, 1) := by decide +kernel
theorem dX8_copy_109 : decode cX8_copy 109 = .ok (.ladd, 1) := by decide +kernel
theorem dX8_copy_110 : decode cX8_copy 110 = .ok (.aload_n 0, 1) := by decide +kernel
theorem dX8_copy_111 : decode cX8_copy 111 = .ok (.getfield 13, 3) := by decide +kernel
theorem dX8_copy_114 : decode cX8_copy 114 = .ok (.iload_n 3, 1) := by decide +kernel
theorem dX8_copy_115 : decode cX8_copy 115 = .ok (.iaload, 1) := by decide +kernel
theorem dX8_copy_116 : decode cX8_copy 116 = .ok (.i2l, 1) := by decide +kernel
theorem dX8_copy_117 : decode cX8_copy 117 = .ok (.lcmp, 1) := by decide +kernel
theorem dX8_copy_118 : decode cX8_copy 118 = .ok (.ifCond .le 9, 3) := by decide +kernel
theorem dX8_copy_121 : decode cX8_copy 121 = .ok (.aload_n 0, 1) := by decide +kernel
theorem dX8_copy_122 : decode cX8_copy 122 = .ok (.iconst 2, 1) := by decide +kernel
theorem dX8_copy_123 : decode cX8_copy 123 = .ok (.invokevirtual 99, 3) := by decide +kernel
theorem dX8_copy_126 : decode cX8_copy 126 = .ok (.ireturn, 1) := by decide +kernel
theorem dX8_copy_127 : decode cX8_copy 127 = .ok (.iload_n 2, 1) := by decide +kernel
theorem dX8_copy_128 : decode cX8_copy 128 = .ok (.iload 4, 2) := by decide +kernel
theorem dX8_copy_130 : decode cX8_copy 130 = .ok (.if_icmp .lt 7, 3) := by decide +kernel
theorem dX8_copy_133 : decode cX8_copy 133 = .ok (.iconst 1, 1) := by decide +kernel
theorem dX8_copy_134 : decode cX8_copy 134 = .ok (.goto 4, 3) := by decide +kernel
theorem dX8_copy_137 : decode cX8_copy 137 = .ok (.iconst 0, 1) := by decide +kernel
theorem dX8_copy_138 : decode cX8_copy 138 = .ok (.istore 6, 2) := by decide +kernel
theorem dX8_copy_140 : decode cX8_copy 140 = .ok (.iconst 0, 1) := by decide +kernel
theorem dX8_copy_141 : decode cX8_copy 141 = .ok (.istore 7, 2) := by decide +kernel
theorem dX8_copy_143 : decode cX8_copy 143 = .ok (.iload 7, 2) := by decide +kernel
theorem dX8_copy_145 : decode cX8_copy 145 = .ok (.iload 5, 2) := by decide +kernel
theorem dX8_copy_147 : decode cX8_copy 147 = .ok (.if_icmp .ge 57, 3) := by decide +kernel
theorem dX8_copy_150 : decode cX8_copy 150 = .ok (.iload 6, 2) := by decide +kernel
theorem dX8_copy_152 : decode cX8_copy 152 = .ok (.ifCond .eq 8, 3) := by decide +kernel
theorem dX8_copy_155 : decode cX8_copy 155 = .ok (.iload 7, 2) := by decide +kernel
theorem dX8_copy_157 : decode cX8_copy 157 = .ok (.goto 10, 3) := by decide +kernel
theorem dX8_copy_160 : decode cX8_copy 160 = .ok (.iload 5, 2) := by decide +kernel
theorem dX8_copy_162 : decode cX8_copy 162 = .ok (.iconst 1, 1) := by decide +kernel
theorem dX8_copy_163 : decode cX8_copy 163 = .ok (.isub, 1) := by decide +kernel
theorem dX8_copy_164 : decode cX8_copy 164 = .ok (.iload 7, 2) := by decide +kernel
theorem dX8_copy_166 : decode cX8_copy 166 = .ok (.isub, 1) := by decide +kernel
theorem dX8_copy_167 : decode cX8_copy 167 = .ok (.istore 8, 2) := by decide +kernel
theorem dX8_copy_169 : decode cX8_copy 169 = .ok (.aload_n 0, 1) := by decide +kernel
theorem dX8_copy_170 : decode cX8_copy 170 = .ok (.getfield 16, 3) := by decide +kernel
theorem dX8_copy_173 : decode cX8_copy 173 = .ok (.bipush 40, 2) := by decide +kernel
theorem dX8_copy_175 : decode cX8_copy 175 = .ok (.iload_n 3, 1) := by decide +kernel
theorem dX8_copy_176 : decode cX8_copy 176 = .ok (.imul, 1) := by decide +kernel
theorem dX8_copy_177 : decode cX8_copy 177 = .ok (.iload 4, 2) := by decide +kernel
theorem dX8_copy_179 : decode cX8_copy 179 = .ok (.iadd, 1) := by decide +kernel
theorem dX8_copy_180 : decode cX8_copy 180 = .ok (.iload 8, 2) := by decide +kernel
theorem dX8_copy_182 : decode cX8_copy 182 = .ok (.iadd, 1) := by decide +kernel
theorem dX8_copy_183 : decode cX8_copy 183 = .ok (.aload_n 0, 1) := by decide +kernel
theorem dX8_copy_184 : decode cX8_copy 184 = .ok (.getfield 16, 3) := by decide +kernel
theorem dX8_copy_187 : decode cX8_copy 187 = .ok (.bipush 40, 2) := by decide +kernel
theorem dX8_copy_189 : decode cX8_copy 189 = .ok (.iload_n 1, 1) := by decide +kernel
theorem dX8_copy_190 : decode cX8_copy 190 = .ok (.imul, 1) := by decide +kernel
theorem dX8_copy_191 : decode cX8_copy 191 = .ok (.iload_n 2, 1) := by decide +kernel
theorem dX8_copy_192 : decode cX8_copy 192 = .ok (.iadd, 1) := by decide +kernel
theorem dX8_copy_193 : decode cX8_copy 193 = .ok (.iload 8, 2) := by decide +kernel
theorem dX8_copy_195 : decode cX8_copy 195 = .ok (.iadd, 1) := by decide +kernel
theorem dX8_copy_196 : decode cX8_copy 196 = .ok (.iaload, 1) := by decide +kernel
theorem dX8_copy_197 : decode cX8_copy 197 = .ok (.iastore, 1) := by decide +kernel
theorem dX8_copy_198 : decode cX8_copy 198 = .ok (.iinc 7 1, 3) := by decide +kernel
theorem dX8_copy_201 : decode cX8_copy 201 = .ok (.goto (-58), 3) := by decide +kernel
theorem dX8_copy_204 : decode cX8_copy 204 = .ok (.iload 5, 2) := by decide +kernel
theorem dX8_copy_206 : decode cX8_copy 206 = .ok (.ireturn, 1) := by decide +kernel
theorem dX8_drop_0 : decode cX8_drop 0 = .ok (.aload_n 0, 1) := by decide +kernel
theorem dX8_drop_1 : decode cX8_drop 1 = .ok (.iconst 0, 1) := by decide +kernel
theorem dX8_drop_2 : decode cX8_drop 2 = .ok (.putfield 78, 3) := by decide +kernel
theorem dX8_drop_5 : decode cX8_drop 5 = .ok (.iload_n 1, 1) := by decide +kernel
theorem dX8_drop_6 : decode cX8_drop 6 = .ok (.invokestatic 92, 3) := by decide +kernel
theorem dX8_drop_9 : decode cX8_drop 9 = .ok (.ifCond .ne 6, 3) := by decide +kernel
theorem dX8_drop_12 : decode cX8_drop 12 = .ok (.ldc 98, 2) := by decide +kernel
theorem dX8_drop_14 : decode cX8_drop 14 = .ok (.ireturn, 1) := by decide +kernel
theorem dX8_drop_15 : decode cX8_drop 15 = .ok (.aload_n 0, 1) := by decide +kernel
theorem dX8_drop_16 : decode cX8_drop 16 = .ok (.iconst 0, 1) := by decide +kernel
theorem dX8_drop_17 : decode cX8_drop 17 = .ok (.putfield 82, 3) := by decide +kernel
theorem dX8_drop_20 : decode cX8_drop 20 = .ok (.aload_n 0, 1) := by decide +kernel
theorem dX8_drop_21 : decode cX8_drop 21 = .ok (.getfield 7, 3) := by decide +kernel
theorem dX8_drop_24 : decode cX8_drop 24 = .ok (.iload_n 1, 1) := by decide +kernel
theorem dX8_drop_25 : decode cX8_drop 25 = .ok (.iaload, 1) := by decide +kernel
theorem dX8_drop_26 : decode cX8_drop 26 = .ok (.ifCond .ge 9, 3) := by decide +kernel
theorem dX8_drop_29 : decode cX8_drop 29 = .ok (.aload_n 0, 1) := by decide +kernel
theorem dX8_drop_30 : decode cX8_drop 30 = .ok (.iconst 1, 1) := by decide +kernel
theorem dX8_drop_31 : decode cX8_drop 31 = .ok (.invokevirtual 99, 3) := by decide +kernel
theorem dX8_drop_34 : decode cX8_drop 34 = .ok (.ireturn, 1) := by decide +kernel
theorem dX8_drop_35 : decode cX8_drop 35 = .ok (.aload_n 0, 1) := by decide +kernel
theorem dX8_drop_36 : decode cX8_drop 36 = .ok (.getfield 7, 3) := by decide +kernel
theorem dX8_drop_39 : decode cX8_drop 39 = .ok (.iload_n 1, 1) := by decide +kernel
theorem dX8_drop_40 : decode cX8_drop 40 = .ok (.iconst (-1), 1) := by decide +kernel
theorem dX8_drop_41 : decode cX8_drop 41 = .ok (.iastore, 1) := by decide +kernel
theorem dX8_drop_42 : decode cX8_drop 42 = .ok (.aload_n 0, 1) := by decide +kernel
theorem dX8_drop_43 : decode cX8_drop 43 = .ok (.getfield 13, 3) := by decide +kernel
theorem dX8_drop_46 : decode cX8_drop 46 = .ok (.iload_n 1, 1) := by decide +kernel
theorem dX8_drop_47 : decode cX8_drop 47 = .ok (.iaload, 1) := by decide +kernel
theorem dX8_drop_48 : decode cX8_drop 48 = .ok (.ireturn, 1) := by decide +kernel
theorem dX8_doubtsOf_0 : decode cX8_doubtsOf 0 = .ok (.iload_n 0, 1) := by decide +kernel
theorem dX8_doubtsOf_1 : decode cX8_doubtsOf 1 = .ok (.iconst 1, 1) := by decide +kernel
theorem dX8_doubtsOf_2 : decode cX8_doubtsOf 2 = .ok (.if_icmp .ne 7, 3) := by decide +kernel
theorem dX8_doubtsOf_5 : decode cX8_doubtsOf 5 = .ok (.iconst 1, 1) := by decide +kernel
theorem dX8_doubtsOf_6 : decode cX8_doubtsOf 6 = .ok (.goto 13, 3) := by decide +kernel
theorem dX8_doubtsOf_9 : decode cX8_doubtsOf 9 = .ok (.iload_n 0, 1) := by decide +kernel
theorem dX8_doubtsOf_10 : decode cX8_doubtsOf 10 = .ok (.iconst 3, 1) := by decide +kernel
theorem dX8_doubtsOf_11 : decode cX8_doubtsOf 11 = .ok (.if_icmp .ne 7, 3) := by decide +kernel
theorem dX8_doubtsOf_14 : decode cX8_doubtsOf 14 = .ok (.iconst 3, 1) := by decide +kernel
theorem dX8_doubtsOf_15 : decode cX8_doubtsOf 15 = .ok (.goto 4, 3) := by decide +kernel
theorem dX8_doubtsOf_18 : decode cX8_doubtsOf 18 = .ok (.iconst 2, 1) := by decide +kernel
theorem dX8_doubtsOf_19 : decode cX8_doubtsOf 19 = .ok (.ireturn, 1) := by decide +kernel
theorem dX8_feed_0 : decode cX8_feed 0 = .ok (.aload_n 0, 1) := by decide +kernel
theorem dX8_feed_1 : decode cX8_feed 1 = .ok (.iconst 0, 1) := by decide +kernel
theorem dX8_feed_2 : decode cX8_feed 2 = .ok (.putfield 78, 3) := by decide +kernel
theorem dX8_feed_5 : decode cX8_feed 5 = .ok (.iload_n 3, 1) := by decide +kernel
theorem dX8_feed_6 : decode cX8_feed 6 = .ok (.i2l, 1) := by decide +kernel
theorem dX8_feed_7 : decode cX8_feed 7 = .ok (.lconst 1, 1) := by decide +kernel
theorem dX8_feed_8 : decode cX8_feed 8 = .ok (.ldc2_w 103, 3) := by decide +kernel
theorem dX8_feed_11 : decode cX8_feed 11 = .ok (.invokestatic 88, 3) := by decide +kernel
theorem dX8_feed_14 : decode cX8_feed 14 = .ok (.ifCond .ne 6, 3) := by decide +kernel
theorem dX8_feed_17 : decode cX8_feed 17 = .ok (.ldc 98, 2) := by decide +kernel
theorem dX8_feed_19 : decode cX8_feed 19 = .ok (.ireturn, 1) := by decide +kernel
theorem dX8_feed_20 : decode cX8_feed 20 = .ok (.aload_n 0, 1) := by decide +kernel
theorem dX8_feed_21 : decode cX8_feed 21 = .ok (.getfield 105, 3) := by decide +kernel
theorem dX8_feed_24 : decode cX8_feed 24 = .ok (.iload_n 3, 1) := by decide +kernel
theorem dX8_feed_25 : decode cX8_feed 25 = .ok (.iadd, 1) := by decide +kernel
theorem dX8_feed_26 : decode cX8_feed 26 = .ok (.sipush 400, 3) := by decide +kernel
theorem dX8_feed_29 : decode cX8_feed 29 = .ok (.if_icmp .le 6, 3) := by decide +kernel
theorem dX8_feed_32 : decode cX8_feed 32 = .ok (.ldc 108, 2) := by decide +kernel
theorem dX8_feed_34 : decode cX8_feed 34 = .ok (.ireturn, 1) := by decide +kernel
theorem dX8_feed_35 : decode cX8_feed 35 = .ok (.iload_n 3, 1) := by decide +kernel
theorem dX8_feed_36 : decode cX8_feed 36 = .ok (.iconst 1, 1) := by decide +kernel
theorem dX8_feed_37 : decode cX8_feed 37 = .ok (.isub, 1) := by decide +kernel
theorem dX8_feed_38 : decode cX8_feed 38 = .ok (.istore 4, 2) := by decide +kernel
theorem dX8_feed_40 : decode cX8_feed 40 = .ok (.iload 4, 2) := by decide +kernel
theorem dX8_feed_42 : decode cX8_feed 42 = .ok (.ifCond .lt 40, 3) := by decide +kernel
theorem dX8_feed_45 : decode cX8_feed 45 = .ok (.aload_n 0, 1) := by decide +kernel
theorem dX8_feed_46 : decode cX8_feed 46 = .ok (.getfield 50, 3) := by decide +kernel
theorem dX8_feed_49 : decode cX8_feed 49 = .ok (.aload_n 0, 1) := by decide +kernel
theorem dX8_feed_50 : decode cX8_feed 50 = .ok (.getfield 105, 3) := by decide +kernel
theorem dX8_feed_53 : decode cX8_feed 53 = .ok (.lload_n 1, 1) := by decide +kernel
theorem dX8_feed_54 : decode cX8_feed 54 = .ok (.bipush 8, 2) := by decide +kernel
theorem dX8_feed_56 : decode cX8_feed 56 = .ok (.iload 4, 2) := by decide +kernel
theorem dX8_feed_58 : decode cX8_feed 58 = .ok (.imul, 1) := by decide +kernel
theorem dX8_feed_59 : decode cX8_feed 59 = .ok (.lshr, 1) := by decide +kernel
theorem dX8_feed_60 : decode cX8_feed 60 = .ok (.ldc2_w 109, 3) := by decide +kernel
theorem dX8_feed_63 : decode cX8_feed 63 = .ok (.land, 1) := by decide +kernel
theorem dX8_feed_64 : decode cX8_feed 64 = .ok (.l2i, 1) := by decide +kernel
theorem dX8_feed_65 : decode cX8_feed 65 = .ok (.iastore, 1) := by decide +kernel
theorem dX8_feed_66 : decode cX8_feed 66 = .ok (.aload_n 0, 1) := by decide +kernel
theorem dX8_feed_67 : decode cX8_feed 67 = .ok (.dup, 1) := by decide +kernel
theorem dX8_feed_68 : decode cX8_feed 68 = .ok (.getfield 105, 3) := by decide +kernel
theorem dX8_feed_71 : decode cX8_feed 71 = .ok (.iconst 1, 1) := by decide +kernel
theorem dX8_feed_72 : decode cX8_feed 72 = .ok (.iadd, 1) := by decide +kernel
theorem dX8_feed_73 : decode cX8_feed 73 = .ok (.putfield 105, 3) := by decide +kernel
theorem dX8_feed_76 : decode cX8_feed 76 = .ok (.iinc 4 (-1), 3) := by decide +kernel
theorem dX8_feed_79 : decode cX8_feed 79 = .ok (.goto (-39), 3) := by decide +kernel
theorem dX8_feed_82 : decode cX8_feed 82 = .ok (.aload_n 0, 1) := by decide +kernel
theorem dX8_feed_83 : decode cX8_feed 83 = .ok (.getfield 105, 3) := by decide +kernel
theorem dX8_feed_86 : decode cX8_feed 86 = .ok (.ireturn, 1) := by decide +kernel
theorem dX8_byteAt_0 : decode cX8_byteAt 0 = .ok (.iload_n 1, 1) := by decide +kernel
theorem dX8_byteAt_1 : decode cX8_byteAt 1 = .ok (.aload_n 0, 1) := by decide +kernel
theorem dX8_byteAt_2 : decode cX8_byteAt 2 = .ok (.getfield 111, 3) := by decide +kernel
theorem dX8_byteAt_5 : decode cX8_byteAt 5 = .ok (.if_icmp .ge 12, 3) := by decide +kernel
theorem dX8_byteAt_8 : decode cX8_byteAt 8 = .ok (.aload_n 0, 1) := by decide +kernel
theorem dX8_byteAt_9 : decode cX8_byteAt 9 = .ok (.getfield 50, 3) := by decide +kernel
theorem dX8_byteAt_12 : decode cX8_byteAt 12 = .ok (.iload_n 1, 1) := by decide +kernel
theorem dX8_byteAt_13 : decode cX8_byteAt 13 = .ok (.iaload, 1) := by decide +kernel
theorem dX8_byteAt_14 : decode cX8_byteAt 14 = .ok (.goto 5, 3) := by decide +kernel
theorem dX8_byteAt_17 : decode cX8_byteAt 17 = .ok (.ldc 114, 2) := by decide +kernel
theorem dX8_byteAt_19 : decode cX8_byteAt 19 = .ok (.ireturn, 1) := by decide +kernel
theorem dX8_isLetter_0 : decode cX8_isLetter 0 = .ok (.iload_n 0, 1) := by decide +kernel
theorem dX8_isLetter_1 : decode cX8_isLetter 1 = .ok (.bipush 97, 2) := by decide +kernel
theorem dX8_isLetter_3 : decode cX8_isLetter 3 = .ok (.if_icmp .lt 13, 3) := by decide +kernel
theorem dX8_isLetter_6 : decode cX8_isLetter 6 = .ok (.iload_n 0, 1) := by decide +kernel
theorem dX8_isLetter_7 : decode cX8_isLetter 7 = .ok (.bipush 122, 2) := by decide +kernel
theorem dX8_isLetter_9 : decode cX8_isLetter 9 = .ok (.if_icmp .gt 7, 3) := by decide +kernel
theorem dX8_isLetter_12 : decode cX8_isLetter 12 = .ok (.iconst 1, 1) := by decide +kernel
theorem dX8_isLetter_13 : decode cX8_isLetter 13 = .ok (.goto 4, 3) := by decide +kernel
theorem dX8_isLetter_16 : decode cX8_isLetter 16 = .ok (.iconst 0, 1) := by decide +kernel
theorem dX8_isLetter_17 : decode cX8_isLetter 17 = .ok (.ireturn, 1) := by decide +kernel
theorem dX8_isFigure_0 : decode cX8_isFigure 0 = .ok (.iload_n 0, 1) := by decide +kernel
theorem dX8_isFigure_1 : decode cX8_isFigure 1 = .ok (.bipush 48, 2) := by decide +kernel
theorem dX8_isFigure_3 : decode cX8_isFigure 3 = .ok (.if_icmp .lt 13, 3) := by decide +kernel
theorem dX8_isFigure_6 : decode cX8_isFigure 6 = .ok (.iload_n 0, 1) := by decide +kernel
theorem dX8_isFigure_7 : decode cX8_isFigure 7 = .ok (.bipush 57, 2) := by decide +kernel
theorem dX8_isFigure_9 : decode cX8_isFigure 9 = .ok (.if_icmp .gt 7, 3) := by decide +kernel
theorem dX8_isFigure_12 : decode cX8_isFigure 12 = .ok (.iconst 1, 1) := by decide +kernel
theorem dX8_isFigure_13 : decode cX8_isFigure 13 = .ok (.goto 4, 3) := by decide +kernel
theorem dX8_isFigure_16 : decode cX8_isFigure 16 = .ok (.iconst 0, 1) := by decide +kernel
theorem dX8_isFigure_17 : decode cX8_isFigure 17 = .ok (.ireturn, 1) := by decide +kernel
theorem dX8_next_0 : decode cX8_next 0 = .ok (.aload_n 0, 1) := by decide +kernel
theorem dX8_next_1 : decode cX8_next 1 = .ok (.aload_n 0, 1) := by decide +kernel
theorem dX8_next_2 : decode cX8_next 2 = .ok (.getfield 115, 3) := by decide +kernel
theorem dX8_next_5 : decode cX8_next 5 = .ok (.invokevirtual 118, 3) := by decide +kernel
theorem dX8_next_8 : decode cX8_next 8 = .ok (.bipush 32, 2) := by decide +kernel
theorem dX8_next_10 : decode cX8_next 10 = .ok (.if_icmp .eq 16, 3) := by decide +kernel
theorem dX8_next_13 : decode cX8_next 13 = .ok (.aload_n 0, 1) := by decide +kernel
theorem dX8_next_14 : decode cX8_next 14 = .ok (.aload_n 0, 1) := by decide +kernel
theorem dX8_next_15 : decode cX8_next 15 = .ok (.getfield 115, 3) := by decide +kernel
theorem dX8_next_18 : decode cX8_next 18 = .ok (.invokevirtual 118, 3) := by decide +kernel
theorem dX8_next_21 : decode cX8_next 21 = .ok (.bipush 10, 2) := by decide +kernel
theorem dX8_next_23 : decode cX8_next 23 = .ok (.if_icmp .ne 16, 3) := by decide +kernel
theorem dX8_next_26 : decode cX8_next 26 = .ok (.aload_n 0, 1) := by decide +kernel
theorem dX8_next_27 : decode cX8_next 27 = .ok (.dup, 1) := by decide +kernel
theorem dX8_next_28 : decode cX8_next 28 = .ok (.getfield 115, 3) := by decide +kernel
theorem dX8_next_31 : decode cX8_next 31 = .ok (.iconst 1, 1) := by decide +kernel
theorem dX8_next_32 : decode cX8_next 32 = .ok (.iadd, 1) := by decide +kernel
theorem dX8_next_33 : decode cX8_next 33 = .ok (.putfield 115, 3) := by decide +kernel
theorem dX8_next_36 : decode cX8_next 36 = .ok (.goto (-36), 3) := by decide +kernel
theorem dX8_next_39 : decode cX8_next 39 = .ok (.aload_n 0, 1) := by decide +kernel
theorem dX8_next_40 : decode cX8_next 40 = .ok (.aload_n 0, 1) := by decide +kernel
theorem dX8_next_41 : decode cX8_next 41 = .ok (.getfield 115, 3) := by decide +kernel
theorem dX8_next_44 : decode cX8_next 44 = .ok (.putfield 121, 3) := by decide +kernel
theorem dX8_next_47 : decode cX8_next 47 = .ok (.aload_n 0, 1) := by decide +kernel
theorem dX8_next_48 : decode cX8_next 48 = .ok (.aload_n 0, 1) := by decide +kernel
theorem dX8_next_49 : decode cX8_next 49 = .ok (.getfield 115, 3) := by decide +kernel
theorem dX8_next_52 : decode cX8_next 52 = .ok (.invokevirtual 118, 3) := by decide +kernel
theorem dX8_next_55 : decode cX8_next 55 = .ok (.istore_n 1, 1) := by decide +kernel
theorem dX8_next_56 : decode cX8_next 56 = .ok (.iload_n 1, 1) := by decide +kernel
theorem dX8_next_57 : decode cX8_next 57 = .ok (.ldc 114, 2) := by decide +kernel
theorem dX8_next_59 : decode cX8_next 59 = .ok (.if_icmp .ne 11, 3) := by decide +kernel
theorem dX8_next_62 : decode cX8_next 62 = .ok (.aload_n 0, 1) := by decide +kernel
theorem dX8_next_63 : decode cX8_next 63 = .ok (.iconst 1, 1) := by decide +kernel
theorem dX8_next_64 : decode cX8_next 64 = .ok (.putfield 124, 3) := by decide +kernel
theorem dX8_next_67 : decode cX8_next 67 = .ok (.goto 129, 3) := by decide +kernel
theorem dX8_next_70 : decode cX8_next 70 = .ok (.iload_n 1, 1) := by decide +kernel
theorem dX8_next_71 : decode cX8_next 71 = .ok (.invokestatic 127, 3) := by decide +kernel
theorem dX8_next_74 : decode cX8_next 74 = .ok (.ifCond .eq 38, 3) := by decide +kernel
theorem dX8_next_77 : decode cX8_next 77 = .ok (.aload_n 0, 1) := by decide +kernel
theorem dX8_next_78 : decode cX8_next 78 = .ok (.aload_n 0, 1) := by decide +kernel
theorem dX8_next_79 : decode cX8_next 79 = .ok (.getfield 115, 3) := by decide +kernel
theorem dX8_next_82 : decode cX8_next 82 = .ok (.invokevirtual 118, 3) := by decide +kernel
theorem dX8_next_85 : decode cX8_next 85 = .ok (.invokestatic 127, 3) := by decide +kernel
theorem dX8_next_88 : decode cX8_next 88 = .ok (.ifCond .eq 16, 3) := by decide +kernel
theorem dX8_next_91 : decode cX8_next 91 = .ok (.aload_n 0, 1) := by decide +kernel
theorem dX8_next_92 : decode cX8_next 92 = .ok (.dup, 1) := by decide +kernel
theorem dX8_next_93 : decode cX8_next 93 = .ok (.getfield 115, 3) := by decide +kernel
theorem dX8_next_96 : decode cX8_next 96 = .ok (.iconst 1, 1) := by decide +kernel
theorem dX8_next_97 : decode cX8_next 97 = .ok (.iadd, 1) := by decide +kernel
theorem dX8_next_98 : decode cX8_next 98 = .ok (.putfield 115, 3) := by decide +kernel
theorem dX8_next_101 : decode cX8_next 101 = .ok (.goto (-24), 3) := by decide +kernel
theorem dX8_next_104 : decode cX8_next 104 = .ok (.aload_n 0, 1) := by decide +kernel
theorem dX8_next_105 : decode cX8_next 105 = .ok (.iconst 2, 1) := by decide +kernel
theorem dX8_next_106 : decode cX8_next 106 = .ok (.putfield 124, 3) := by decide +kernel
theorem dX8_next_109 : decode cX8_next 109 = .ok (.goto 87, 3) := by decide +kernel
theorem dX8_next_112 : decode cX8_next 112 = .ok (.iload_n 1, 1) := by decide +kernel
theorem dX8_next_113 : decode cX8_next 113 = .ok (.invokestatic 130, 3) := by decide +kernel
theorem dX8_next_116 : decode cX8_next 116 = .ok (.ifCond .eq 55, 3) := by decide +kernel
theorem dX8_next_119 : decode cX8_next 119 = .ok (.aload_n 0, 1) := by decide +kernel
theorem dX8_next_120 : decode cX8_next 120 = .ok (.aload_n 0, 1) := by decide +kernel
theorem dX8_next_121 : decode cX8_next 121 = .ok (.getfield 115, 3) := by decide +kernel
theorem dX8_next_124 : decode cX8_next 124 = .ok (.invokevirtual 118, 3) := by decide +kernel
theorem dX8_next_127 : decode cX8_next 127 = .ok (.invokestatic 130, 3) := by decide +kernel
theorem dX8_next_130 : decode cX8_next 130 = .ok (.ifCond .eq 16, 3) := by decide +kernel
theorem dX8_next_133 : decode cX8_next 133 = .ok (.aload_n 0, 1) := by decide +kernel
theorem dX8_next_134 : decode cX8_next 134 = .ok (.dup, 1) := by decide +kernel
theorem dX8_next_135 : decode cX8_next 135 = .ok (.getfield 115, 3) := by decide +kernel
theorem dX8_next_138 : decode cX8_next 138 = .ok (.iconst 1, 1) := by decide +kernel
theorem dX8_next_139 : decode cX8_next 139 = .ok (.iadd, 1) := by decide +kernel
theorem dX8_next_140 : decode cX8_next 140 = .ok (.putfield 115, 3) := by decide +kernel
theorem dX8_next_143 : decode cX8_next 143 = .ok (.goto (-24), 3) := by decide +kernel
theorem dX8_next_146 : decode cX8_next 146 = .ok (.aload_n 0, 1) := by decide +kernel
theorem dX8_next_147 : decode cX8_next 147 = .ok (.aload_n 0, 1) := by decide +kernel
theorem dX8_next_148 : decode cX8_next 148 = .ok (.getfield 115, 3) := by decide +kernel
theorem dX8_next_151 : decode cX8_next 151 = .ok (.aload_n 0, 1) := by decide +kernel
theorem dX8_next_152 : decode cX8_next 152 = .ok (.getfield 121, 3) := by decide +kernel
theorem dX8_next_155 : decode cX8_next 155 = .ok (.isub, 1) := by decide +kernel
theorem dX8_next_156 : decode cX8_next 156 = .ok (.iconst 4, 1) := by decide +kernel
theorem dX8_next_157 : decode cX8_next 157 = .ok (.if_icmp .le 7, 3) := by decide +kernel
theorem dX8_next_160 : decode cX8_next 160 = .ok (.iconst 0, 1) := by decide +kernel
theorem dX8_next_161 : decode cX8_next 161 = .ok (.goto 4, 3) := by decide +kernel
theorem dX8_next_164 : decode cX8_next 164 = .ok (.iconst 3, 1) := by decide +kernel
theorem dX8_next_165 : decode cX8_next 165 = .ok (.putfield 124, 3) := by decide +kernel
theorem dX8_next_168 : decode cX8_next 168 = .ok (.goto 28, 3) := by decide +kernel
theorem dX8_next_171 : decode cX8_next 171 = .ok (.aload_n 0, 1) := by decide +kernel
theorem dX8_next_172 : decode cX8_next 172 = .ok (.dup, 1) := by decide +kernel
theorem dX8_next_173 : decode cX8_next 173 = .ok (.getfield 115, 3) := by decide +kernel
theorem dX8_next_176 : decode cX8_next 176 = .ok (.iconst 1, 1) := by decide +kernel
theorem dX8_next_177 : decode cX8_next 177 = .ok (.iadd, 1) := by decide +kernel
theorem dX8_next_178 : decode cX8_next 178 = .ok (.putfield 115, 3) := by decide +kernel
theorem dX8_next_181 : decode cX8_next 181 = .ok (.aload_n 0, 1) := by decide +kernel
theorem dX8_next_182 : decode cX8_next 182 = .ok (.iload_n 1, 1) := by decide +kernel
theorem dX8_next_183 : decode cX8_next 183 = .ok (.bipush 59, 2) := by decide +kernel
theorem dX8_next_185 : decode cX8_next 185 = .ok (.if_icmp .ne 7, 3) := by decide +kernel
theorem dX8_next_188 : decode cX8_next 188 = .ok (.iconst 4, 1) := by decide +kernel
theorem dX8_next_189 : decode cX8_next 189 = .ok (.goto 4, 3) := by decide +kernel
theorem dX8_next_192 : decode cX8_next 192 = .ok (.iconst 0, 1) := by decide +kernel
theorem dX8_next_193 : decode cX8_next 193 = .ok (.putfield 124, 3) := by decide +kernel
theorem dX8_next_196 : decode cX8_next 196 = .ok (.aload_n 0, 1) := by decide +kernel
theorem dX8_next_197 : decode cX8_next 197 = .ok (.aload_n 0, 1) := by decide +kernel
theorem dX8_next_198 : decode cX8_next 198 = .ok (.getfield 115, 3) := by decide +kernel
theorem dX8_next_201 : decode cX8_next 201 = .ok (.putfield 133, 3) := by decide +kernel
theorem dX8_next_204 : decode cX8_next 204 = .ok (.return_, 1) := by decide +kernel
theorem dX8_bad_0 : decode cX8_bad 0 = .ok (.aload_n 0, 1) := by decide +kernel
theorem dX8_bad_1 : decode cX8_bad 1 = .ok (.getfield 136, 3) := by decide +kernel
theorem dX8_bad_4 : decode cX8_bad 4 = .ok (.ifCond .ne 16, 3) := by decide +kernel
theorem dX8_bad_7 : decode cX8_bad 7 = .ok (.aload_n 0, 1) := by decide +kernel
theorem dX8_bad_8 : decode cX8_bad 8 = .ok (.iload_n 1, 1) := by decide +kernel
theorem dX8_bad_9 : decode cX8_bad 9 = .ok (.putfield 136, 3) := by decide +kernel
theorem dX8_bad_12 : decode cX8_bad 12 = .ok (.aload_n 0, 1) := by decide +kernel
theorem dX8_bad_13 : decode cX8_bad 13 = .ok (.aload_n 0, 1) := by decide +kernel
theorem dX8_bad_14 : decode cX8_bad 14 = .ok (.getfield 121, 3) := by decide +kernel
theorem dX8_bad_17 : decode cX8_bad 17 = .ok (.putfield 139, 3) := by decide +kernel
theorem dX8_bad_20 : decode cX8_bad 20 = .ok (.return_, 1) := by decide +kernel
theorem dX8_must_0 : decode cX8_must 0 = .ok (.iload_n 1, 1) := by decide +kernel
theorem dX8_must_1 : decode cX8_must 1 = .ok (.ifCond .ne 8, 3) := by decide +kernel
theorem dX8_must_4 : decode cX8_must 4 = .ok (.aload_n 0, 1) := by decide +kernel
theorem dX8_must_5 : decode cX8_must 5 = .ok (.iconst 1, 1) := by decide +kernel
theorem dX8_must_6 : decode cX8_must 6 = .ok (.invokevirtual 142, 3) := by decide +kernel
theorem dX8_must_9 : decode cX8_must 9 = .ok (.aload_n 0, 1) := by decide +kernel
theorem dX8_must_10 : decode cX8_must 10 = .ok (.getfield 136, 3) := by decide +kernel
theorem dX8_must_13 : decode cX8_must 13 = .ok (.ifCond .ne 7, 3) := by decide +kernel
theorem dX8_must_16 : decode cX8_must 16 = .ok (.aload_n 0, 1) := by decide +kernel
theorem dX8_must_17 : decode cX8_must 17 = .ok (.invokevirtual 146, 3) := by decide +kernel
theorem dX8_must_20 : decode cX8_must 20 = .ok (.return_, 1) := by decide +kernel
theorem dX8_word_0 : decode cX8_word 0 = .ok (.lconst 0, 1) := by decide +kernel
theorem dX8_word_1 : decode cX8_word 1 = .ok (.lstore_n 1, 1) := by decide +kernel
theorem dX8_word_2 : decode cX8_word 2 = .ok (.aload_n 0, 1) := by decide +kernel
theorem dX8_word_3 : decode cX8_word 3 = .ok (.getfield 121, 3) := by decide +kernel
theorem dX8_word_6 : decode cX8_word 6 = .ok (.istore_n 3, 1) := by decide +kernel
theorem dX8_word_7 : decode cX8_word 7 = .ok (.iload_n 3, 1) := by decide +kernel
theorem dX8_word_8 : decode cX8_word 8 = .ok (.aload_n 0, 1) := by decide +kernel
theorem dX8_word_9 : decode cX8_word 9 = .ok (.getfield 133, 3) := by decide +kernel
theorem dX8_word_12 : decode cX8_word 12 = .ok (.if_icmp .ge 44, 3) := by decide +kernel
theorem dX8_word_15 : decode cX8_word 15 = .ok (.aload_n 0, 1) := by decide +kernel
theorem dX8_word_16 : decode cX8_word 16 = .ok (.getfield 124, 3) := by decide +kernel
theorem dX8_word_19 : decode cX8_word 19 = .ok (.iconst 2, 1) := by decide +kernel
theorem dX8_word_20 : decode cX8_word 20 = .ok (.if_icmp .ne 36, 3) := by decide +kernel
theorem dX8_word_23 : decode cX8_word 23 = .ok (.aload_n 0, 1) := by decide +kernel
theorem dX8_word_24 : decode cX8_word 24 = .ok (.getfield 133, 3) := by decide +kernel
theorem dX8_word_27 : decode cX8_word 27 = .ok (.aload_n 0, 1) := by decide +kernel
theorem dX8_word_28 : decode cX8_word 28 = .ok (.getfield 121, 3) := by decide +kernel
theorem dX8_word_31 : decode cX8_word 31 = .ok (.isub, 1) := by decide +kernel
theorem dX8_word_32 : decode cX8_word 32 = .ok (.bipush 8, 2) := by decide +kernel
theorem dX8_word_34 : decode cX8_word 34 = .ok (.if_icmp .ge 22, 3) := by decide +kernel
theorem dX8_word_37 : decode cX8_word 37 = .ok (.lload_n 1, 1) := by decide +kernel
theorem dX8_word_38 : decode cX8_word 38 = .ok (.bipush 8, 2) := by decide +kernel
theorem dX8_word_40 : decode cX8_word 40 = .ok (.lshl, 1) := by decide +kernel
theorem dX8_word_41 : decode cX8_word 41 = .ok (.aload_n 0, 1) := by decide +kernel
theorem dX8_word_42 : decode cX8_word 42 = .ok (.getfield 50, 3) := by decide +kernel
theorem dX8_word_45 : decode cX8_word 45 = .ok (.iload_n 3, 1) := by decide +kernel
theorem dX8_word_46 : decode cX8_word 46 = .ok (.iaload, 1) := by decide +kernel
theorem dX8_word_47 : decode cX8_word 47 = .ok (.i2l, 1) := by decide +kernel
theorem dX8_word_48 : decode cX8_word 48 = .ok (.lor, 1) := by decide +kernel
theorem dX8_word_49 : decode cX8_word 49 = .ok (.lstore_n 1, 1) := by decide +kernel
theorem dX8_word_50 : decode cX8_word 50 = .ok (.iinc 3 1, 3) := by decide +kernel
theorem dX8_word_53 : decode cX8_word 53 = .ok (.goto (-46), 3) := by decide +kernel
theorem dX8_word_56 : decode cX8_word 56 = .ok (.lload_n 1, 1) := by decide +kernel
theorem dX8_word_57 : decode cX8_word 57 = .ok (.lreturn, 1) := by decide +kernel
theorem dX8_numberHere_0 : decode cX8_numberHere 0 = .ok (.iconst 0, 1) := by decide +kernel
theorem dX8_numberHere_1 : decode cX8_numberHere 1 = .ok (.istore_n 1, 1) := by decide +kernel
theorem dX8_numberHere_2 : decode cX8_numberHere 2 = .ok (.aload_n 0, 1) := by decide +kernel
theorem dX8_numberHere_3 : decode cX8_numberHere 3 = .ok (.getfield 121, 3) := by decide +kernel
theorem dX8_numberHere_6 : decode cX8_numberHere 6 = .ok (.istore_n 2, 1) := by decide +kernel
theorem dX8_numberHere_7 : decode cX8_numberHere 7 = .ok (.iload_n 2, 1) := by decide +kernel
theorem dX8_numberHere_8 : decode cX8_numberHere 8 = .ok (.aload_n 0, 1) := by decide +kernel
theorem dX8_numberHere_9 : decode cX8_numberHere 9 = .ok (.getfield 133, 3) := by decide +kernel
theorem dX8_numberHere_12 : decode cX8_numberHere 12 = .ok (.if_icmp .ge 32, 3) := by decide +kernel
theorem dX8_numberHere_15 : decode cX8_numberHere 15 = .ok (.aload_n 0, 1) := by decide +kernel
theorem dX8_numberHere_16 : decode cX8_numberHere 16 = .ok (.getfield 124, 3) := by decide +kernel
theorem dX8_numberHere_19 : decode cX8_numberHere 19 = .ok (.iconst 3, 1) := by decide +kernel
theorem dX8_numberHere_20 : decode cX8_numberHere 20 = .ok (.if_icmp .ne 24, 3) := by decide +kernel
theorem dX8_numberHere_23 : decode cX8_numberHere 23 = .ok (.bipush 10, 2) := by decide +kernel
theorem dX8_numberHere_25 : decode cX8_numberHere 25 = .ok (.iload_n 1, 1) := by decide +kernel
theorem dX8_numberHere_26 : decode cX8_numberHere 26 = .ok (.imul, 1) := by decide +kernel
theorem dX8_numberHere_27 : decode cX8_numberHere 27 = .ok (.aload_n 0, 1) := by decide +kernel
theorem dX8_numberHere_28 : decode cX8_numberHere 28 = .ok (.getfield 50, 3) := by decide +kernel
theorem dX8_numberHere_31 : decode cX8_numberHere 31 = .ok (.iload_n 2, 1) := by decide +kernel
theorem dX8_numberHere_32 : decode cX8_numberHere 32 = .ok (.iaload, 1) := by decide +kernel
theorem dX8_numberHere_33 : decode cX8_numberHere 33 = .ok (.iadd, 1) := by decide +kernel
theorem dX8_numberHere_34 : decode cX8_numberHere 34 = .ok (.bipush 48, 2) := by decide +kernel
theorem dX8_numberHere_36 : decode cX8_numberHere 36 = .ok (.isub, 1) := by decide +kernel
theorem dX8_numberHere_37 : decode cX8_numberHere 37 = .ok (.istore_n 1, 1) := by decide +kernel
theorem dX8_numberHere_38 : decode cX8_numberHere 38 = .ok (.iinc 2 1, 3) := by decide +kernel
theorem dX8_numberHere_41 : decode cX8_numberHere 41 = .ok (.goto (-34), 3) := by decide +kernel
theorem dX8_numberHere_44 : decode cX8_numberHere 44 = .ok (.iload_n 1, 1) := by decide +kernel
theorem dX8_numberHere_45 : decode cX8_numberHere 45 = .ok (.ireturn, 1) := by decide +kernel
theorem dX8_readNode_0 : decode cX8_readNode 0 = .ok (.aload_n 0, 1) := by decide +kernel
theorem dX8_readNode_1 : decode cX8_readNode 1 = .ok (.getfield 149, 3) := by decide +kernel
theorem dX8_readNode_4 : decode cX8_readNode 4 = .ok (.istore_n 3, 1) := by decide +kernel
theorem dX8_readNode_5 : decode cX8_readNode 5 = .ok (.aload_n 0, 1) := by decide +kernel
theorem dX8_readNode_6 : decode cX8_readNode 6 = .ok (.getfield 19, 3) := by decide +kernel
theorem dX8_readNode_9 : decode cX8_readNode 9 = .ok (.iload_n 3, 1) := by decide +kernel
theorem dX8_readNode_10 : decode cX8_readNode 10 = .ok (.lload_n 1, 1) := by decide +kernel
theorem dX8_readNode_11 : decode cX8_readNode 11 = .ok (.ldc2_w 152, 3) := by decide +kernel
theorem dX8_readNode_14 : decode cX8_readNode 14 = .ok (.lcmp, 1) := by decide +kernel
theorem dX8_readNode_15 : decode cX8_readNode 15 = .ok (.ifCond .ne 7, 3) := by decide +kernel
theorem dX8_readNode_18 : decode cX8_readNode 18 = .ok (.iconst 0, 1) := by decide +kernel
theorem dX8_readNode_19 : decode cX8_readNode 19 = .ok (.goto 16, 3) := by decide +kernel
theorem dX8_readNode_22 : decode cX8_readNode 22 = .ok (.lload_n 1, 1) := by decide +kernel
theorem dX8_readNode_23 : decode cX8_readNode 23 = .ok (.ldc2_w 154, 3) := by decide +kernel
theorem dX8_readNode_26 : decode cX8_readNode 26 = .ok (.lcmp, 1) := by decide +kernel
theorem dX8_readNode_27 : decode cX8_readNode 27 = .ok (.ifCond .ne 7, 3) := by decide +kernel
theorem dX8_readNode_30 : decode cX8_readNode 30 = .ok (.iconst 1, 1) := by decide +kernel
theorem dX8_readNode_31 : decode cX8_readNode 31 = .ok (.goto 4, 3) := by decide +kernel
theorem dX8_readNode_34 : decode cX8_readNode 34 = .ok (.iconst 2, 1) := by decide +kernel
theorem dX8_readNode_35 : decode cX8_readNode 35 = .ok (.iastore, 1) := by decide +kernel
theorem dX8_readNode_36 : decode cX8_readNode 36 = .ok (.aload_n 0, 1) := by decide +kernel
theorem dX8_readNode_37 : decode cX8_readNode 37 = .ok (.getfield 22, 3) := by decide +kernel
theorem dX8_readNode_40 : decode cX8_readNode 40 = .ok (.iload_n 3, 1) := by decide +kernel
theorem dX8_readNode_41 : decode cX8_readNode 41 = .ok (.ldc 114, 2) := by decide +kernel
theorem dX8_readNode_43 : decode cX8_readNode 43 = .ok (.iastore, 1) := by decide +kernel
theorem dX8_readNode_44 : decode cX8_readNode 44 = .ok (.aload_n 0, 1) := by decide +kernel
theorem dX8_readNode_45 : decode cX8_readNode 45 = .ok (.getfield 25, 3) := by decide +kernel
theorem dX8_readNode_48 : decode cX8_readNode 48 = .ok (.iload_n 3, 1) := by decide +kernel
theorem dX8_readNode_49 : decode cX8_readNode 49 = .ok (.lload_n 1, 1) := by decide +kernel
theorem dX8_readNode_50 : decode cX8_readNode 50 = .ok (.ldc2_w 156, 3) := by decide +kernel
theorem dX8_readNode_53 : decode cX8_readNode 53 = .ok (.lcmp, 1) := by decide +kernel
theorem dX8_readNode_54 : decode cX8_readNode 54 = .ok (.ifCond .ne 8, 3) := by decide +kernel
theorem dX8_readNode_57 : decode cX8_readNode 57 = .ok (.ldc 114, 2) := by decide +kernel
theorem dX8_readNode_59 : decode cX8_readNode 59 = .ok (.goto 4, 3) := by decide +kernel
theorem dX8_readNode_62 : decode cX8_readNode 62 = .ok (.iconst 0, 1) := by decide +kernel
theorem dX8_readNode_63 : decode cX8_readNode 63 = .ok (.iastore, 1) := by decide +kernel
theorem dX8_readNode_64 : decode cX8_readNode 64 = .ok (.aload_n 0, 1) := by decide +kernel
theorem dX8_readNode_65 : decode cX8_readNode 65 = .ok (.getfield 28, 3) := by decide +kernel
theorem dX8_readNode_68 : decode cX8_readNode 68 = .ok (.iload_n 3, 1) := by decide +kernel
theorem dX8_readNode_69 : decode cX8_readNode 69 = .ok (.lload_n 1, 1) := by decide +kernel
theorem dX8_readNode_70 : decode cX8_readNode 70 = .ok (.ldc2_w 156, 3) := by decide +kernel
theorem dX8_readNode_73 : decode cX8_readNode 73 = .ok (.lcmp, 1) := by decide +kernel
theorem dX8_readNode_74 : decode cX8_readNode 74 = .ok (.ifCond .ne 8, 3) := by decide +kernel
theorem dX8_readNode_77 : decode cX8_readNode 77 = .ok (.ldc 114, 2) := by decide +kernel
theorem dX8_readNode_79 : decode cX8_readNode 79 = .ok (.goto 6, 3) := by decide +kernel
theorem dX8_readNode_82 : decode cX8_readNode 82 = .ok (.sipush 9999, 3) := by decide +kernel
theorem dX8_readNode_85 : decode cX8_readNode 85 = .ok (.iastore, 1) := by decide +kernel
theorem dX8_readNode_86 : decode cX8_readNode 86 = .ok (.aload_n 0, 1) := by decide +kernel
theorem dX8_readNode_87 : decode cX8_readNode 87 = .ok (.getfield 31, 3) := by decide +kernel
theorem dX8_readNode_90 : decode cX8_readNode 90 = .ok (.iload_n 3, 1) := by decide +kernel
theorem dX8_readNode_91 : decode cX8_readNode 91 = .ok (.iconst 0, 1) := by decide +kernel
theorem dX8_readNode_92 : decode cX8_readNode 92 = .ok (.bastore, 1) := by decide +kernel
theorem dX8_readNode_93 : decode cX8_readNode 93 = .ok (.lload_n 1, 1) := by decide +kernel
theorem dX8_readNode_94 : decode cX8_readNode 94 = .ok (.ldc2_w 156, 3) := by decide +kernel
theorem dX8_readNode_97 : decode cX8_readNode 97 = .ok (.lcmp, 1) := by decide +kernel
theorem dX8_readNode_98 : decode cX8_readNode 98 = .ok (.ifCond .eq 54, 3) := by decide +kernel
theorem dX8_readNode_101 : decode cX8_readNode 101 = .ok (.aload_n 0, 1) := by decide +kernel
theorem dX8_readNode_102 : decode cX8_readNode 102 = .ok (.getfield 22, 3) := by decide +kernel
theorem dX8_readNode_105 : decode cX8_readNode 105 = .ok (.iload_n 3, 1) := by decide +kernel
theorem dX8_readNode_106 : decode cX8_readNode 106 = .ok (.aload_n 0, 1) := by decide +kernel
theorem dX8_readNode_107 : decode cX8_readNode 107 = .ok (.invokevirtual 158, 3) := by decide +kernel
theorem dX8_readNode_110 : decode cX8_readNode 110 = .ok (.iastore, 1) := by decide +kernel
theorem dX8_readNode_111 : decode cX8_readNode 111 = .ok (.aload_n 0, 1) := by decide +kernel
theorem dX8_readNode_112 : decode cX8_readNode 112 = .ok (.getfield 124, 3) := by decide +kernel
theorem dX8_readNode_115 : decode cX8_readNode 115 = .ok (.iconst 3, 1) := by decide +kernel
theorem dX8_readNode_116 : decode cX8_readNode 116 = .ok (.if_icmp .ne 19, 3) := by decide +kernel
theorem dX8_readNode_119 : decode cX8_readNode 119 = .ok (.aload_n 0, 1) := by decide +kernel
theorem dX8_readNode_120 : decode cX8_readNode 120 = .ok (.getfield 22, 3) := by decide +kernel
theorem dX8_readNode_123 : decode cX8_readNode 123 = .ok (.iload_n 3, 1) := by decide +kernel
theorem dX8_readNode_124 : decode cX8_readNode 124 = .ok (.iaload, 1) := by decide +kernel
theorem dX8_readNode_125 : decode cX8_readNode 125 = .ok (.bipush 9, 2) := by decide +kernel
theorem dX8_readNode_127 : decode cX8_readNode 127 = .ok (.if_icmp .le 8, 3) := by decide +kernel
theorem dX8_readNode_130 : decode cX8_readNode 130 = .ok (.aload_n 0, 1) := by decide +kernel
theorem dX8_readNode_131 : decode cX8_readNode 131 = .ok (.iconst 2, 1) := by decide +kernel
theorem dX8_readNode_132 : decode cX8_readNode 132 = .ok (.invokevirtual 142, 3) := by decide +kernel
theorem dX8_readNode_135 : decode cX8_readNode 135 = .ok (.aload_n 0, 1) := by decide +kernel
theorem dX8_readNode_136 : decode cX8_readNode 136 = .ok (.aload_n 0, 1) := by decide +kernel
theorem dX8_readNode_137 : decode cX8_readNode 137 = .ok (.getfield 124, 3) := by decide +kernel
theorem dX8_readNode_140 : decode cX8_readNode 140 = .ok (.iconst 3, 1) := by decide +kernel
theorem dX8_readNode_141 : decode cX8_readNode 141 = .ok (.if_icmp .ne 7, 3) := by decide +kernel
theorem dX8_readNode_144 : decode cX8_readNode 144 = .ok (.iconst 1, 1) := by decide +kernel
theorem dX8_readNode_145 : decode cX8_readNode 145 = .ok (.goto 4, 3) := by decide +kernel
theorem dX8_readNode_148 : decode cX8_readNode 148 = .ok (.iconst 0, 1) := by decide +kernel
theorem dX8_readNode_149 : decode cX8_readNode 149 = .ok (.invokevirtual 162, 3) := by decide +kernel
theorem dX8_readNode_152 : decode cX8_readNode 152 = .ok (.aload_n 0, 1) := by decide +kernel
theorem dX8_readNode_153 : decode cX8_readNode 153 = .ok (.dup, 1) := by decide +kernel
theorem dX8_readNode_154 : decode cX8_readNode 154 = .ok (.getfield 149, 3) := by decide +kernel
theorem dX8_readNode_157 : decode cX8_readNode 157 = .ok (.iconst 1, 1) := by decide +kernel
theorem dX8_readNode_158 : decode cX8_readNode 158 = .ok (.iadd, 1) := by decide +kernel
theorem dX8_readNode_159 : decode cX8_readNode 159 = .ok (.putfield 149, 3) := by decide +kernel
theorem dX8_readNode_162 : decode cX8_readNode 162 = .ok (.return_, 1) := by decide +kernel
theorem dX8_isPart_0 : decode cX8_isPart 0 = .ok (.iconst 0, 1) := by decide +kernel
theorem dX8_isPart_1 : decode cX8_isPart 1 = .ok (.istore_n 3, 1) := by decide +kernel
theorem dX8_isPart_2 : decode cX8_isPart 2 = .ok (.iconst 0, 1) := by decide +kernel
theorem dX8_isPart_3 : decode cX8_isPart 3 = .ok (.istore 4, 2) := by decide +kernel
theorem dX8_isPart_5 : decode cX8_isPart 5 = .ok (.iload 4, 2) := by decide +kernel
theorem dX8_isPart_7 : decode cX8_isPart 7 = .ok (.aload_n 0, 1) := by decide +kernel
theorem dX8_isPart_8 : decode cX8_isPart 8 = .ok (.getfield 41, 3) := by decide +kernel
theorem dX8_isPart_11 : decode cX8_isPart 11 = .ok (.iload_n 1, 1) := by decide +kernel
theorem dX8_isPart_12 : decode cX8_isPart 12 = .ok (.iaload, 1) := by decide +kernel
theorem dX8_isPart_13 : decode cX8_isPart 13 = .ok (.if_icmp .ge 35, 3) := by decide +kernel
theorem dX8_isPart_16 : decode cX8_isPart 16 = .ok (.iload_n 3, 1) := by decide +kernel
theorem dX8_isPart_17 : decode cX8_isPart 17 = .ok (.ifCond .ne 19, 3) := by decide +kernel
theorem dX8_isPart_20 : decode cX8_isPart 20 = .ok (.aload_n 0, 1) := by decide +kernel
theorem dX8_isPart_21 : decode cX8_isPart 21 = .ok (.getfield 44, 3) := by decide +kernel
theorem dX8_isPart_24 : decode cX8_isPart 24 = .ok (.bipush 6, 2) := by decide +kernel
theorem dX8_isPart_26 : decode cX8_isPart 26 = .ok (.iload_n 1, 1) := by decide +kernel
theorem dX8_isPart_27 : decode cX8_isPart 27 = .ok (.imul, 1) := by decide +kernel
theorem dX8_isPart_28 : decode cX8_isPart 28 = .ok (.iload 4, 2) := by decide +kernel
theorem dX8_isPart_30 : decode cX8_isPart 30 = .ok (.iadd, 1) := by decide +kernel
theorem dX8_isPart_31 : decode cX8_isPart 31 = .ok (.iaload, 1) := by decide +kernel
theorem dX8_isPart_32 : decode cX8_isPart 32 = .ok (.iload_n 2, 1) := by decide +kernel
theorem dX8_isPart_33 : decode cX8_isPart 33 = .ok (.if_icmp .ne 7, 3) := by decide +kernel
theorem dX8_isPart_36 : decode cX8_isPart 36 = .ok (.iconst 1, 1) := by decide +kernel
theorem dX8_isPart_37 : decode cX8_isPart 37 = .ok (.goto 4, 3) := by decide +kernel
theorem dX8_isPart_40 : decode cX8_isPart 40 = .ok (.iconst 0, 1) := by decide +kernel
theorem dX8_isPart_41 : decode cX8_isPart 41 = .ok (.istore_n 3, 1) := by decide +kernel
theorem dX8_isPart_42 : decode cX8_isPart 42 = .ok (.iinc 4 1, 3) := by decide +kernel
theorem dX8_isPart_45 : decode cX8_isPart 45 = .ok (.goto (-40), 3) := by decide +kernel
theorem dX8_isPart_48 : decode cX8_isPart 48 = .ok (.iload_n 3, 1) := by decide +kernel
theorem dX8_isPart_49 : decode cX8_isPart 49 = .ok (.ireturn, 1) := by decide +kernel
theorem dX8_readStep_0 : decode cX8_readStep 0 = .ok (.aload_n 0, 1) := by decide +kernel
theorem dX8_readStep_1 : decode cX8_readStep 1 = .ok (.getfield 166, 3) := by decide +kernel
theorem dX8_readStep_4 : decode cX8_readStep 4 = .ok (.istore_n 1, 1) := by decide +kernel
theorem dX8_readStep_5 : decode cX8_readStep 5 = .ok (.aload_n 0, 1) := by decide +kernel
theorem dX8_readStep_6 : decode cX8_readStep 6 = .ok (.invokevirtual 169, 3) := by decide +kernel
theorem dX8_readStep_9 : decode cX8_readStep 9 = .ok (.lstore_n 2, 1) := by decide +kernel
theorem dX8_readStep_10 : decode cX8_readStep 10 = .ok (.aload_n 0, 1) := by decide +kernel
theorem dX8_readStep_11 : decode cX8_readStep 11 = .ok (.getfield 35, 3) := by decide +kernel
theorem dX8_readStep_14 : decode cX8_readStep 14 = .ok (.iload_n 1, 1) := by decide +kernel
theorem dX8_readStep_15 : decode cX8_readStep 15 = .ok (.lload_n 2, 1) := by decide +kernel
theorem dX8_readStep_16 : decode cX8_readStep 16 = .ok (.ldc2_w 173, 3) := by decide +kernel
theorem dX8_readStep_19 : decode cX8_readStep 19 = .ok (.lcmp, 1) := by decide +kernel
theorem dX8_readStep_20 : decode cX8_readStep 20 = .ok (.ifCond .ne 7, 3) := by decide +kernel
theorem dX8_readStep_23 : decode cX8_readStep 23 = .ok (.iconst 0, 1) := by decide +kernel
theorem dX8_readStep_24 : decode cX8_readStep 24 = .ok (.goto 41, 3) := by decide +kernel
theorem dX8_readStep_27 : decode cX8_readStep 27 = .ok (.lload_n 2, 1) := by decide +kernel
theorem dX8_readStep_28 : decode cX8_readStep 28 = .ok (.ldc2_w 175, 3) := by decide +kernel
theorem dX8_readStep_31 : decode cX8_readStep 31 = .ok (.lcmp, 1) := by decide +kernel
theorem dX8_readStep_32 : decode cX8_readStep 32 = .ok (.ifCond .ne 7, 3) := by decide +kernel
theorem dX8_readStep_35 : decode cX8_readStep 35 = .ok (.iconst 1, 1) := by decide +kernel
theorem dX8_readStep_36 : decode cX8_readStep 36 = .ok (.goto 29, 3) := by decide +kernel
theorem dX8_readStep_39 : decode cX8_readStep 39 = .ok (.lload_n 2, 1) := by decide +kernel
theorem dX8_readStep_40 : decode cX8_readStep 40 = .ok (.ldc2_w 177, 3) := by decide +kernel
theorem dX8_readStep_43 : decode cX8_readStep 43 = .ok (.lcmp, 1) := by decide +kernel
theorem dX8_readStep_44 : decode cX8_readStep 44 = .ok (.ifCond .ne 7, 3) := by decide +kernel
theorem dX8_readStep_47 : decode cX8_readStep 47 = .ok (.iconst 2, 1) := by decide +kernel
theorem dX8_readStep_48 : decode cX8_readStep 48 = .ok (.goto 17, 3) := by decide +kernel
theorem dX8_readStep_51 : decode cX8_readStep 51 = .ok (.lload_n 2, 1) := by decide +kernel
theorem dX8_readStep_52 : decode cX8_readStep 52 = .ok (.ldc2_w 179, 3) := by decide +kernel
theorem dX8_readStep_55 : decode cX8_readStep 55 = .ok (.lcmp, 1) := by decide +kernel
theorem dX8_readStep_56 : decode cX8_readStep 56 = .ok (.ifCond .ne 7, 3) := by decide +kernel
theorem dX8_readStep_59 : decode cX8_readStep 59 = .ok (.iconst 3, 1) := by decide +kernel
theorem dX8_readStep_60 : decode cX8_readStep 60 = .ok (.goto 5, 3) := by decide +kernel
theorem dX8_readStep_63 : decode cX8_readStep 63 = .ok (.ldc 114, 2) := by decide +kernel
theorem dX8_readStep_65 : decode cX8_readStep 65 = .ok (.iastore, 1) := by decide +kernel
theorem dX8_readStep_66 : decode cX8_readStep 66 = .ok (.aload_n 0, 1) := by decide +kernel
theorem dX8_readStep_67 : decode cX8_readStep 67 = .ok (.aload_n 0, 1) := by decide +kernel
theorem dX8_readStep_68 : decode cX8_readStep 68 = .ok (.getfield 35, 3) := by decide +kernel
theorem dX8_readStep_71 : decode cX8_readStep 71 = .ok (.iload_n 1, 1) := by decide +kernel
theorem dX8_readStep_72 : decode cX8_readStep 72 = .ok (.iaload, 1) := by decide +kernel
theorem dX8_readStep_73 : decode cX8_readStep 73 = .ok (.ldc 114, 2) := by decide +kernel
theorem dX8_readStep_75 : decode cX8_readStep 75 = .ok (.if_icmp .eq 7, 3) := by decide +kernel
theorem dX8_readStep_78 : decode cX8_readStep 78 = .ok (.iconst 1, 1) := by decide +kernel
theorem dX8_readStep_79 : decode cX8_readStep 79 = .ok (.goto 4, 3) := by decide +kernel
theorem dX8_readStep_82 : decode cX8_readStep 82 = .ok (.iconst 0, 1) := by decide +kernel
theorem dX8_readStep_83 : decode cX8_readStep 83 = .ok (.invokevirtual 162, 3) := by decide +kernel
theorem dX8_readStep_86 : decode cX8_readStep 86 = .ok (.aload_n 0, 1) := by decide +kernel
theorem dX8_readStep_87 : decode cX8_readStep 87 = .ok (.getfield 136, 3) := by decide +kernel
theorem dX8_readStep_90 : decode cX8_readStep 90 = .ok (.ifCond .ne 71, 3) := by decide +kernel
theorem dX8_readStep_93 : decode cX8_readStep 93 = .ok (.aload_n 0, 1) := by decide +kernel
theorem dX8_readStep_94 : decode cX8_readStep 94 = .ok (.getfield 38, 3) := by decide +kernel
theorem dX8_readStep_97 : decode cX8_readStep 97 = .ok (.iload_n 1, 1) := by decide +kernel
theorem dX8_readStep_98 : decode cX8_readStep 98 = .ok (.aload_n 0, 1) := by decide +kernel
theorem dX8_readStep_99 : decode cX8_readStep 99 = .ok (.invokevirtual 158, 3) := by decide +kernel
theorem dX8_readStep_102 : decode cX8_readStep 102 = .ok (.iastore, 1) := by decide +kernel
theorem dX8_readStep_103 : decode cX8_readStep 103 = .ok (.aload_n 0, 1) := by decide +kernel
theorem dX8_readStep_104 : decode cX8_readStep 104 = .ok (.getfield 124, 3) := by decide +kernel
theorem dX8_readStep_107 : decode cX8_readStep 107 = .ok (.iconst 3, 1) := by decide +kernel
theorem dX8_readStep_108 : decode cX8_readStep 108 = .ok (.if_icmp .ne 36, 3) := by decide +kernel
theorem dX8_readStep_111 : decode cX8_readStep 111 = .ok (.aload_n 0, 1) := by decide +kernel
theorem dX8_readStep_112 : decode cX8_readStep 112 = .ok (.getfield 38, 3) := by decide +kernel
theorem dX8_readStep_115 : decode cX8_readStep 115 = .ok (.iload_n 1, 1) := by decide +kernel
theorem dX8_readStep_116 : decode cX8_readStep 116 = .ok (.iaload, 1) := by decide +kernel
theorem dX8_readStep_117 : decode cX8_readStep 117 = .ok (.aload_n 0, 1) := by decide +kernel
theorem dX8_readStep_118 : decode cX8_readStep 118 = .ok (.getfield 149, 3) := by decide +kernel
theorem dX8_readStep_121 : decode cX8_readStep 121 = .ok (.if_icmp .ge 18, 3) := by decide +kernel
theorem dX8_readStep_124 : decode cX8_readStep 124 = .ok (.aload_n 0, 1) := by decide +kernel
theorem dX8_readStep_125 : decode cX8_readStep 125 = .ok (.getfield 19, 3) := by decide +kernel
theorem dX8_readStep_128 : decode cX8_readStep 128 = .ok (.aload_n 0, 1) := by decide +kernel
theorem dX8_readStep_129 : decode cX8_readStep 129 = .ok (.getfield 38, 3) := by decide +kernel
theorem dX8_readStep_132 : decode cX8_readStep 132 = .ok (.iload_n 1, 1) := by decide +kernel
theorem dX8_readStep_133 : decode cX8_readStep 133 = .ok (.iaload, 1) := by decide +kernel
theorem dX8_readStep_134 : decode cX8_readStep 134 = .ok (.iaload, 1) := by decide +kernel
theorem dX8_readStep_135 : decode cX8_readStep 135 = .ok (.iconst 2, 1) := by decide +kernel
theorem dX8_readStep_136 : decode cX8_readStep 136 = .ok (.if_icmp .eq 8, 3) := by decide +kernel
theorem dX8_readStep_139 : decode cX8_readStep 139 = .ok (.aload_n 0, 1) := by decide +kernel
theorem dX8_readStep_140 : decode cX8_readStep 140 = .ok (.iconst 2, 1) := by decide +kernel
theorem dX8_readStep_141 : decode cX8_readStep 141 = .ok (.invokevirtual 142, 3) := by decide +kernel
theorem dX8_readStep_144 : decode cX8_readStep 144 = .ok (.aload_n 0, 1) := by decide +kernel
theorem dX8_readStep_145 : decode cX8_readStep 145 = .ok (.aload_n 0, 1) := by decide +kernel
theorem dX8_readStep_146 : decode cX8_readStep 146 = .ok (.getfield 124, 3) := by decide +kernel
theorem dX8_readStep_149 : decode cX8_readStep 149 = .ok (.iconst 3, 1) := by decide +kernel
theorem dX8_readStep_150 : decode cX8_readStep 150 = .ok (.if_icmp .ne 7, 3) := by decide +kernel
theorem dX8_readStep_153 : decode cX8_readStep 153 = .ok (.iconst 1, 1) := by decide +kernel
theorem dX8_readStep_154 : decode cX8_readStep 154 = .ok (.goto 4, 3) := by decide +kernel
theorem dX8_readStep_157 : decode cX8_readStep 157 = .ok (.iconst 0, 1) := by decide +kernel
theorem dX8_readStep_158 : decode cX8_readStep 158 = .ok (.invokevirtual 162, 3) := by decide +kernel
theorem dX8_readStep_161 : decode cX8_readStep 161 = .ok (.aload_n 0, 1) := by decide +kernel
theorem dX8_readStep_162 : decode cX8_readStep 162 = .ok (.getfield 41, 3) := by decide +kernel
theorem dX8_readStep_165 : decode cX8_readStep 165 = .ok (.iload_n 1, 1) := by decide +kernel
theorem dX8_readStep_166 : decode cX8_readStep 166 = .ok (.iconst 0, 1) := by decide +kernel
theorem dX8_readStep_167 : decode cX8_readStep 167 = .ok (.iastore, 1) := by decide +kernel
theorem dX8_readStep_168 : decode cX8_readStep 168 = .ok (.aload_n 0, 1) := by decide +kernel
theorem dX8_readStep_169 : decode cX8_readStep 169 = .ok (.getfield 136, 3) := by decide +kernel
theorem dX8_readStep_172 : decode cX8_readStep 172 = .ok (.ifCond .ne 7, 3) := by decide +kernel
theorem dX8_readStep_175 : decode cX8_readStep 175 = .ok (.iconst 1, 1) := by decide +kernel
theorem dX8_readStep_176 : decode cX8_readStep 176 = .ok (.goto 4, 3) := by decide +kernel
theorem dX8_readStep_179 : decode cX8_readStep 179 = .ok (.iconst 0, 1) := by decide +kernel
theorem dX8_readStep_180 : decode cX8_readStep 180 = .ok (.istore 4, 2) := by decide +kernel
theorem dX8_readStep_182 : decode cX8_readStep 182 = .ok (.iload 4, 2) := by decide +kernel
theorem dX8_readStep_184 : decode cX8_readStep 184 = .ok (.ifCond .eq 142, 3) := by decide +kernel
theorem dX8_readStep_187 : decode cX8_readStep 187 = .ok (.aload_n 0, 1) := by decide +kernel
theorem dX8_readStep_188 : decode cX8_readStep 188 = .ok (.invokevirtual 158, 3) := by decide +kernel
theorem dX8_readStep_191 : decode cX8_readStep 191 = .ok (.istore 5, 2) := by decide +kernel
theorem dX8_readStep_193 : decode cX8_readStep 193 = .ok (.aload_n 0, 1) := by decide +kernel
theorem dX8_readStep_194 : decode cX8_readStep 194 = .ok (.getfield 124, 3) := by decide +kernel
theorem dX8_readStep_197 : decode cX8_readStep 197 = .ok (.iconst 3, 1) := by decide +kernel
theorem dX8_readStep_198 : decode cX8_readStep 198 = .ok (.if_icmp .ne 27, 3) := by decide +kernel
theorem dX8_readStep_201 : decode cX8_readStep 201 = .ok (.iload 5, 2) := by decide +kernel
theorem dX8_readStep_203 : decode cX8_readStep 203 = .ok (.aload_n 0, 1) := by decide +kernel
theorem dX8_readStep_204 : decode cX8_readStep 204 = .ok (.getfield 149, 3) := by decide +kernel
theorem dX8_readStep_207 : decode cX8_readStep 207 = .ok (.if_icmp .ge 13, 3) := by decide +kernel
theorem dX8_readStep_210 : decode cX8_readStep 210 = .ok (.aload_n 0, 1) := by decide +kernel
theorem dX8_readStep_211 : decode cX8_readStep 211 = .ok (.iload_n 1, 1) := by decide +kernel
theorem dX8_readStep_212 : decode cX8_readStep 212 = .ok (.iload 5, 2) := by decide +kernel
theorem dX8_readStep_214 : decode cX8_readStep 214 = .ok (.invokevirtual 181, 3) := by decide +kernel
theorem dX8_readStep_217 : decode cX8_readStep 217 = .ok (.ifCond .eq 8, 3) := by decide +kernel
theorem dX8_readStep_220 : decode cX8_readStep 220 = .ok (.aload_n 0, 1) := by decide +kernel
theorem dX8_readStep_221 : decode cX8_readStep 221 = .ok (.iconst 2, 1) := by decide +kernel
theorem dX8_readStep_222 : decode cX8_readStep 222 = .ok (.invokevirtual 142, 3) := by decide +kernel
theorem dX8_readStep_225 : decode cX8_readStep 225 = .ok (.aload_n 0, 1) := by decide +kernel
theorem dX8_readStep_226 : decode cX8_readStep 226 = .ok (.getfield 124, 3) := by decide +kernel
theorem dX8_readStep_229 : decode cX8_readStep 229 = .ok (.iconst 3, 1) := by decide +kernel
theorem dX8_readStep_230 : decode cX8_readStep 230 = .ok (.if_icmp .ne 19, 3) := by decide +kernel
theorem dX8_readStep_233 : decode cX8_readStep 233 = .ok (.aload_n 0, 1) := by decide +kernel
theorem dX8_readStep_234 : decode cX8_readStep 234 = .ok (.getfield 41, 3) := by decide +kernel
theorem dX8_readStep_237 : decode cX8_readStep 237 = .ok (.iload_n 1, 1) := by decide +kernel
theorem dX8_readStep_238 : decode cX8_readStep 238 = .ok (.iaload, 1) := by decide +kernel
theorem dX8_readStep_239 : decode cX8_readStep 239 = .ok (.bipush 6, 2) := by decide +kernel
theorem dX8_readStep_241 : decode cX8_readStep 241 = .ok (.if_icmp .ne 8, 3) := by decide +kernel
theorem dX8_readStep_244 : decode cX8_readStep 244 = .ok (.aload_n 0, 1) := by decide +kernel
theorem dX8_readStep_245 : decode cX8_readStep 245 = .ok (.iconst 3, 1) := by decide +kernel
theorem dX8_readStep_246 : decode cX8_readStep 246 = .ok (.invokevirtual 142, 3) := by decide +kernel
theorem dX8_readStep_249 : decode cX8_readStep 249 = .ok (.aload_n 0, 1) := by decide +kernel
theorem dX8_readStep_250 : decode cX8_readStep 250 = .ok (.aload_n 0, 1) := by decide +kernel
theorem dX8_readStep_251 : decode cX8_readStep 251 = .ok (.getfield 124, 3) := by decide +kernel
theorem dX8_readStep_254 : decode cX8_readStep 254 = .ok (.iconst 3, 1) := by decide +kernel
theorem dX8_readStep_255 : decode cX8_readStep 255 = .ok (.if_icmp .ne 7, 3) := by decide +kernel
theorem dX8_readStep_258 : decode cX8_readStep 258 = .ok (.iconst 1, 1) := by decide +kernel
theorem dX8_readStep_259 : decode cX8_readStep 259 = .ok (.goto 4, 3) := by decide +kernel
theorem dX8_readStep_262 : decode cX8_readStep 262 = .ok (.iconst 0, 1) := by decide +kernel
theorem dX8_readStep_263 : decode cX8_readStep 263 = .ok (.invokevirtual 162, 3) := by decide +kernel
theorem dX8_readStep_266 : decode cX8_readStep 266 = .ok (.aload_n 0, 1) := by decide +kernel
theorem dX8_readStep_267 : decode cX8_readStep 267 = .ok (.getfield 136, 3) := by decide +kernel
theorem dX8_readStep_270 : decode cX8_readStep 270 = .ok (.ifCond .ne 31, 3) := by decide +kernel
theorem dX8_readStep_273 : decode cX8_readStep 273 = .ok (.aload_n 0, 1) := by decide +kernel
theorem dX8_readStep_274 : decode cX8_readStep 274 = .ok (.getfield 44, 3) := by decide +kernel
theorem dX8_readStep_277 : decode cX8_readStep 277 = .ok (.bipush 6, 2) := by decide +kernel
theorem dX8_readStep_279 : decode cX8_readStep 279 = .ok (.iload_n 1, 1) := by decide +kernel
theorem dX8_readStep_280 : decode cX8_readStep 280 = .ok (.imul, 1) := by decide +kernel
theorem dX8_readStep_281 : decode cX8_readStep 281 = .ok (.aload_n 0, 1) := by decide +kernel
theorem dX8_readStep_282 : decode cX8_readStep 282 = .ok (.getfield 41, 3) := by decide +kernel
theorem dX8_readStep_285 : decode cX8_readStep 285 = .ok (.iload_n 1, 1) := by decide +kernel
theorem dX8_readStep_286 : decode cX8_readStep 286 = .ok (.iaload, 1) := by decide +kernel
theorem dX8_readStep_287 : decode cX8_readStep 287 = .ok (.iadd, 1) := by decide +kernel
theorem dX8_readStep_288 : decode cX8_readStep 288 = .ok (.iload 5, 2) := by decide +kernel
theorem dX8_readStep_290 : decode cX8_readStep 290 = .ok (.iastore, 1) := by decide +kernel
theorem dX8_readStep_291 : decode cX8_readStep 291 = .ok (.aload_n 0, 1) := by decide +kernel
theorem dX8_readStep_292 : decode cX8_readStep 292 = .ok (.getfield 41, 3) := by decide +kernel
theorem dX8_readStep_295 : decode cX8_readStep 295 = .ok (.iload_n 1, 1) := by decide +kernel
theorem dX8_readStep_296 : decode cX8_readStep 296 = .ok (.dup2, 1) := by decide +kernel
theorem dX8_readStep_297 : decode cX8_readStep 297 = .ok (.iaload, 1) := by decide +kernel
theorem dX8_readStep_298 : decode cX8_readStep 298 = .ok (.iconst 1, 1) := by decide +kernel
theorem dX8_readStep_299 : decode cX8_readStep 299 = .ok (.iadd, 1) := by decide +kernel
theorem dX8_readStep_300 : decode cX8_readStep 300 = .ok (.iastore, 1) := by decide +kernel
theorem dX8_readStep_301 : decode cX8_readStep 301 = .ok (.aload_n 0, 1) := by decide +kernel
theorem dX8_readStep_302 : decode cX8_readStep 302 = .ok (.getfield 136, 3) := by decide +kernel
theorem dX8_readStep_305 : decode cX8_readStep 305 = .ok (.ifCond .ne 15, 3) := by decide +kernel
theorem dX8_readStep_308 : decode cX8_readStep 308 = .ok (.aload_n 0, 1) := by decide +kernel
theorem dX8_readStep_309 : decode cX8_readStep 309 = .ok (.getfield 124, 3) := by decide +kernel
theorem dX8_readStep_312 : decode cX8_readStep 312 = .ok (.iconst 3, 1) := by decide +kernel
theorem dX8_readStep_313 : decode cX8_readStep 313 = .ok (.if_icmp .ne 7, 3) := by decide +kernel
theorem dX8_readStep_316 : decode cX8_readStep 316 = .ok (.iconst 1, 1) := by decide +kernel
theorem dX8_readStep_317 : decode cX8_readStep 317 = .ok (.goto 4, 3) := by decide +kernel
theorem dX8_readStep_320 : decode cX8_readStep 320 = .ok (.iconst 0, 1) := by decide +kernel
theorem dX8_readStep_321 : decode cX8_readStep 321 = .ok (.istore 4, 2) := by decide +kernel
theorem dX8_readStep_323 : decode cX8_readStep 323 = .ok (.goto (-141), 3) := by decide +kernel
theorem dX8_readStep_326 : decode cX8_readStep 326 = .ok (.iconst 0, 1) := by decide +kernel
theorem dX8_readStep_327 : decode cX8_readStep 327 = .ok (.istore 5, 2) := by decide +kernel
theorem dX8_readStep_329 : decode cX8_readStep 329 = .ok (.iload 5, 2) := by decide +kernel
theorem dX8_readStep_331 : decode cX8_readStep 331 = .ok (.iconst 3, 1) := by decide +kernel
theorem dX8_readStep_332 : decode cX8_readStep 332 = .ok (.if_icmp .ge 21, 3) := by decide +kernel
theorem dX8_readStep_335 : decode cX8_readStep 335 = .ok (.aload_n 0, 1) := by decide +kernel
theorem dX8_readStep_336 : decode cX8_readStep 336 = .ok (.getfield 47, 3) := by decide +kernel
theorem dX8_readStep_339 : decode cX8_readStep 339 = .ok (.iconst 3, 1) := by decide +kernel
theorem dX8_readStep_340 : decode cX8_readStep 340 = .ok (.iload_n 1, 1) := by decide +kernel
theorem dX8_readStep_341 : decode cX8_readStep 341 = .ok (.imul, 1) := by decide +kernel
theorem dX8_readStep_342 : decode cX8_readStep 342 = .ok (.iload 5, 2) := by decide +kernel
theorem dX8_readStep_344 : decode cX8_readStep 344 = .ok (.iadd, 1) := by decide +kernel
theorem dX8_readStep_345 : decode cX8_readStep 345 = .ok (.iconst 0, 1) := by decide +kernel
theorem dX8_readStep_346 : decode cX8_readStep 346 = .ok (.iastore, 1) := by decide +kernel
theorem dX8_readStep_347 : decode cX8_readStep 347 = .ok (.iinc 5 1, 3) := by decide +kernel
theorem dX8_readStep_350 : decode cX8_readStep 350 = .ok (.goto (-21), 3) := by decide +kernel
theorem dX8_readStep_353 : decode cX8_readStep 353 = .ok (.aload_n 0, 1) := by decide +kernel
theorem dX8_readStep_354 : decode cX8_readStep 354 = .ok (.dup, 1) := by decide +kernel
theorem dX8_readStep_355 : decode cX8_readStep 355 = .ok (.getfield 166, 3) := by decide +kernel
theorem dX8_readStep_358 : decode cX8_readStep 358 = .ok (.iconst 1, 1) := by decide +kernel
theorem dX8_readStep_359 : decode cX8_readStep 359 = .ok (.iadd, 1) := by decide +kernel
theorem dX8_readStep_360 : decode cX8_readStep 360 = .ok (.putfield 166, 3) := by decide +kernel
theorem dX8_readStep_363 : decode cX8_readStep 363 = .ok (.return_, 1) := by decide +kernel
theorem dX8_net_0 : decode cX8_net 0 = .ok (.aload_n 0, 1) := by decide +kernel
theorem dX8_net_1 : decode cX8_net 1 = .ok (.iconst 0, 1) := by decide +kernel
theorem dX8_net_2 : decode cX8_net 2 = .ok (.putfield 78, 3) := by decide +kernel
theorem dX8_net_5 : decode cX8_net 5 = .ok (.aload_n 0, 1) := by decide +kernel
theorem dX8_net_6 : decode cX8_net 6 = .ok (.aload_n 0, 1) := by decide +kernel
theorem dX8_net_7 : decode cX8_net 7 = .ok (.getfield 105, 3) := by decide +kernel
theorem dX8_net_10 : decode cX8_net 10 = .ok (.putfield 111, 3) := by decide +kernel
theorem dX8_net_13 : decode cX8_net 13 = .ok (.aload_n 0, 1) := by decide +kernel
theorem dX8_net_14 : decode cX8_net 14 = .ok (.iconst 0, 1) := by decide +kernel
theorem dX8_net_15 : decode cX8_net 15 = .ok (.putfield 105, 3) := by decide +kernel
theorem dX8_net_18 : decode cX8_net 18 = .ok (.aload_n 0, 1) := by decide +kernel
theorem dX8_net_19 : decode cX8_net 19 = .ok (.iconst 0, 1) := by decide +kernel
theorem dX8_net_20 : decode cX8_net 20 = .ok (.putfield 115, 3) := by decide +kernel
theorem dX8_net_23 : decode cX8_net 23 = .ok (.aload_n 0, 1) := by decide +kernel
theorem dX8_net_24 : decode cX8_net 24 = .ok (.iconst 0, 1) := by decide +kernel
theorem dX8_net_25 : decode cX8_net 25 = .ok (.putfield 136, 3) := by decide +kernel
theorem dX8_net_28 : decode cX8_net 28 = .ok (.aload_n 0, 1) := by decide +kernel
theorem dX8_net_29 : decode cX8_net 29 = .ok (.aload_n 0, 1) := by decide +kernel
theorem dX8_net_30 : decode cX8_net 30 = .ok (.getfield 185, 3) := by decide +kernel
theorem dX8_net_33 : decode cX8_net 33 = .ok (.putfield 149, 3) := by decide +kernel
theorem dX8_net_36 : decode cX8_net 36 = .ok (.aload_n 0, 1) := by decide +kernel
theorem dX8_net_37 : decode cX8_net 37 = .ok (.aload_n 0, 1) := by decide +kernel
theorem dX8_net_38 : decode cX8_net 38 = .ok (.getfield 188, 3) := by decide +kernel
theorem dX8_net_41 : decode cX8_net 41 = .ok (.putfield 166, 3) := by decide +kernel
theorem dX8_net_44 : decode cX8_net 44 = .ok (.aload_n 0, 1) := by decide +kernel
theorem dX8_net_45 : decode cX8_net 45 = .ok (.invokevirtual 146, 3) := by decide +kernel
theorem dX8_net_48 : decode cX8_net 48 = .ok (.aload_n 0, 1) := by decide +kernel
theorem dX8_net_49 : decode cX8_net 49 = .ok (.getfield 136, 3) := by decide +kernel
theorem dX8_net_52 : decode cX8_net 52 = .ok (.ifCond .ne 159, 3) := by decide +kernel
theorem dX8_net_55 : decode cX8_net 55 = .ok (.aload_n 0, 1) := by decide +kernel
theorem dX8_net_56 : decode cX8_net 56 = .ok (.getfield 124, 3) := by decide +kernel
theorem dX8_net_59 : decode cX8_net 59 = .ok (.iconst 1, 1) := by decide +kernel
theorem dX8_net_60 : decode cX8_net 60 = .ok (.if_icmp .eq 151, 3) := by decide +kernel
theorem dX8_net_63 : decode cX8_net 63 = .ok (.aload_n 0, 1) := by decide +kernel
theorem dX8_net_64 : decode cX8_net 64 = .ok (.invokevirtual 169, 3) := by decide +kernel
theorem dX8_net_67 : decode cX8_net 67 = .ok (.lstore_n 1, 1) := by decide +kernel
theorem dX8_net_68 : decode cX8_net 68 = .ok (.lload_n 1, 1) := by decide +kernel
theorem dX8_net_69 : decode cX8_net 69 = .ok (.ldc2_w 152, 3) := by decide +kernel
theorem dX8_net_72 : decode cX8_net 72 = .ok (.lcmp, 1) := by decide +kernel
theorem dX8_net_73 : decode cX8_net 73 = .ok (.ifCond .eq 19, 3) := by decide +kernel
theorem dX8_net_76 : decode cX8_net 76 = .ok (.lload_n 1, 1) := by decide +kernel
theorem dX8_net_77 : decode cX8_net 77 = .ok (.ldc2_w 154, 3) := by decide +kernel
theorem dX8_net_80 : decode cX8_net 80 = .ok (.lcmp, 1) := by decide +kernel
theorem dX8_net_81 : decode cX8_net 81 = .ok (.ifCond .eq 11, 3) := by decide +kernel
theorem dX8_net_84 : decode cX8_net 84 = .ok (.lload_n 1, 1) := by decide +kernel
theorem dX8_net_85 : decode cX8_net 85 = .ok (.ldc2_w 156, 3) := by decide +kernel
theorem dX8_net_88 : decode cX8_net 88 = .ok (.lcmp, 1) := by decide +kernel
theorem dX8_net_89 : decode cX8_net 89 = .ok (.ifCond .ne 7, 3) := by decide +kernel
theorem dX8_net_92 : decode cX8_net 92 = .ok (.iconst 1, 1) := by decide +kernel
theorem dX8_net_93 : decode cX8_net 93 = .ok (.goto 4, 3) := by decide +kernel
theorem dX8_net_96 : decode cX8_net 96 = .ok (.iconst 0, 1) := by decide +kernel
theorem dX8_net_97 : decode cX8_net 97 = .ok (.istore_n 3, 1) := by decide +kernel
theorem dX8_net_98 : decode cX8_net 98 = .ok (.iload_n 3, 1) := by decide +kernel
theorem dX8_net_99 : decode cX8_net 99 = .ok (.ifCond .eq 12, 3) := by decide +kernel
theorem dX8_net_102 : decode cX8_net 102 = .ok (.aload_n 0, 1) := by decide +kernel
theorem dX8_net_103 : decode cX8_net 103 = .ok (.getfield 149, 3) := by decide +kernel
theorem dX8_net_106 : decode cX8_net 106 = .ok (.bipush 20, 2) := by decide +kernel
theorem dX8_net_108 : decode cX8_net 108 = .ok (.if_icmp .eq 20, 3) := by decide +kernel
theorem dX8_net_111 : decode cX8_net 111 = .ok (.lload_n 1, 1) := by decide +kernel
theorem dX8_net_112 : decode cX8_net 112 = .ok (.ldc2_w 191, 3) := by decide +kernel
theorem dX8_net_115 : decode cX8_net 115 = .ok (.lcmp, 1) := by decide +kernel
theorem dX8_net_116 : decode cX8_net 116 = .ok (.ifCond .ne 17, 3) := by decide +kernel
theorem dX8_net_119 : decode cX8_net 119 = .ok (.aload_n 0, 1) := by decide +kernel
theorem dX8_net_120 : decode cX8_net 120 = .ok (.getfield 166, 3) := by decide +kernel
theorem dX8_net_123 : decode cX8_net 123 = .ok (.bipush 16, 2) := by decide +kernel
theorem dX8_net_125 : decode cX8_net 125 = .ok (.if_icmp .ne 8, 3) := by decide +kernel
theorem dX8_net_128 : decode cX8_net 128 = .ok (.aload_n 0, 1) := by decide +kernel
theorem dX8_net_129 : decode cX8_net 129 = .ok (.iconst 3, 1) := by decide +kernel
theorem dX8_net_130 : decode cX8_net 130 = .ok (.invokevirtual 142, 3) := by decide +kernel
theorem dX8_net_133 : decode cX8_net 133 = .ok (.aload_n 0, 1) := by decide +kernel
theorem dX8_net_134 : decode cX8_net 134 = .ok (.iload_n 3, 1) := by decide +kernel
theorem dX8_net_135 : decode cX8_net 135 = .ok (.ifCond .ne 11, 3) := by decide +kernel
theorem dX8_net_138 : decode cX8_net 138 = .ok (.lload_n 1, 1) := by decide +kernel
theorem dX8_net_139 : decode cX8_net 139 = .ok (.ldc2_w 191, 3) := by decide +kernel
theorem dX8_net_142 : decode cX8_net 142 = .ok (.lcmp, 1) := by decide +kernel
theorem dX8_net_143 : decode cX8_net 143 = .ok (.ifCond .ne 7, 3) := by decide +kernel
theorem dX8_net_146 : decode cX8_net 146 = .ok (.iconst 1, 1) := by decide +kernel
theorem dX8_net_147 : decode cX8_net 147 = .ok (.goto 4, 3) := by decide +kernel
theorem dX8_net_150 : decode cX8_net 150 = .ok (.iconst 0, 1) := by decide +kernel
theorem dX8_net_151 : decode cX8_net 151 = .ok (.invokevirtual 162, 3) := by decide +kernel
theorem dX8_net_154 : decode cX8_net 154 = .ok (.aload_n 0, 1) := by decide +kernel
theorem dX8_net_155 : decode cX8_net 155 = .ok (.getfield 136, 3) := by decide +kernel
theorem dX8_net_158 : decode cX8_net 158 = .ok (.ifCond .ne 15, 3) := by decide +kernel
theorem dX8_net_161 : decode cX8_net 161 = .ok (.iload_n 3, 1) := by decide +kernel
theorem dX8_net_162 : decode cX8_net 162 = .ok (.ifCond .eq 11, 3) := by decide +kernel
theorem dX8_net_165 : decode cX8_net 165 = .ok (.aload_n 0, 1) := by decide +kernel
theorem dX8_net_166 : decode cX8_net 166 = .ok (.lload_n 1, 1) := by decide +kernel
theorem dX8_net_167 : decode cX8_net 167 = .ok (.invokevirtual 193, 3) := by decide +kernel
theorem dX8_net_170 : decode cX8_net 170 = .ok (.goto 14, 3) := by decide +kernel
theorem dX8_net_173 : decode cX8_net 173 = .ok (.aload_n 0, 1) := by decide +kernel
theorem dX8_net_174 : decode cX8_net 174 = .ok (.getfield 136, 3) := by decide +kernel
theorem dX8_net_177 : decode cX8_net 177 = .ok (.ifCond .ne 7, 3) := by decide +kernel
theorem dX8_net_180 : decode cX8_net 180 = .ok (.aload_n 0, 1) := by decide +kernel
theorem dX8_net_181 : decode cX8_net 181 = .ok (.invokevirtual 197, 3) := by decide +kernel
theorem dX8_net_184 : decode cX8_net 184 = .ok (.aload_n 0, 1) := by decide +kernel
theorem dX8_net_185 : decode cX8_net 185 = .ok (.getfield 136, 3) := by decide +kernel
theorem dX8_net_188 : decode cX8_net 188 = .ok (.ifCond .ne 20, 3) := by decide +kernel
theorem dX8_net_191 : decode cX8_net 191 = .ok (.aload_n 0, 1) := by decide +kernel
theorem dX8_net_192 : decode cX8_net 192 = .ok (.aload_n 0, 1) := by decide +kernel
theorem dX8_net_193 : decode cX8_net 193 = .ok (.getfield 124, 3) := by decide +kernel
theorem dX8_net_196 : decode cX8_net 196 = .ok (.iconst 4, 1) := by decide +kernel
theorem dX8_net_197 : decode cX8_net 197 = .ok (.if_icmp .ne 7, 3) := by decide +kernel
theorem dX8_net_200 : decode cX8_net 200 = .ok (.iconst 1, 1) := by decide +kernel
theorem dX8_net_201 : decode cX8_net 201 = .ok (.goto 4, 3) := by decide +kernel
theorem dX8_net_204 : decode cX8_net 204 = .ok (.iconst 0, 1) := by decide +kernel
theorem dX8_net_205 : decode cX8_net 205 = .ok (.invokevirtual 162, 3) := by decide +kernel
theorem dX8_net_208 : decode cX8_net 208 = .ok (.goto (-160), 3) := by decide +kernel
theorem dX8_net_211 : decode cX8_net 211 = .ok (.aload_n 0, 1) := by decide +kernel
theorem dX8_net_212 : decode cX8_net 212 = .ok (.getfield 136, 3) := by decide +kernel
theorem dX8_net_215 : decode cX8_net 215 = .ok (.ifCond .le 19, 3) := by decide +kernel
theorem dX8_net_218 : decode cX8_net 218 = .ok (.aload_n 0, 1) := by decide +kernel
theorem dX8_net_219 : decode cX8_net 219 = .ok (.aload_n 0, 1) := by decide +kernel
theorem dX8_net_220 : decode cX8_net 220 = .ok (.getfield 136, 3) := by decide +kernel
theorem dX8_net_223 : decode cX8_net 223 = .ok (.putfield 200, 3) := by decide +kernel
theorem dX8_net_226 : decode cX8_net 226 = .ok (.ldc 203, 2) := by decide +kernel
theorem dX8_net_228 : decode cX8_net 228 = .ok (.aload_n 0, 1) := by decide +kernel
theorem dX8_net_229 : decode cX8_net 229 = .ok (.getfield 139, 3) := by decide +kernel
theorem dX8_net_232 : decode cX8_net 232 = .ok (.isub, 1) := by decide +kernel
theorem dX8_net_233 : decode cX8_net 233 = .ok (.ireturn, 1) := by decide +kernel
theorem dX8_net_234 : decode cX8_net 234 = .ok (.aload_n 0, 1) := by decide +kernel
theorem dX8_net_235 : decode cX8_net 235 = .ok (.aload_n 0, 1) := by decide +kernel
theorem dX8_net_236 : decode cX8_net 236 = .ok (.getfield 149, 3) := by decide +kernel
theorem dX8_net_239 : decode cX8_net 239 = .ok (.putfield 185, 3) := by decide +kernel
theorem dX8_net_242 : decode cX8_net 242 = .ok (.aload_n 0, 1) := by decide +kernel
theorem dX8_net_243 : decode cX8_net 243 = .ok (.aload_n 0, 1) := by decide +kernel
theorem dX8_net_244 : decode cX8_net 244 = .ok (.getfield 166, 3) := by decide +kernel
theorem dX8_net_247 : decode cX8_net 247 = .ok (.putfield 188, 3) := by decide +kernel
theorem dX8_net_250 : decode cX8_net 250 = .ok (.aload_n 0, 1) := by decide +kernel
theorem dX8_net_251 : decode cX8_net 251 = .ok (.getfield 185, 3) := by decide +kernel
theorem dX8_net_254 : decode cX8_net 254 = .ok (.ireturn, 1) := by decide +kernel
theorem dX8_fault_0 : decode cX8_fault 0 = .ok (.aload_n 0, 1) := by decide +kernel
theorem dX8_fault_1 : decode cX8_fault 1 = .ok (.iconst 0, 1) := by decide +kernel
theorem dX8_fault_2 : decode cX8_fault 2 = .ok (.putfield 78, 3) := by decide +kernel
theorem dX8_fault_5 : decode cX8_fault 5 = .ok (.aload_n 0, 1) := by decide +kernel
theorem dX8_fault_6 : decode cX8_fault 6 = .ok (.getfield 200, 3) := by decide +kernel
theorem dX8_fault_9 : decode cX8_fault 9 = .ok (.ireturn, 1) := by decide +kernel
theorem dX8_isNode_0 : decode cX8_isNode 0 = .ok (.iload_n 1, 1) := by decide +kernel
theorem dX8_isNode_1 : decode cX8_isNode 1 = .ok (.i2l, 1) := by decide +kernel
theorem dX8_isNode_2 : decode cX8_isNode 2 = .ok (.lconst 0, 1) := by decide +kernel
theorem dX8_isNode_3 : decode cX8_isNode 3 = .ok (.aload_n 0, 1) := by decide +kernel
theorem dX8_isNode_4 : decode cX8_isNode 4 = .ok (.getfield 185, 3) := by decide +kernel
theorem dX8_isNode_7 : decode cX8_isNode 7 = .ok (.iconst 1, 1) := by decide +kernel
theorem dX8_isNode_8 : decode cX8_isNode 8 = .ok (.isub, 1) := by decide +kernel
theorem dX8_isNode_9 : decode cX8_isNode 9 = .ok (.i2l, 1) := by decide +kernel
theorem dX8_isNode_10 : decode cX8_isNode 10 = .ok (.invokestatic 88, 3) := by decide +kernel
theorem dX8_isNode_13 : decode cX8_isNode 13 = .ok (.ireturn, 1) := by decide +kernel
theorem dX8_isClaim_0 : decode cX8_isClaim 0 = .ok (.aload_n 0, 1) := by decide +kernel
theorem dX8_isClaim_1 : decode cX8_isClaim 1 = .ok (.iload_n 1, 1) := by decide +kernel
theorem dX8_isClaim_2 : decode cX8_isClaim 2 = .ok (.invokevirtual 204, 3) := by decide +kernel
theorem dX8_isClaim_5 : decode cX8_isClaim 5 = .ok (.ifCond .eq 17, 3) := by decide +kernel
theorem dX8_isClaim_8 : decode cX8_isClaim 8 = .ok (.aload_n 0, 1) := by decide +kernel
theorem dX8_isClaim_9 : decode cX8_isClaim 9 = .ok (.getfield 19, 3) := by decide +kernel
theorem dX8_isClaim_12 : decode cX8_isClaim 12 = .ok (.iload_n 1, 1) := by decide +kernel
theorem dX8_isClaim_13 : decode cX8_isClaim 13 = .ok (.iaload, 1) := by decide +kernel
theorem dX8_isClaim_14 : decode cX8_isClaim 14 = .ok (.iconst 2, 1) := by decide +kernel
theorem dX8_isClaim_15 : decode cX8_isClaim 15 = .ok (.if_icmp .ne 7, 3) := by decide +kernel
theorem dX8_isClaim_18 : decode cX8_isClaim 18 = .ok (.iconst 1, 1) := by decide +kernel
theorem dX8_isClaim_19 : decode cX8_isClaim 19 = .ok (.goto 4, 3) := by decide +kernel
theorem dX8_isClaim_22 : decode cX8_isClaim 22 = .ok (.iconst 0, 1) := by decide +kernel
theorem dX8_isClaim_23 : decode cX8_isClaim 23 = .ok (.ireturn, 1) := by decide +kernel
theorem dX8_isLeaf_0 : decode cX8_isLeaf 0 = .ok (.aload_n 0, 1) := by decide +kernel
theorem dX8_isLeaf_1 : decode cX8_isLeaf 1 = .ok (.iload_n 1, 1) := by decide +kernel
theorem dX8_isLeaf_2 : decode cX8_isLeaf 2 = .ok (.invokevirtual 204, 3) := by decide +kernel
theorem dX8_isLeaf_5 : decode cX8_isLeaf 5 = .ok (.ifCond .eq 17, 3) := by decide +kernel
theorem dX8_isLeaf_8 : decode cX8_isLeaf 8 = .ok (.aload_n 0, 1) := by decide +kernel
theorem dX8_isLeaf_9 : decode cX8_isLeaf 9 = .ok (.getfield 19, 3) := by decide +kernel
theorem dX8_isLeaf_12 : decode cX8_isLeaf 12 = .ok (.iload_n 1, 1) := by decide +kernel
theorem dX8_isLeaf_13 : decode cX8_isLeaf 13 = .ok (.iaload, 1) := by decide +kernel
theorem dX8_isLeaf_14 : decode cX8_isLeaf 14 = .ok (.iconst 2, 1) := by decide +kernel
theorem dX8_isLeaf_15 : decode cX8_isLeaf 15 = .ok (.if_icmp .ge 7, 3) := by decide +kernel
theorem dX8_isLeaf_18 : decode cX8_isLeaf 18 = .ok (.iconst 1, 1) := by decide +kernel
theorem dX8_isLeaf_19 : decode cX8_isLeaf 19 = .ok (.goto 4, 3) := by decide +kernel
theorem dX8_isLeaf_22 : decode cX8_isLeaf 22 = .ok (.iconst 0, 1) := by decide +kernel
theorem dX8_isLeaf_23 : decode cX8_isLeaf 23 = .ok (.ireturn, 1) := by decide +kernel
theorem dX8_isStep_0 : decode cX8_isStep 0 = .ok (.iload_n 1, 1) := by decide +kernel
theorem dX8_isStep_1 : decode cX8_isStep 1 = .ok (.i2l, 1) := by decide +kernel
theorem dX8_isStep_2 : decode cX8_isStep 2 = .ok (.lconst 0, 1) := by decide +kernel
theorem dX8_isStep_3 : decode cX8_isStep 3 = .ok (.aload_n 0, 1) := by decide +kernel
theorem dX8_isStep_4 : decode cX8_isStep 4 = .ok (.getfield 188, 3) := by decide +kernel
theorem dX8_isStep_7 : decode cX8_isStep 7 = .ok (.iconst 1, 1) := by decide +kernel
theorem dX8_isStep_8 : decode cX8_isStep 8 = .ok (.isub, 1) := by decide +kernel
theorem dX8_isStep_9 : decode cX8_isStep 9 = .ok (.i2l, 1) := by decide +kernel
theorem dX8_isStep_10 : decode cX8_isStep 10 = .ok (.invokestatic 88, 3) := by decide +kernel
theorem dX8_isStep_13 : decode cX8_isStep 13 = .ok (.ireturn, 1) := by decide +kernel
theorem dX8_stands_0 : decode cX8_stands 0 = .ok (.aload_n 0, 1) := by decide +kernel
theorem dX8_stands_1 : decode cX8_stands 1 = .ok (.getfield 31, 3) := by decide +kernel
theorem dX8_stands_4 : decode cX8_stands 4 = .ok (.iload_n 1, 1) := by decide +kernel
theorem dX8_stands_5 : decode cX8_stands 5 = .ok (.baload, 1) := by decide +kernel
theorem dX8_stands_6 : decode cX8_stands 6 = .ok (.ifCond .ne 27, 3) := by decide +kernel
theorem dX8_stands_9 : decode cX8_stands 9 = .ok (.aload_n 0, 1) := by decide +kernel
theorem dX8_stands_10 : decode cX8_stands 10 = .ok (.getfield 207, 3) := by decide +kernel
theorem dX8_stands_13 : decode cX8_stands 13 = .ok (.aload_n 0, 1) := by decide +kernel
theorem dX8_stands_14 : decode cX8_stands 14 = .ok (.getfield 25, 3) := by decide +kernel
theorem dX8_stands_17 : decode cX8_stands 17 = .ok (.iload_n 1, 1) := by decide +kernel
theorem dX8_stands_18 : decode cX8_stands 18 = .ok (.iaload, 1) := by decide +kernel
theorem dX8_stands_19 : decode cX8_stands 19 = .ok (.isub, 1) := by decide +kernel
theorem dX8_stands_20 : decode cX8_stands 20 = .ok (.aload_n 0, 1) := by decide +kernel
theorem dX8_stands_21 : decode cX8_stands 21 = .ok (.getfield 28, 3) := by decide +kernel
theorem dX8_stands_24 : decode cX8_stands 24 = .ok (.iload_n 1, 1) := by decide +kernel
theorem dX8_stands_25 : decode cX8_stands 25 = .ok (.iaload, 1) := by decide +kernel
theorem dX8_stands_26 : decode cX8_stands 26 = .ok (.if_icmp .gt 7, 3) := by decide +kernel
theorem dX8_stands_29 : decode cX8_stands 29 = .ok (.iconst 1, 1) := by decide +kernel
theorem dX8_stands_30 : decode cX8_stands 30 = .ok (.goto 4, 3) := by decide +kernel
theorem dX8_stands_33 : decode cX8_stands 33 = .ok (.iconst 0, 1) := by decide +kernel
theorem dX8_stands_34 : decode cX8_stands 34 = .ok (.ireturn, 1) := by decide +kernel
theorem dX8_standing_0 : decode cX8_standing 0 = .ok (.iconst 0, 1) := by decide +kernel
theorem dX8_standing_1 : decode cX8_standing 1 = .ok (.istore_n 1, 1) := by decide +kernel
theorem dX8_standing_2 : decode cX8_standing 2 = .ok (.iconst 0, 1) := by decide +kernel
theorem dX8_standing_3 : decode cX8_standing 3 = .ok (.istore_n 2, 1) := by decide +kernel
theorem dX8_standing_4 : decode cX8_standing 4 = .ok (.iload_n 2, 1) := by decide +kernel
theorem dX8_standing_5 : decode cX8_standing 5 = .ok (.aload_n 0, 1) := by decide +kernel
theorem dX8_standing_6 : decode cX8_standing 6 = .ok (.getfield 185, 3) := by decide +kernel
theorem dX8_standing_9 : decode cX8_standing 9 = .ok (.if_icmp .ge 37, 3) := by decide +kernel
theorem dX8_standing_12 : decode cX8_standing 12 = .ok (.iload_n 1, 1) := by decide +kernel
theorem dX8_standing_13 : decode cX8_standing 13 = .ok (.aload_n 0, 1) := by decide +kernel
theorem dX8_standing_14 : decode cX8_standing 14 = .ok (.getfield 19, 3) := by decide +kernel
theorem dX8_standing_17 : decode cX8_standing 17 = .ok (.iload_n 2, 1) := by decide +kernel
theorem dX8_standing_18 : decode cX8_standing 18 = .ok (.iaload, 1) := by decide +kernel
theorem dX8_standing_19 : decode cX8_standing 19 = .ok (.iconst 2, 1) := by decide +kernel
theorem dX8_standing_20 : decode cX8_standing 20 = .ok (.if_icmp .ge 17, 3) := by decide +kernel
theorem dX8_standing_23 : decode cX8_standing 23 = .ok (.aload_n 0, 1) := by decide +kernel
theorem dX8_standing_24 : decode cX8_standing 24 = .ok (.iload_n 2, 1) := by decide +kernel
theorem dX8_standing_25 : decode cX8_standing 25 = .ok (.invokevirtual 210, 3) := by decide +kernel
theorem dX8_standing_28 : decode cX8_standing 28 = .ok (.ifCond .eq 9, 3) := by decide +kernel
theorem dX8_standing_31 : decode cX8_standing 31 = .ok (.iconst 1, 1) := by decide +kernel
theorem dX8_standing_32 : decode cX8_standing 32 = .ok (.iload_n 2, 1) := by decide +kernel
theorem dX8_standing_33 : decode cX8_standing 33 = .ok (.ishl, 1) := by decide +kernel
theorem dX8_standing_34 : decode cX8_standing 34 = .ok (.goto 4, 3) := by decide +kernel
theorem dX8_standing_37 : decode cX8_standing 37 = .ok (.iconst 0, 1) := by decide +kernel
theorem dX8_standing_38 : decode cX8_standing 38 = .ok (.ior, 1) := by decide +kernel
theorem dX8_standing_39 : decode cX8_standing 39 = .ok (.istore_n 1, 1) := by decide +kernel
theorem dX8_standing_40 : decode cX8_standing 40 = .ok (.iinc 2 1, 3) := by decide +kernel
theorem dX8_standing_43 : decode cX8_standing 43 = .ok (.goto (-39), 3) := by decide +kernel
theorem dX8_standing_46 : decode cX8_standing 46 = .ok (.iload_n 1, 1) := by decide +kernel
theorem dX8_standing_47 : decode cX8_standing 47 = .ok (.ireturn, 1) := by decide +kernel
theorem dX8_isBorneUp_0 : decode cX8_isBorneUp 0 = .ok (.iconst 0, 1) := by decide +kernel
theorem dX8_isBorneUp_1 : decode cX8_isBorneUp 1 = .ok (.istore_n 3, 1) := by decide +kernel
theorem dX8_isBorneUp_2 : decode cX8_isBorneUp 2 = .ok (.iconst 0, 1) := by decide +kernel
theorem dX8_isBorneUp_3 : decode cX8_isBorneUp 3 = .ok (.istore 4, 2) := by decide +kernel
theorem dX8_isBorneUp_5 : decode cX8_isBorneUp 5 = .ok (.iload 4, 2) := by decide +kernel
theorem dX8_isBorneUp_7 : decode cX8_isBorneUp 7 = .ok (.aload_n 0, 1) := by decide +kernel
theorem dX8_isBorneUp_8 : decode cX8_isBorneUp 8 = .ok (.getfield 41, 3) := by decide +kernel
theorem dX8_isBorneUp_11 : decode cX8_isBorneUp 11 = .ok (.iload_n 1, 1) := by decide +kernel
theorem dX8_isBorneUp_12 : decode cX8_isBorneUp 12 = .ok (.iaload, 1) := by decide +kernel
theorem dX8_isBorneUp_13 : decode cX8_isBorneUp 13 = .ok (.if_icmp .ge 28, 3) := by decide +kernel
theorem dX8_isBorneUp_16 : decode cX8_isBorneUp 16 = .ok (.iload_n 3, 1) := by decide +kernel
theorem dX8_isBorneUp_17 : decode cX8_isBorneUp 17 = .ok (.iload_n 2, 1) := by decide +kernel
theorem dX8_isBorneUp_18 : decode cX8_isBorneUp 18 = .ok (.aload_n 0, 1) := by decide +kernel
theorem dX8_isBorneUp_19 : decode cX8_isBorneUp 19 = .ok (.getfield 44, 3) := by decide +kernel
theorem dX8_isBorneUp_22 : decode cX8_isBorneUp 22 = .ok (.bipush 6, 2) := by decide +kernel
theorem dX8_isBorneUp_24 : decode cX8_isBorneUp 24 = .ok (.iload_n 1, 1) := by decide +kernel
theorem dX8_isBorneUp_25 : decode cX8_isBorneUp 25 = .ok (.imul, 1) := by decide +kernel
theorem dX8_isBorneUp_26 : decode cX8_isBorneUp 26 = .ok (.iload 4, 2) := by decide +kernel
theorem dX8_isBorneUp_28 : decode cX8_isBorneUp 28 = .ok (.iadd, 1) := by decide +kernel
theorem dX8_isBorneUp_29 : decode cX8_isBorneUp 29 = .ok (.iaload, 1) := by decide +kernel
theorem dX8_isBorneUp_30 : decode cX8_isBorneUp 30 = .ok (.ishr, 1) := by decide +kernel
theorem dX8_isBorneUp_31 : decode cX8_isBorneUp 31 = .ok (.iconst 1, 1) := by decide +kernel
theorem dX8_isBorneUp_32 : decode cX8_isBorneUp 32 = .ok (.iand, 1) := by decide +kernel
theorem dX8_isBorneUp_33 : decode cX8_isBorneUp 33 = .ok (.iadd, 1) := by decide +kernel
theorem dX8_isBorneUp_34 : decode cX8_isBorneUp 34 = .ok (.istore_n 3, 1) := by decide +kernel
theorem dX8_isBorneUp_35 : decode cX8_isBorneUp 35 = .ok (.iinc 4 1, 3) := by decide +kernel
theorem dX8_isBorneUp_38 : decode cX8_isBorneUp 38 = .ok (.goto (-33), 3) := by decide +kernel
theorem dX8_isBorneUp_41 : decode cX8_isBorneUp 41 = .ok (.aload_n 0, 1) := by decide +kernel
theorem dX8_isBorneUp_42 : decode cX8_isBorneUp 42 = .ok (.getfield 35, 3) := by decide +kernel
theorem dX8_isBorneUp_45 : decode cX8_isBorneUp 45 = .ok (.iload_n 1, 1) := by decide +kernel
theorem dX8_isBorneUp_46 : decode cX8_isBorneUp 46 = .ok (.iaload, 1) := by decide +kernel
theorem dX8_isBorneUp_47 : decode cX8_isBorneUp 47 = .ok (.ifCond .ne 21, 3) := by decide +kernel
theorem dX8_isBorneUp_50 : decode cX8_isBorneUp 50 = .ok (.iload_n 3, 1) := by decide +kernel
theorem dX8_isBorneUp_51 : decode cX8_isBorneUp 51 = .ok (.aload_n 0, 1) := by decide +kernel
theorem dX8_isBorneUp_52 : decode cX8_isBorneUp 52 = .ok (.getfield 41, 3) := by decide +kernel
theorem dX8_isBorneUp_55 : decode cX8_isBorneUp 55 = .ok (.iload_n 1, 1) := by decide +kernel
theorem dX8_isBorneUp_56 : decode cX8_isBorneUp 56 = .ok (.iaload, 1) := by decide +kernel
theorem dX8_isBorneUp_57 : decode cX8_isBorneUp 57 = .ok (.if_icmp .ne 7, 3) := by decide +kernel
theorem dX8_isBorneUp_60 : decode cX8_isBorneUp 60 = .ok (.iconst 1, 1) := by decide +kernel
theorem dX8_isBorneUp_61 : decode cX8_isBorneUp 61 = .ok (.goto 81, 3) := by decide +kernel
theorem dX8_isBorneUp_64 : decode cX8_isBorneUp 64 = .ok (.iconst 0, 1) := by decide +kernel
theorem dX8_isBorneUp_65 : decode cX8_isBorneUp 65 = .ok (.goto 77, 3) := by decide +kernel
theorem dX8_isBorneUp_68 : decode cX8_isBorneUp 68 = .ok (.aload_n 0, 1) := by decide +kernel
theorem dX8_isBorneUp_69 : decode cX8_isBorneUp 69 = .ok (.getfield 35, 3) := by decide +kernel
theorem dX8_isBorneUp_72 : decode cX8_isBorneUp 72 = .ok (.iload_n 1, 1) := by decide +kernel
theorem dX8_isBorneUp_73 : decode cX8_isBorneUp 73 = .ok (.iaload, 1) := by decide +kernel
theorem dX8_isBorneUp_74 : decode cX8_isBorneUp 74 = .ok (.iconst 1, 1) := by decide +kernel
theorem dX8_isBorneUp_75 : decode cX8_isBorneUp 75 = .ok (.if_icmp .ne 15, 3) := by decide +kernel
theorem dX8_isBorneUp_78 : decode cX8_isBorneUp 78 = .ok (.iload_n 3, 1) := by decide +kernel
theorem dX8_isBorneUp_79 : decode cX8_isBorneUp 79 = .ok (.ifCond .le 7, 3) := by decide +kernel
theorem dX8_isBorneUp_82 : decode cX8_isBorneUp 82 = .ok (.iconst 1, 1) := by decide +kernel
theorem dX8_isBorneUp_83 : decode cX8_isBorneUp 83 = .ok (.goto 59, 3) := by decide +kernel
theorem dX8_isBorneUp_86 : decode cX8_isBorneUp 86 = .ok (.iconst 0, 1) := by decide +kernel
theorem dX8_isBorneUp_87 : decode cX8_isBorneUp 87 = .ok (.goto 55, 3) := by decide +kernel
theorem dX8_isBorneUp_90 : decode cX8_isBorneUp 90 = .ok (.aload_n 0, 1) := by decide +kernel
theorem dX8_isBorneUp_91 : decode cX8_isBorneUp 91 = .ok (.getfield 35, 3) := by decide +kernel
theorem dX8_isBorneUp_94 : decode cX8_isBorneUp 94 = .ok (.iload_n 1, 1) := by decide +kernel
theorem dX8_isBorneUp_95 : decode cX8_isBorneUp 95 = .ok (.iaload, 1) := by decide +kernel
theorem dX8_isBorneUp_96 : decode cX8_isBorneUp 96 = .ok (.iconst 2, 1) := by decide +kernel
theorem dX8_isBorneUp_97 : decode cX8_isBorneUp 97 = .ok (.if_icmp .ne 23, 3) := by decide +kernel
theorem dX8_isBorneUp_100 : decode cX8_isBorneUp 100 = .ok (.iconst 2, 1) := by decide +kernel
theorem dX8_isBorneUp_101 : decode cX8_isBorneUp 101 = .ok (.iload_n 3, 1) := by decide +kernel
theorem dX8_isBorneUp_102 : decode cX8_isBorneUp 102 = .ok (.imul, 1) := by decide +kernel
theorem dX8_isBorneUp_103 : decode cX8_isBorneUp 103 = .ok (.aload_n 0, 1) := by decide +kernel
theorem dX8_isBorneUp_104 : decode cX8_isBorneUp 104 = .ok (.getfield 41, 3) := by decide +kernel
theorem dX8_isBorneUp_107 : decode cX8_isBorneUp 107 = .ok (.iload_n 1, 1) := by decide +kernel
theorem dX8_isBorneUp_108 : decode cX8_isBorneUp 108 = .ok (.iaload, 1) := by decide +kernel
theorem dX8_isBorneUp_109 : decode cX8_isBorneUp 109 = .ok (.if_icmp .le 7, 3) := by decide +kernel
theorem dX8_isBorneUp_112 : decode cX8_isBorneUp 112 = .ok (.iconst 1, 1) := by decide +kernel
theorem dX8_isBorneUp_113 : decode cX8_isBorneUp 113 = .ok (.goto 29, 3) := by decide +kernel
theorem dX8_isBorneUp_116 : decode cX8_isBorneUp 116 = .ok (.iconst 0, 1) := by decide +kernel
theorem dX8_isBorneUp_117 : decode cX8_isBorneUp 117 = .ok (.goto 25, 3) := by decide +kernel
theorem dX8_isBorneUp_120 : decode cX8_isBorneUp 120 = .ok (.iload_n 2, 1) := by decide +kernel
theorem dX8_isBorneUp_121 : decode cX8_isBorneUp 121 = .ok (.aload_n 0, 1) := by decide +kernel
theorem dX8_isBorneUp_122 : decode cX8_isBorneUp 122 = .ok (.getfield 44, 3) := by decide +kernel
theorem dX8_isBorneUp_125 : decode cX8_isBorneUp 125 = .ok (.bipush 6, 2) := by decide +kernel
theorem dX8_isBorneUp_127 : decode cX8_isBorneUp 127 = .ok (.iload_n 1, 1) := by decide +kernel
theorem dX8_isBorneUp_128 : decode cX8_isBorneUp 128 = .ok (.imul, 1) := by decide +kernel
theorem dX8_isBorneUp_129 : decode cX8_isBorneUp 129 = .ok (.iaload, 1) := by decide +kernel
theorem dX8_isBorneUp_130 : decode cX8_isBorneUp 130 = .ok (.ishr, 1) := by decide +kernel
theorem dX8_isBorneUp_131 : decode cX8_isBorneUp 131 = .ok (.iconst 1, 1) := by decide +kernel
theorem dX8_isBorneUp_132 : decode cX8_isBorneUp 132 = .ok (.iand, 1) := by decide +kernel
theorem dX8_isBorneUp_133 : decode cX8_isBorneUp 133 = .ok (.iconst 1, 1) := by decide +kernel
theorem dX8_isBorneUp_134 : decode cX8_isBorneUp 134 = .ok (.if_icmp .ne 7, 3) := by decide +kernel
theorem dX8_isBorneUp_137 : decode cX8_isBorneUp 137 = .ok (.iconst 1, 1) := by decide +kernel
theorem dX8_isBorneUp_138 : decode cX8_isBorneUp 138 = .ok (.goto 4, 3) := by decide +kernel
theorem dX8_isBorneUp_141 : decode cX8_isBorneUp 141 = .ok (.iconst 0, 1) := by decide +kernel
theorem dX8_isBorneUp_142 : decode cX8_isBorneUp 142 = .ok (.ireturn, 1) := by decide +kernel
theorem dX8_openOf_0 : decode cX8_openOf 0 = .ok (.iconst 0, 1) := by decide +kernel
theorem dX8_openOf_1 : decode cX8_openOf 1 = .ok (.istore_n 2, 1) := by decide +kernel
theorem dX8_openOf_2 : decode cX8_openOf 2 = .ok (.iconst 0, 1) := by decide +kernel
theorem dX8_openOf_3 : decode cX8_openOf 3 = .ok (.istore_n 3, 1) := by decide +kernel
theorem dX8_openOf_4 : decode cX8_openOf 4 = .ok (.iload_n 3, 1) := by decide +kernel
theorem dX8_openOf_5 : decode cX8_openOf 5 = .ok (.aload_n 0, 1) := by decide +kernel
theorem dX8_openOf_6 : decode cX8_openOf 6 = .ok (.getfield 35, 3) := by decide +kernel
theorem dX8_openOf_9 : decode cX8_openOf 9 = .ok (.iload_n 1, 1) := by decide +kernel
theorem dX8_openOf_10 : decode cX8_openOf 10 = .ok (.iaload, 1) := by decide +kernel
theorem dX8_openOf_11 : decode cX8_openOf 11 = .ok (.invokestatic 213, 3) := by decide +kernel
theorem dX8_openOf_14 : decode cX8_openOf 14 = .ok (.if_icmp .ge 30, 3) := by decide +kernel
theorem dX8_openOf_17 : decode cX8_openOf 17 = .ok (.iload_n 2, 1) := by decide +kernel
theorem dX8_openOf_18 : decode cX8_openOf 18 = .ok (.aload_n 0, 1) := by decide +kernel
theorem dX8_openOf_19 : decode cX8_openOf 19 = .ok (.getfield 47, 3) := by decide +kernel
theorem dX8_openOf_22 : decode cX8_openOf 22 = .ok (.iconst 3, 1) := by decide +kernel
theorem dX8_openOf_23 : decode cX8_openOf 23 = .ok (.iload_n 1, 1) := by decide +kernel
theorem dX8_openOf_24 : decode cX8_openOf 24 = .ok (.imul, 1) := by decide +kernel
theorem dX8_openOf_25 : decode cX8_openOf 25 = .ok (.iload_n 3, 1) := by decide +kernel
theorem dX8_openOf_26 : decode cX8_openOf 26 = .ok (.iadd, 1) := by decide +kernel
theorem dX8_openOf_27 : decode cX8_openOf 27 = .ok (.iaload, 1) := by decide +kernel
theorem dX8_openOf_28 : decode cX8_openOf 28 = .ok (.ifCond .ne 7, 3) := by decide +kernel
theorem dX8_openOf_31 : decode cX8_openOf 31 = .ok (.iconst 1, 1) := by decide +kernel
theorem dX8_openOf_32 : decode cX8_openOf 32 = .ok (.goto 4, 3) := by decide +kernel
theorem dX8_openOf_35 : decode cX8_openOf 35 = .ok (.iconst 0, 1) := by decide +kernel
theorem dX8_openOf_36 : decode cX8_openOf 36 = .ok (.iadd, 1) := by decide +kernel
theorem dX8_openOf_37 : decode cX8_openOf 37 = .ok (.istore_n 2, 1) := by decide +kernel
theorem dX8_openOf_38 : decode cX8_openOf 38 = .ok (.iinc 3 1, 3) := by decide +kernel
theorem dX8_openOf_41 : decode cX8_openOf 41 = .ok (.goto (-37), 3) := by decide +kernel
theorem dX8_openOf_44 : decode cX8_openOf 44 = .ok (.iload_n 2, 1) := by decide +kernel
theorem dX8_openOf_45 : decode cX8_openOf 45 = .ok (.ireturn, 1) := by decide +kernel
theorem dX8_shownBy_0 : decode cX8_shownBy 0 = .ok (.iload_n 1, 1) := by decide +kernel
theorem dX8_shownBy_1 : decode cX8_shownBy 1 = .ok (.istore_n 3, 1) := by decide +kernel
theorem dX8_shownBy_2 : decode cX8_shownBy 2 = .ok (.iconst 1, 1) := by decide +kernel
theorem dX8_shownBy_3 : decode cX8_shownBy 3 = .ok (.istore 4, 2) := by decide +kernel
theorem dX8_shownBy_5 : decode cX8_shownBy 5 = .ok (.aload_n 0, 1) := by decide +kernel
theorem dX8_shownBy_6 : decode cX8_shownBy 6 = .ok (.iconst 0, 1) := by decide +kernel
theorem dX8_shownBy_7 : decode cX8_shownBy 7 = .ok (.putfield 216, 3) := by decide +kernel
theorem dX8_shownBy_10 : decode cX8_shownBy 10 = .ok (.iload 4, 2) := by decide +kernel
theorem dX8_shownBy_12 : decode cX8_shownBy 12 = .ok (.ifCond .eq 110, 3) := by decide +kernel
theorem dX8_shownBy_15 : decode cX8_shownBy 15 = .ok (.iload_n 3, 1) := by decide +kernel
theorem dX8_shownBy_16 : decode cX8_shownBy 16 = .ok (.istore 5, 2) := by decide +kernel
theorem dX8_shownBy_18 : decode cX8_shownBy 18 = .ok (.iconst 0, 1) := by decide +kernel
theorem dX8_shownBy_19 : decode cX8_shownBy 19 = .ok (.istore 6, 2) := by decide +kernel
theorem dX8_shownBy_21 : decode cX8_shownBy 21 = .ok (.iload 6, 2) := by decide +kernel
theorem dX8_shownBy_23 : decode cX8_shownBy 23 = .ok (.aload_n 0, 1) := by decide +kernel
theorem dX8_shownBy_24 : decode cX8_shownBy 24 = .ok (.getfield 188, 3) := by decide +kernel
theorem dX8_shownBy_27 : decode cX8_shownBy 27 = .ok (.if_icmp .ge 57, 3) := by decide +kernel
theorem dX8_shownBy_30 : decode cX8_shownBy 30 = .ok (.iload 5, 2) := by decide +kernel
theorem dX8_shownBy_32 : decode cX8_shownBy 32 = .ok (.aload_n 0, 1) := by decide +kernel
theorem dX8_shownBy_33 : decode cX8_shownBy 33 = .ok (.getfield 38, 3) := by decide +kernel
theorem dX8_shownBy_36 : decode cX8_shownBy 36 = .ok (.iload 6, 2) := by decide +kernel
theorem dX8_shownBy_38 : decode cX8_shownBy 38 = .ok (.iaload, 1) := by decide +kernel
theorem dX8_shownBy_39 : decode cX8_shownBy 39 = .ok (.iload_n 2, 1) := by decide +kernel
theorem dX8_shownBy_40 : decode cX8_shownBy 40 = .ok (.if_icmp .eq 34, 3) := by decide +kernel
theorem dX8_shownBy_43 : decode cX8_shownBy 43 = .ok (.aload_n 0, 1) := by decide +kernel
theorem dX8_shownBy_44 : decode cX8_shownBy 44 = .ok (.iload 6, 2) := by decide +kernel
theorem dX8_shownBy_46 : decode cX8_shownBy 46 = .ok (.invokevirtual 219, 3) := by decide +kernel
theorem dX8_shownBy_49 : decode cX8_shownBy 49 = .ok (.ifCond .ne 25, 3) := by decide +kernel
theorem dX8_shownBy_52 : decode cX8_shownBy 52 = .ok (.aload_n 0, 1) := by decide +kernel
theorem dX8_shownBy_53 : decode cX8_shownBy 53 = .ok (.iload 6, 2) := by decide +kernel
theorem dX8_shownBy_55 : decode cX8_shownBy 55 = .ok (.iload_n 3, 1) := by decide +kernel
theorem dX8_shownBy_56 : decode cX8_shownBy 56 = .ok (.invokevirtual 222, 3) := by decide +kernel
theorem dX8_shownBy_59 : decode cX8_shownBy 59 = .ok (.ifCond .eq 15, 3) := by decide +kernel
theorem dX8_shownBy_62 : decode cX8_shownBy 62 = .ok (.iconst 1, 1) := by decide +kernel
theorem dX8_shownBy_63 : decode cX8_shownBy 63 = .ok (.aload_n 0, 1) := by decide +kernel
theorem dX8_shownBy_64 : decode cX8_shownBy 64 = .ok (.getfield 38, 3) := by decide +kernel
theorem dX8_shownBy_67 : decode cX8_shownBy 67 = .ok (.iload 6, 2) := by decide +kernel
theorem dX8_shownBy_69 : decode cX8_shownBy 69 = .ok (.iaload, 1) := by decide +kernel
theorem dX8_shownBy_70 : decode cX8_shownBy 70 = .ok (.ishl, 1) := by decide +kernel
theorem dX8_shownBy_71 : decode cX8_shownBy 71 = .ok (.goto 4, 3) := by decide +kernel
theorem dX8_shownBy_74 : decode cX8_shownBy 74 = .ok (.iconst 0, 1) := by decide +kernel
theorem dX8_shownBy_75 : decode cX8_shownBy 75 = .ok (.ior, 1) := by decide +kernel
theorem dX8_shownBy_76 : decode cX8_shownBy 76 = .ok (.istore 5, 2) := by decide +kernel
theorem dX8_shownBy_78 : decode cX8_shownBy 78 = .ok (.iinc 6 1, 3) := by decide +kernel
theorem dX8_shownBy_81 : decode cX8_shownBy 81 = .ok (.goto (-60), 3) := by decide +kernel
theorem dX8_shownBy_84 : decode cX8_shownBy 84 = .ok (.iload 5, 2) := by decide +kernel
theorem dX8_shownBy_86 : decode cX8_shownBy 86 = .ok (.iload_n 3, 1) := by decide +kernel
theorem dX8_shownBy_87 : decode cX8_shownBy 87 = .ok (.if_icmp .eq 7, 3) := by decide +kernel
theorem dX8_shownBy_90 : decode cX8_shownBy 90 = .ok (.iconst 1, 1) := by decide +kernel
theorem dX8_shownBy_91 : decode cX8_shownBy 91 = .ok (.goto 4, 3) := by decide +kernel
theorem dX8_shownBy_94 : decode cX8_shownBy 94 = .ok (.iconst 0, 1) := by decide +kernel
theorem dX8_shownBy_95 : decode cX8_shownBy 95 = .ok (.istore 4, 2) := by decide +kernel
theorem dX8_shownBy_97 : decode cX8_shownBy 97 = .ok (.aload_n 0, 1) := by decide +kernel
theorem dX8_shownBy_98 : decode cX8_shownBy 98 = .ok (.dup, 1) := by decide +kernel
theorem dX8_shownBy_99 : decode cX8_shownBy 99 = .ok (.getfield 216, 3) := by decide +kernel
theorem dX8_shownBy_102 : decode cX8_shownBy 102 = .ok (.iload 4, 2) := by decide +kernel
theorem dX8_shownBy_104 : decode cX8_shownBy 104 = .ok (.ifCond .eq 7, 3) := by decide +kernel
theorem dX8_shownBy_107 : decode cX8_shownBy 107 = .ok (.iconst 1, 1) := by decide +kernel
theorem dX8_shownBy_108 : decode cX8_shownBy 108 = .ok (.goto 4, 3) := by decide +kernel
theorem dX8_shownBy_111 : decode cX8_shownBy 111 = .ok (.iconst 0, 1) := by decide +kernel
theorem dX8_shownBy_112 : decode cX8_shownBy 112 = .ok (.iadd, 1) := by decide +kernel
theorem dX8_shownBy_113 : decode cX8_shownBy 113 = .ok (.putfield 216, 3) := by decide +kernel
theorem dX8_shownBy_116 : decode cX8_shownBy 116 = .ok (.iload 5, 2) := by decide +kernel
theorem dX8_shownBy_118 : decode cX8_shownBy 118 = .ok (.istore_n 3, 1) := by decide +kernel
theorem dX8_shownBy_119 : decode cX8_shownBy 119 = .ok (.goto (-109), 3) := by decide +kernel
theorem dX8_shownBy_122 : decode cX8_shownBy 122 = .ok (.iload_n 3, 1) := by decide +kernel
theorem dX8_shownBy_123 : decode cX8_shownBy 123 = .ok (.ireturn, 1) := by decide +kernel
theorem dX8_claims_0 : decode cX8_claims 0 = .ok (.iconst 0, 1) := by decide +kernel
theorem dX8_claims_1 : decode cX8_claims 1 = .ok (.istore_n 1, 1) := by decide +kernel
theorem dX8_claims_2 : decode cX8_claims 2 = .ok (.iconst 0, 1) := by decide +kernel
theorem dX8_claims_3 : decode cX8_claims 3 = .ok (.istore_n 2, 1) := by decide +kernel
theorem dX8_claims_4 : decode cX8_claims 4 = .ok (.iload_n 2, 1) := by decide +kernel
theorem dX8_claims_5 : decode cX8_claims 5 = .ok (.aload_n 0, 1) := by decide +kernel
theorem dX8_claims_6 : decode cX8_claims 6 = .ok (.getfield 185, 3) := by decide +kernel
theorem dX8_claims_9 : decode cX8_claims 9 = .ok (.if_icmp .ge 29, 3) := by decide +kernel
theorem dX8_claims_12 : decode cX8_claims 12 = .ok (.iload_n 1, 1) := by decide +kernel
theorem dX8_claims_13 : decode cX8_claims 13 = .ok (.aload_n 0, 1) := by decide +kernel
theorem dX8_claims_14 : decode cX8_claims 14 = .ok (.getfield 19, 3) := by decide +kernel
theorem dX8_claims_17 : decode cX8_claims 17 = .ok (.iload_n 2, 1) := by decide +kernel
theorem dX8_claims_18 : decode cX8_claims 18 = .ok (.iaload, 1) := by decide +kernel
theorem dX8_claims_19 : decode cX8_claims 19 = .ok (.iconst 2, 1) := by decide +kernel
theorem dX8_claims_20 : decode cX8_claims 20 = .ok (.if_icmp .ne 9, 3) := by decide +kernel
theorem dX8_claims_23 : decode cX8_claims 23 = .ok (.iconst 1, 1) := by decide +kernel
theorem dX8_claims_24 : decode cX8_claims 24 = .ok (.iload_n 2, 1) := by decide +kernel
theorem dX8_claims_25 : decode cX8_claims 25 = .ok (.ishl, 1) := by decide +kernel
theorem dX8_claims_26 : decode cX8_claims 26 = .ok (.goto 4, 3) := by decide +kernel
theorem dX8_claims_29 : decode cX8_claims 29 = .ok (.iconst 0, 1) := by decide +kernel
theorem dX8_claims_30 : decode cX8_claims 30 = .ok (.ior, 1) := by decide +kernel
theorem dX8_claims_31 : decode cX8_claims 31 = .ok (.istore_n 1, 1) := by decide +kernel
theorem dX8_claims_32 : decode cX8_claims 32 = .ok (.iinc 2 1, 3) := by decide +kernel
theorem dX8_claims_35 : decode cX8_claims 35 = .ok (.goto (-31), 3) := by decide +kernel
theorem dX8_claims_38 : decode cX8_claims 38 = .ok (.iload_n 1, 1) := by decide +kernel
theorem dX8_claims_39 : decode cX8_claims 39 = .ok (.ireturn, 1) := by decide +kernel
theorem dX8_shownNow_0 : decode cX8_shownNow 0 = .ok (.aload_n 0, 1) := by decide +kernel
theorem dX8_shownNow_1 : decode cX8_shownNow 1 = .ok (.aload_n 0, 1) := by decide +kernel
theorem dX8_shownNow_2 : decode cX8_shownNow 2 = .ok (.invokevirtual 225, 3) := by decide +kernel
theorem dX8_shownNow_5 : decode cX8_shownNow 5 = .ok (.ldc 114, 2) := by decide +kernel
theorem dX8_shownNow_7 : decode cX8_shownNow 7 = .ok (.invokevirtual 228, 3) := by decide +kernel
theorem dX8_shownNow_10 : decode cX8_shownNow 10 = .ok (.ireturn, 1) := by decide +kernel
theorem dX8_reachedFrom_0 : decode cX8_reachedFrom 0 = .ok (.iconst 0, 1) := by decide +kernel
theorem dX8_reachedFrom_1 : decode cX8_reachedFrom 1 = .ok (.istore_n 2, 1) := by decide +kernel
theorem dX8_reachedFrom_2 : decode cX8_reachedFrom 2 = .ok (.iconst 1, 1) := by decide +kernel
theorem dX8_reachedFrom_3 : decode cX8_reachedFrom 3 = .ok (.istore_n 3, 1) := by decide +kernel
theorem dX8_reachedFrom_4 : decode cX8_reachedFrom 4 = .ok (.iload_n 3, 1) := by decide +kernel
theorem dX8_reachedFrom_5 : decode cX8_reachedFrom 5 = .ok (.ifCond .eq 113, 3) := by decide +kernel
theorem dX8_reachedFrom_8 : decode cX8_reachedFrom 8 = .ok (.iload_n 2, 1) := by decide +kernel
theorem dX8_reachedFrom_9 : decode cX8_reachedFrom 9 = .ok (.istore 4, 2) := by decide +kernel
theorem dX8_reachedFrom_11 : decode cX8_reachedFrom 11 = .ok (.iconst 0, 1) := by decide +kernel
theorem dX8_reachedFrom_12 : decode cX8_reachedFrom 12 = .ok (.istore 5, 2) := by decide +kernel
theorem dX8_reachedFrom_14 : decode cX8_reachedFrom 14 = .ok (.iload 5, 2) := by decide +kernel
theorem dX8_reachedFrom_16 : decode cX8_reachedFrom 16 = .ok (.aload_n 0, 1) := by decide +kernel
theorem dX8_reachedFrom_17 : decode cX8_reachedFrom 17 = .ok (.getfield 188, 3) := by decide +kernel
theorem dX8_reachedFrom_20 : decode cX8_reachedFrom 20 = .ok (.if_icmp .ge 80, 3) := by decide +kernel
theorem dX8_reachedFrom_23 : decode cX8_reachedFrom 23 = .ok (.iconst 0, 1) := by decide +kernel
theorem dX8_reachedFrom_24 : decode cX8_reachedFrom 24 = .ok (.istore 6, 2) := by decide +kernel
theorem dX8_reachedFrom_26 : decode cX8_reachedFrom 26 = .ok (.iload 6, 2) := by decide +kernel
theorem dX8_reachedFrom_28 : decode cX8_reachedFrom 28 = .ok (.aload_n 0, 1) := by decide +kernel
theorem dX8_reachedFrom_29 : decode cX8_reachedFrom 29 = .ok (.getfield 41, 3) := by decide +kernel
theorem dX8_reachedFrom_32 : decode cX8_reachedFrom 32 = .ok (.iload 5, 2) := by decide +kernel
theorem dX8_reachedFrom_34 : decode cX8_reachedFrom 34 = .ok (.iaload, 1) := by decide +kernel
theorem dX8_reachedFrom_35 : decode cX8_reachedFrom 35 = .ok (.if_icmp .ge 59, 3) := by decide +kernel
theorem dX8_reachedFrom_38 : decode cX8_reachedFrom 38 = .ok (.iload 4, 2) := by decide +kernel
theorem dX8_reachedFrom_40 : decode cX8_reachedFrom 40 = .ok (.aload_n 0, 1) := by decide +kernel
theorem dX8_reachedFrom_41 : decode cX8_reachedFrom 41 = .ok (.getfield 38, 3) := by decide +kernel
theorem dX8_reachedFrom_44 : decode cX8_reachedFrom 44 = .ok (.iload 5, 2) := by decide +kernel
theorem dX8_reachedFrom_46 : decode cX8_reachedFrom 46 = .ok (.iaload, 1) := by decide +kernel
theorem dX8_reachedFrom_47 : decode cX8_reachedFrom 47 = .ok (.iload_n 1, 1) := by decide +kernel
theorem dX8_reachedFrom_48 : decode cX8_reachedFrom 48 = .ok (.if_icmp .eq 18, 3) := by decide +kernel
theorem dX8_reachedFrom_51 : decode cX8_reachedFrom 51 = .ok (.iload_n 2, 1) := by decide +kernel
theorem dX8_reachedFrom_52 : decode cX8_reachedFrom 52 = .ok (.aload_n 0, 1) := by decide +kernel
theorem dX8_reachedFrom_53 : decode cX8_reachedFrom 53 = .ok (.getfield 38, 3) := by decide +kernel
theorem dX8_reachedFrom_56 : decode cX8_reachedFrom 56 = .ok (.iload 5, 2) := by decide +kernel
theorem dX8_reachedFrom_58 : decode cX8_reachedFrom 58 = .ok (.iaload, 1) := by decide +kernel
theorem dX8_reachedFrom_59 : decode cX8_reachedFrom 59 = .ok (.ishr, 1) := by decide +kernel
theorem dX8_reachedFrom_60 : decode cX8_reachedFrom 60 = .ok (.iconst 1, 1) := by decide +kernel
theorem dX8_reachedFrom_61 : decode cX8_reachedFrom 61 = .ok (.iand, 1) := by decide +kernel
theorem dX8_reachedFrom_62 : decode cX8_reachedFrom 62 = .ok (.iconst 1, 1) := by decide +kernel
theorem dX8_reachedFrom_63 : decode cX8_reachedFrom 63 = .ok (.if_icmp .ne 21, 3) := by decide +kernel
theorem dX8_reachedFrom_66 : decode cX8_reachedFrom 66 = .ok (.iconst 1, 1) := by decide +kernel
theorem dX8_reachedFrom_67 : decode cX8_reachedFrom 67 = .ok (.aload_n 0, 1) := by decide +kernel
theorem dX8_reachedFrom_68 : decode cX8_reachedFrom 68 = .ok (.getfield 44, 3) := by decide +kernel
theorem dX8_reachedFrom_71 : decode cX8_reachedFrom 71 = .ok (.bipush 6, 2) := by decide +kernel
theorem dX8_reachedFrom_73 : decode cX8_reachedFrom 73 = .ok (.iload 5, 2) := by decide +kernel
theorem dX8_reachedFrom_75 : decode cX8_reachedFrom 75 = .ok (.imul, 1) := by decide +kernel
theorem dX8_reachedFrom_76 : decode cX8_reachedFrom 76 = .ok (.iload 6, 2) := by decide +kernel
theorem dX8_reachedFrom_78 : decode cX8_reachedFrom 78 = .ok (.iadd, 1) := by decide +kernel
theorem dX8_reachedFrom_79 : decode cX8_reachedFrom 79 = .ok (.iaload, 1) := by decide +kernel
theorem dX8_reachedFrom_80 : decode cX8_reachedFrom 80 = .ok (.ishl, 1) := by decide +kernel
theorem dX8_reachedFrom_81 : decode cX8_reachedFrom 81 = .ok (.goto 4, 3) := by decide +kernel
theorem dX8_reachedFrom_84 : decode cX8_reachedFrom 84 = .ok (.iconst 0, 1) := by decide +kernel
theorem dX8_reachedFrom_85 : decode cX8_reachedFrom 85 = .ok (.ior, 1) := by decide +kernel
theorem dX8_reachedFrom_86 : decode cX8_reachedFrom 86 = .ok (.istore 4, 2) := by decide +kernel
theorem dX8_reachedFrom_88 : decode cX8_reachedFrom 88 = .ok (.iinc 6 1, 3) := by decide +kernel
theorem dX8_reachedFrom_91 : decode cX8_reachedFrom 91 = .ok (.goto (-65), 3) := by decide +kernel
theorem dX8_reachedFrom_94 : decode cX8_reachedFrom 94 = .ok (.iinc 5 1, 3) := by decide +kernel
theorem dX8_reachedFrom_97 : decode cX8_reachedFrom 97 = .ok (.goto (-83), 3) := by decide +kernel
theorem dX8_reachedFrom_100 : decode cX8_reachedFrom 100 = .ok (.iload 4, 2) := by decide +kernel
theorem dX8_reachedFrom_102 : decode cX8_reachedFrom 102 = .ok (.iload_n 2, 1) := by decide +kernel
theorem dX8_reachedFrom_103 : decode cX8_reachedFrom 103 = .ok (.if_icmp .eq 7, 3) := by decide +kernel
theorem dX8_reachedFrom_106 : decode cX8_reachedFrom 106 = .ok (.iconst 1, 1) := by decide +kernel
theorem dX8_reachedFrom_107 : decode cX8_reachedFrom 107 = .ok (.goto 4, 3) := by decide +kernel
theorem dX8_reachedFrom_110 : decode cX8_reachedFrom 110 = .ok (.iconst 0, 1) := by decide +kernel
theorem dX8_reachedFrom_111 : decode cX8_reachedFrom 111 = .ok (.istore_n 3, 1) := by decide +kernel
theorem dX8_reachedFrom_112 : decode cX8_reachedFrom 112 = .ok (.iload 4, 2) := by decide +kernel
theorem dX8_reachedFrom_114 : decode cX8_reachedFrom 114 = .ok (.istore_n 2, 1) := by decide +kernel
theorem dX8_reachedFrom_115 : decode cX8_reachedFrom 115 = .ok (.goto (-111), 3) := by decide +kernel
theorem dX8_reachedFrom_118 : decode cX8_reachedFrom 118 = .ok (.iload_n 2, 1) := by decide +kernel
theorem dX8_reachedFrom_119 : decode cX8_reachedFrom 119 = .ok (.ireturn, 1) := by decide +kernel
theorem dX8_shown_0 : decode cX8_shown 0 = .ok (.aload_n 0, 1) := by decide +kernel
theorem dX8_shown_1 : decode cX8_shown 1 = .ok (.iconst 0, 1) := by decide +kernel
theorem dX8_shown_2 : decode cX8_shown 2 = .ok (.putfield 78, 3) := by decide +kernel
theorem dX8_shown_5 : decode cX8_shown 5 = .ok (.iload_n 1, 1) := by decide +kernel
theorem dX8_shown_6 : decode cX8_shown 6 = .ok (.i2l, 1) := by decide +kernel
theorem dX8_shown_7 : decode cX8_shown 7 = .ok (.lconst 0, 1) := by decide +kernel
theorem dX8_shown_8 : decode cX8_shown 8 = .ok (.ldc2_w 96, 3) := by decide +kernel
theorem dX8_shown_11 : decode cX8_shown 11 = .ok (.invokestatic 88, 3) := by decide +kernel
theorem dX8_shown_14 : decode cX8_shown 14 = .ok (.ifCond .ne 6, 3) := by decide +kernel
theorem dX8_shown_17 : decode cX8_shown 17 = .ok (.ldc 98, 2) := by decide +kernel
theorem dX8_shown_19 : decode cX8_shown 19 = .ok (.ireturn, 1) := by decide +kernel
theorem dX8_shown_20 : decode cX8_shown 20 = .ok (.aload_n 0, 1) := by decide +kernel
theorem dX8_shown_21 : decode cX8_shown 21 = .ok (.invokevirtual 232, 3) := by decide +kernel
theorem dX8_shown_24 : decode cX8_shown 24 = .ok (.aload_n 0, 1) := by decide +kernel
theorem dX8_shown_25 : decode cX8_shown 25 = .ok (.invokevirtual 235, 3) := by decide +kernel
theorem dX8_shown_28 : decode cX8_shown 28 = .ok (.iand, 1) := by decide +kernel
theorem dX8_shown_29 : decode cX8_shown 29 = .ok (.istore_n 2, 1) := by decide +kernel
theorem dX8_shown_30 : decode cX8_shown 30 = .ok (.iload_n 1, 1) := by decide +kernel
theorem dX8_shown_31 : decode cX8_shown 31 = .ok (.iconst 2, 1) := by decide +kernel
theorem dX8_shown_32 : decode cX8_shown 32 = .ok (.if_icmp .ge 16, 3) := by decide +kernel
theorem dX8_shown_35 : decode cX8_shown 35 = .ok (.iload_n 1, 1) := by decide +kernel
theorem dX8_shown_36 : decode cX8_shown 36 = .ok (.ifCond .ne 7, 3) := by decide +kernel
theorem dX8_shown_39 : decode cX8_shown 39 = .ok (.iload_n 2, 1) := by decide +kernel
theorem dX8_shown_40 : decode cX8_shown 40 = .ok (.goto 7, 3) := by decide +kernel
theorem dX8_shown_43 : decode cX8_shown 43 = .ok (.aload_n 0, 1) := by decide +kernel
theorem dX8_shown_44 : decode cX8_shown 44 = .ok (.getfield 216, 3) := by decide +kernel
theorem dX8_shown_47 : decode cX8_shown 47 = .ok (.ireturn, 1) := by decide +kernel
theorem dX8_shown_48 : decode cX8_shown 48 = .ok (.iconst 0, 1) := by decide +kernel
theorem dX8_shown_49 : decode cX8_shown 49 = .ok (.istore_n 3, 1) := by decide +kernel
theorem dX8_shown_50 : decode cX8_shown 50 = .ok (.iconst 0, 1) := by decide +kernel
theorem dX8_shown_51 : decode cX8_shown 51 = .ok (.istore 4, 2) := by decide +kernel
theorem dX8_shown_53 : decode cX8_shown 53 = .ok (.iload 4, 2) := by decide +kernel
theorem dX8_shown_55 : decode cX8_shown 55 = .ok (.aload_n 0, 1) := by decide +kernel
theorem dX8_shown_56 : decode cX8_shown 56 = .ok (.getfield 185, 3) := by decide +kernel
theorem dX8_shown_59 : decode cX8_shown 59 = .ok (.if_icmp .ge 46, 3) := by decide +kernel
theorem dX8_shown_62 : decode cX8_shown 62 = .ok (.iload_n 3, 1) := by decide +kernel
theorem dX8_shown_63 : decode cX8_shown 63 = .ok (.aload_n 0, 1) := by decide +kernel
theorem dX8_shown_64 : decode cX8_shown 64 = .ok (.getfield 19, 3) := by decide +kernel
theorem dX8_shown_67 : decode cX8_shown 67 = .ok (.iload 4, 2) := by decide +kernel
theorem dX8_shown_69 : decode cX8_shown 69 = .ok (.iaload, 1) := by decide +kernel
theorem dX8_shown_70 : decode cX8_shown 70 = .ok (.iconst 2, 1) := by decide +kernel
theorem dX8_shown_71 : decode cX8_shown 71 = .ok (.if_icmp .ne 25, 3) := by decide +kernel
theorem dX8_shown_74 : decode cX8_shown 74 = .ok (.aload_n 0, 1) := by decide +kernel
theorem dX8_shown_75 : decode cX8_shown 75 = .ok (.iload 4, 2) := by decide +kernel
theorem dX8_shown_77 : decode cX8_shown 77 = .ok (.invokevirtual 238, 3) := by decide +kernel
theorem dX8_shown_80 : decode cX8_shown 80 = .ok (.iload 4, 2) := by decide +kernel
theorem dX8_shown_82 : decode cX8_shown 82 = .ok (.ishr, 1) := by decide +kernel
theorem dX8_shown_83 : decode cX8_shown 83 = .ok (.iconst 1, 1) := by decide +kernel
theorem dX8_shown_84 : decode cX8_shown 84 = .ok (.iand, 1) := by decide +kernel
theorem dX8_shown_85 : decode cX8_shown 85 = .ok (.iconst 1, 1) := by decide +kernel
theorem dX8_shown_86 : decode cX8_shown 86 = .ok (.if_icmp .ne 10, 3) := by decide +kernel
theorem dX8_shown_89 : decode cX8_shown 89 = .ok (.iconst 1, 1) := by decide +kernel
theorem dX8_shown_90 : decode cX8_shown 90 = .ok (.iload 4, 2) := by decide +kernel
theorem dX8_shown_92 : decode cX8_shown 92 = .ok (.ishl, 1) := by decide +kernel
theorem dX8_shown_93 : decode cX8_shown 93 = .ok (.goto 4, 3) := by decide +kernel
theorem dX8_shown_96 : decode cX8_shown 96 = .ok (.iconst 0, 1) := by decide +kernel
theorem dX8_shown_97 : decode cX8_shown 97 = .ok (.ior, 1) := by decide +kernel
theorem dX8_shown_98 : decode cX8_shown 98 = .ok (.istore_n 3, 1) := by decide +kernel
theorem dX8_shown_99 : decode cX8_shown 99 = .ok (.iinc 4 1, 3) := by decide +kernel
theorem dX8_shown_102 : decode cX8_shown 102 = .ok (.goto (-49), 3) := by decide +kernel
theorem dX8_shown_105 : decode cX8_shown 105 = .ok (.iload_n 3, 1) := by decide +kernel
theorem dX8_shown_106 : decode cX8_shown 106 = .ok (.ireturn, 1) := by decide +kernel
theorem dX8_leaning_0 : decode cX8_leaning 0 = .ok (.aload_n 0, 1) := by decide +kernel
theorem dX8_leaning_1 : decode cX8_leaning 1 = .ok (.iconst 0, 1) := by decide +kernel
theorem dX8_leaning_2 : decode cX8_leaning 2 = .ok (.putfield 78, 3) := by decide +kernel
theorem dX8_leaning_5 : decode cX8_leaning 5 = .ok (.aload_n 0, 1) := by decide +kernel
theorem dX8_leaning_6 : decode cX8_leaning 6 = .ok (.iload_n 1, 1) := by decide +kernel
theorem dX8_leaning_7 : decode cX8_leaning 7 = .ok (.invokevirtual 204, 3) := by decide +kernel
theorem dX8_leaning_10 : decode cX8_leaning 10 = .ok (.ifCond .ne 6, 3) := by decide +kernel
theorem dX8_leaning_13 : decode cX8_leaning 13 = .ok (.ldc 98, 2) := by decide +kernel
theorem dX8_leaning_15 : decode cX8_leaning 15 = .ok (.ireturn, 1) := by decide +kernel
theorem dX8_leaning_16 : decode cX8_leaning 16 = .ok (.aload_n 0, 1) := by decide +kernel
theorem dX8_leaning_17 : decode cX8_leaning 17 = .ok (.invokevirtual 232, 3) := by decide +kernel
theorem dX8_leaning_20 : decode cX8_leaning 20 = .ok (.istore_n 2, 1) := by decide +kernel
theorem dX8_leaning_21 : decode cX8_leaning 21 = .ok (.aload_n 0, 1) := by decide +kernel
theorem dX8_leaning_22 : decode cX8_leaning 22 = .ok (.getfield 19, 3) := by decide +kernel
theorem dX8_leaning_25 : decode cX8_leaning 25 = .ok (.iload_n 1, 1) := by decide +kernel
theorem dX8_leaning_26 : decode cX8_leaning 26 = .ok (.iaload, 1) := by decide +kernel
theorem dX8_leaning_27 : decode cX8_leaning 27 = .ok (.iconst 2, 1) := by decide +kernel
theorem dX8_leaning_28 : decode cX8_leaning 28 = .ok (.if_icmp .ne 15, 3) := by decide +kernel
theorem dX8_leaning_31 : decode cX8_leaning 31 = .ok (.aload_n 0, 1) := by decide +kernel
theorem dX8_leaning_32 : decode cX8_leaning 32 = .ok (.aload_n 0, 1) := by decide +kernel
theorem dX8_leaning_33 : decode cX8_leaning 33 = .ok (.invokevirtual 225, 3) := by decide +kernel
theorem dX8_leaning_36 : decode cX8_leaning 36 = .ok (.iload_n 1, 1) := by decide +kernel
theorem dX8_leaning_37 : decode cX8_leaning 37 = .ok (.invokevirtual 228, 3) := by decide +kernel
theorem dX8_leaning_40 : decode cX8_leaning 40 = .ok (.goto 19, 3) := by decide +kernel
theorem dX8_leaning_43 : decode cX8_leaning 43 = .ok (.aload_n 0, 1) := by decide +kernel
theorem dX8_leaning_44 : decode cX8_leaning 44 = .ok (.aload_n 0, 1) := by decide +kernel
theorem dX8_leaning_45 : decode cX8_leaning 45 = .ok (.invokevirtual 225, 3) := by decide +kernel
theorem dX8_leaning_48 : decode cX8_leaning 48 = .ok (.iconst 1, 1) := by decide +kernel
theorem dX8_leaning_49 : decode cX8_leaning 49 = .ok (.iload_n 1, 1) := by decide +kernel
theorem dX8_leaning_50 : decode cX8_leaning 50 = .ok (.ishl, 1) := by decide +kernel
theorem dX8_leaning_51 : decode cX8_leaning 51 = .ok (.iconst (-1), 1) := by decide +kernel
theorem dX8_leaning_52 : decode cX8_leaning 52 = .ok (.ixor, 1) := by decide +kernel
theorem dX8_leaning_53 : decode cX8_leaning 53 = .ok (.iand, 1) := by decide +kernel
theorem dX8_leaning_54 : decode cX8_leaning 54 = .ok (.ldc 114, 2) := by decide +kernel
theorem dX8_leaning_56 : decode cX8_leaning 56 = .ok (.invokevirtual 228, 3) := by decide +kernel
theorem dX8_leaning_59 : decode cX8_leaning 59 = .ok (.istore_n 3, 1) := by decide +kernel
theorem dX8_leaning_60 : decode cX8_leaning 60 = .ok (.iload_n 2, 1) := by decide +kernel
theorem dX8_leaning_61 : decode cX8_leaning 61 = .ok (.iload_n 3, 1) := by decide +kernel
theorem dX8_leaning_62 : decode cX8_leaning 62 = .ok (.iconst (-1), 1) := by decide +kernel
theorem dX8_leaning_63 : decode cX8_leaning 63 = .ok (.ixor, 1) := by decide +kernel
theorem dX8_leaning_64 : decode cX8_leaning 64 = .ok (.iand, 1) := by decide +kernel
theorem dX8_leaning_65 : decode cX8_leaning 65 = .ok (.aload_n 0, 1) := by decide +kernel
theorem dX8_leaning_66 : decode cX8_leaning 66 = .ok (.invokevirtual 235, 3) := by decide +kernel
theorem dX8_leaning_69 : decode cX8_leaning 69 = .ok (.iand, 1) := by decide +kernel
theorem dX8_leaning_70 : decode cX8_leaning 70 = .ok (.iconst 1, 1) := by decide +kernel
theorem dX8_leaning_71 : decode cX8_leaning 71 = .ok (.iload_n 1, 1) := by decide +kernel
theorem dX8_leaning_72 : decode cX8_leaning 72 = .ok (.ishl, 1) := by decide +kernel
theorem dX8_leaning_73 : decode cX8_leaning 73 = .ok (.iconst (-1), 1) := by decide +kernel
theorem dX8_leaning_74 : decode cX8_leaning 74 = .ok (.ixor, 1) := by decide +kernel
theorem dX8_leaning_75 : decode cX8_leaning 75 = .ok (.iand, 1) := by decide +kernel
theorem dX8_leaning_76 : decode cX8_leaning 76 = .ok (.ireturn, 1) := by decide +kernel
theorem dX8_isFelled_0 : decode cX8_isFelled 0 = .ok (.aload_n 0, 1) := by decide +kernel
theorem dX8_isFelled_1 : decode cX8_isFelled 1 = .ok (.aload_n 0, 1) := by decide +kernel
theorem dX8_isFelled_2 : decode cX8_isFelled 2 = .ok (.invokevirtual 225, 3) := by decide +kernel
theorem dX8_isFelled_5 : decode cX8_isFelled 5 = .ok (.iload_n 2, 1) := by decide +kernel
theorem dX8_isFelled_6 : decode cX8_isFelled 6 = .ok (.iconst (-1), 1) := by decide +kernel
theorem dX8_isFelled_7 : decode cX8_isFelled 7 = .ok (.ixor, 1) := by decide +kernel
theorem dX8_isFelled_8 : decode cX8_isFelled 8 = .ok (.iand, 1) := by decide +kernel
theorem dX8_isFelled_9 : decode cX8_isFelled 9 = .ok (.ldc 114, 2) := by decide +kernel
theorem dX8_isFelled_11 : decode cX8_isFelled 11 = .ok (.invokevirtual 228, 3) := by decide +kernel
theorem dX8_isFelled_14 : decode cX8_isFelled 14 = .ok (.iload_n 1, 1) := by decide +kernel
theorem dX8_isFelled_15 : decode cX8_isFelled 15 = .ok (.ishr, 1) := by decide +kernel
theorem dX8_isFelled_16 : decode cX8_isFelled 16 = .ok (.iconst 1, 1) := by decide +kernel
theorem dX8_isFelled_17 : decode cX8_isFelled 17 = .ok (.iand, 1) := by decide +kernel
theorem dX8_isFelled_18 : decode cX8_isFelled 18 = .ok (.ifCond .ne 7, 3) := by decide +kernel
theorem dX8_isFelled_21 : decode cX8_isFelled 21 = .ok (.iconst 1, 1) := by decide +kernel
theorem dX8_isFelled_22 : decode cX8_isFelled 22 = .ok (.goto 4, 3) := by decide +kernel
theorem dX8_isFelled_25 : decode cX8_isFelled 25 = .ok (.iconst 0, 1) := by decide +kernel
theorem dX8_isFelled_26 : decode cX8_isFelled 26 = .ok (.ireturn, 1) := by decide +kernel
theorem dX8_isFelling_0 : decode cX8_isFelling 0 = .ok (.aload_n 0, 1) := by decide +kernel
theorem dX8_isFelling_1 : decode cX8_isFelling 1 = .ok (.iload_n 1, 1) := by decide +kernel
theorem dX8_isFelling_2 : decode cX8_isFelling 2 = .ok (.iload_n 2, 1) := by decide +kernel
theorem dX8_isFelling_3 : decode cX8_isFelling 3 = .ok (.invokevirtual 241, 3) := by decide +kernel
theorem dX8_isFelling_6 : decode cX8_isFelling 6 = .ok (.istore_n 3, 1) := by decide +kernel
theorem dX8_isFelling_7 : decode cX8_isFelling 7 = .ok (.iconst 0, 1) := by decide +kernel
theorem dX8_isFelling_8 : decode cX8_isFelling 8 = .ok (.istore 4, 2) := by decide +kernel
theorem dX8_isFelling_10 : decode cX8_isFelling 10 = .ok (.iload 4, 2) := by decide +kernel
theorem dX8_isFelling_12 : decode cX8_isFelling 12 = .ok (.aload_n 0, 1) := by decide +kernel
theorem dX8_isFelling_13 : decode cX8_isFelling 13 = .ok (.getfield 185, 3) := by decide +kernel
theorem dX8_isFelling_16 : decode cX8_isFelling 16 = .ok (.if_icmp .ge 44, 3) := by decide +kernel
theorem dX8_isFelling_19 : decode cX8_isFelling 19 = .ok (.iload_n 3, 1) := by decide +kernel
theorem dX8_isFelling_20 : decode cX8_isFelling 20 = .ok (.ifCond .eq 40, 3) := by decide +kernel
theorem dX8_isFelling_23 : decode cX8_isFelling 23 = .ok (.iload_n 2, 1) := by decide +kernel
theorem dX8_isFelling_24 : decode cX8_isFelling 24 = .ok (.iload 4, 2) := by decide +kernel
theorem dX8_isFelling_26 : decode cX8_isFelling 26 = .ok (.ishr, 1) := by decide +kernel
theorem dX8_isFelling_27 : decode cX8_isFelling 27 = .ok (.iconst 1, 1) := by decide +kernel
theorem dX8_isFelling_28 : decode cX8_isFelling 28 = .ok (.iand, 1) := by decide +kernel
theorem dX8_isFelling_29 : decode cX8_isFelling 29 = .ok (.ifCond .eq 19, 3) := by decide +kernel
theorem dX8_isFelling_32 : decode cX8_isFelling 32 = .ok (.aload_n 0, 1) := by decide +kernel
theorem dX8_isFelling_33 : decode cX8_isFelling 33 = .ok (.iload_n 1, 1) := by decide +kernel
theorem dX8_isFelling_34 : decode cX8_isFelling 34 = .ok (.iload_n 2, 1) := by decide +kernel
theorem dX8_isFelling_35 : decode cX8_isFelling 35 = .ok (.iconst 1, 1) := by decide +kernel
theorem dX8_isFelling_36 : decode cX8_isFelling 36 = .ok (.iload 4, 2) := by decide +kernel
theorem dX8_isFelling_38 : decode cX8_isFelling 38 = .ok (.ishl, 1) := by decide +kernel
theorem dX8_isFelling_39 : decode cX8_isFelling 39 = .ok (.iconst (-1), 1) := by decide +kernel
theorem dX8_isFelling_40 : decode cX8_isFelling 40 = .ok (.ixor, 1) := by decide +kernel
theorem dX8_isFelling_41 : decode cX8_isFelling 41 = .ok (.iand, 1) := by decide +kernel
theorem dX8_isFelling_42 : decode cX8_isFelling 42 = .ok (.invokevirtual 241, 3) := by decide +kernel
theorem dX8_isFelling_45 : decode cX8_isFelling 45 = .ok (.ifCond .ne 7, 3) := by decide +kernel
theorem dX8_isFelling_48 : decode cX8_isFelling 48 = .ok (.iconst 1, 1) := by decide +kernel
theorem dX8_isFelling_49 : decode cX8_isFelling 49 = .ok (.goto 4, 3) := by decide +kernel
theorem dX8_isFelling_52 : decode cX8_isFelling 52 = .ok (.iconst 0, 1) := by decide +kernel
theorem dX8_isFelling_53 : decode cX8_isFelling 53 = .ok (.istore_n 3, 1) := by decide +kernel
theorem dX8_isFelling_54 : decode cX8_isFelling 54 = .ok (.iinc 4 1, 3) := by decide +kernel
theorem dX8_isFelling_57 : decode cX8_isFelling 57 = .ok (.goto (-47), 3) := by decide +kernel
theorem dX8_isFelling_60 : decode cX8_isFelling 60 = .ok (.iload_n 3, 1) := by decide +kernel
theorem dX8_isFelling_61 : decode cX8_isFelling 61 = .ok (.ireturn, 1) := by decide +kernel
theorem dX8_bits_0 : decode cX8_bits 0 = .ok (.iconst 0, 1) := by decide +kernel
theorem dX8_bits_1 : decode cX8_bits 1 = .ok (.istore_n 1, 1) := by decide +kernel
theorem dX8_bits_2 : decode cX8_bits 2 = .ok (.iconst 0, 1) := by decide +kernel
theorem dX8_bits_3 : decode cX8_bits 3 = .ok (.istore_n 2, 1) := by decide +kernel
theorem dX8_bits_4 : decode cX8_bits 4 = .ok (.iload_n 2, 1) := by decide +kernel
theorem dX8_bits_5 : decode cX8_bits 5 = .ok (.bipush 20, 2) := by decide +kernel
theorem dX8_bits_7 : decode cX8_bits 7 = .ok (.if_icmp .ge 17, 3) := by decide +kernel
theorem dX8_bits_10 : decode cX8_bits 10 = .ok (.iload_n 1, 1) := by decide +kernel
theorem dX8_bits_11 : decode cX8_bits 11 = .ok (.iload_n 0, 1) := by decide +kernel
theorem dX8_bits_12 : decode cX8_bits 12 = .ok (.iload_n 2, 1) := by decide +kernel
theorem dX8_bits_13 : decode cX8_bits 13 = .ok (.ishr, 1) := by decide +kernel
theorem dX8_bits_14 : decode cX8_bits 14 = .ok (.iconst 1, 1) := by decide +kernel
theorem dX8_bits_15 : decode cX8_bits 15 = .ok (.iand, 1) := by decide +kernel
theorem dX8_bits_16 : decode cX8_bits 16 = .ok (.iadd, 1) := by decide +kernel
theorem dX8_bits_17 : decode cX8_bits 17 = .ok (.istore_n 1, 1) := by decide +kernel
theorem dX8_bits_18 : decode cX8_bits 18 = .ok (.iinc 2 1, 3) := by decide +kernel
theorem dX8_bits_21 : decode cX8_bits 21 = .ok (.goto (-17), 3) := by decide +kernel
theorem dX8_bits_24 : decode cX8_bits 24 = .ok (.iload_n 1, 1) := by decide +kernel
theorem dX8_bits_25 : decode cX8_bits 25 = .ok (.ireturn, 1) := by decide +kernel
theorem dX8_felling_0 : decode cX8_felling 0 = .ok (.aload_n 0, 1) := by decide +kernel
theorem dX8_felling_1 : decode cX8_felling 1 = .ok (.iconst 0, 1) := by decide +kernel
theorem dX8_felling_2 : decode cX8_felling 2 = .ok (.putfield 78, 3) := by decide +kernel
theorem dX8_felling_5 : decode cX8_felling 5 = .ok (.aload_n 0, 1) := by decide +kernel
theorem dX8_felling_6 : decode cX8_felling 6 = .ok (.iload_n 1, 1) := by decide +kernel
theorem dX8_felling_7 : decode cX8_felling 7 = .ok (.invokevirtual 244, 3) := by decide +kernel
theorem dX8_felling_10 : decode cX8_felling 10 = .ok (.ifCond .eq 8, 3) := by decide +kernel
theorem dX8_felling_13 : decode cX8_felling 13 = .ok (.iload_n 2, 1) := by decide +kernel
theorem dX8_felling_14 : decode cX8_felling 14 = .ok (.iconst (-1), 1) := by decide +kernel
theorem dX8_felling_15 : decode cX8_felling 15 = .ok (.if_icmp .ge 6, 3) := by decide +kernel
theorem dX8_felling_18 : decode cX8_felling 18 = .ok (.ldc 98, 2) := by decide +kernel
theorem dX8_felling_20 : decode cX8_felling 20 = .ok (.ireturn, 1) := by decide +kernel
theorem dX8_felling_21 : decode cX8_felling 21 = .ok (.aload_n 0, 1) := by decide +kernel
theorem dX8_felling_22 : decode cX8_felling 22 = .ok (.invokevirtual 232, 3) := by decide +kernel
theorem dX8_felling_25 : decode cX8_felling 25 = .ok (.iload_n 1, 1) := by decide +kernel
theorem dX8_felling_26 : decode cX8_felling 26 = .ok (.ishr, 1) := by decide +kernel
theorem dX8_felling_27 : decode cX8_felling 27 = .ok (.iconst 1, 1) := by decide +kernel
theorem dX8_felling_28 : decode cX8_felling 28 = .ok (.iand, 1) := by decide +kernel
theorem dX8_felling_29 : decode cX8_felling 29 = .ok (.ifCond .ne 6, 3) := by decide +kernel
theorem dX8_felling_32 : decode cX8_felling 32 = .ok (.ldc 247, 2) := by decide +kernel
theorem dX8_felling_34 : decode cX8_felling 34 = .ok (.ireturn, 1) := by decide +kernel
theorem dX8_felling_35 : decode cX8_felling 35 = .ok (.aload_n 0, 1) := by decide +kernel
theorem dX8_felling_36 : decode cX8_felling 36 = .ok (.invokevirtual 225, 3) := by decide +kernel
theorem dX8_felling_39 : decode cX8_felling 39 = .ok (.istore_n 3, 1) := by decide +kernel
theorem dX8_felling_40 : decode cX8_felling 40 = .ok (.iconst 0, 1) := by decide +kernel
theorem dX8_felling_41 : decode cX8_felling 41 = .ok (.istore 4, 2) := by decide +kernel
theorem dX8_felling_43 : decode cX8_felling 43 = .ok (.iconst 1, 1) := by decide +kernel
theorem dX8_felling_44 : decode cX8_felling 44 = .ok (.istore 5, 2) := by decide +kernel
theorem dX8_felling_46 : decode cX8_felling 46 = .ok (.iload 5, 2) := by decide +kernel
theorem dX8_felling_48 : decode cX8_felling 48 = .ok (.iconst 4, 1) := by decide +kernel
theorem dX8_felling_49 : decode cX8_felling 49 = .ok (.if_icmp .ge 204, 3) := by decide +kernel
theorem dX8_felling_52 : decode cX8_felling 52 = .ok (.iload 5, 2) := by decide +kernel
theorem dX8_felling_54 : decode cX8_felling 54 = .ok (.iconst 2, 1) := by decide +kernel
theorem dX8_felling_55 : decode cX8_felling 55 = .ok (.if_icmp .le 7, 3) := by decide +kernel
theorem dX8_felling_58 : decode cX8_felling 58 = .ok (.iconst 0, 1) := by decide +kernel
theorem dX8_felling_59 : decode cX8_felling 59 = .ok (.goto 4, 3) := by decide +kernel
theorem dX8_felling_62 : decode cX8_felling 62 = .ok (.iconst (-1), 1) := by decide +kernel
theorem dX8_felling_63 : decode cX8_felling 63 = .ok (.istore 6, 2) := by decide +kernel
theorem dX8_felling_65 : decode cX8_felling 65 = .ok (.iload 6, 2) := by decide +kernel
theorem dX8_felling_67 : decode cX8_felling 67 = .ok (.iload 5, 2) := by decide +kernel
theorem dX8_felling_69 : decode cX8_felling 69 = .ok (.iconst 2, 1) := by decide +kernel
theorem dX8_felling_70 : decode cX8_felling 70 = .ok (.if_icmp .le 10, 3) := by decide +kernel
theorem dX8_felling_73 : decode cX8_felling 73 = .ok (.aload_n 0, 1) := by decide +kernel
theorem dX8_felling_74 : decode cX8_felling 74 = .ok (.getfield 185, 3) := by decide +kernel
theorem dX8_felling_77 : decode cX8_felling 77 = .ok (.goto 4, 3) := by decide +kernel
theorem dX8_felling_80 : decode cX8_felling 80 = .ok (.iconst 0, 1) := by decide +kernel
theorem dX8_felling_81 : decode cX8_felling 81 = .ok (.if_icmp .ge 166, 3) := by decide +kernel
theorem dX8_felling_84 : decode cX8_felling 84 = .ok (.iload 5, 2) := by decide +kernel
theorem dX8_felling_86 : decode cX8_felling 86 = .ok (.iconst 1, 1) := by decide +kernel
theorem dX8_felling_87 : decode cX8_felling 87 = .ok (.if_icmp .le 7, 3) := by decide +kernel
theorem dX8_felling_90 : decode cX8_felling 90 = .ok (.iconst 0, 1) := by decide +kernel
theorem dX8_felling_91 : decode cX8_felling 91 = .ok (.goto 4, 3) := by decide +kernel
theorem dX8_felling_94 : decode cX8_felling 94 = .ok (.iconst (-1), 1) := by decide +kernel
theorem dX8_felling_95 : decode cX8_felling 95 = .ok (.istore 7, 2) := by decide +kernel
theorem dX8_felling_97 : decode cX8_felling 97 = .ok (.iload 7, 2) := by decide +kernel
theorem dX8_felling_99 : decode cX8_felling 99 = .ok (.iload 5, 2) := by decide +kernel
theorem dX8_felling_101 : decode cX8_felling 101 = .ok (.iconst 1, 1) := by decide +kernel
theorem dX8_felling_102 : decode cX8_felling 102 = .ok (.if_icmp .le 10, 3) := by decide +kernel
theorem dX8_felling_105 : decode cX8_felling 105 = .ok (.aload_n 0, 1) := by decide +kernel
theorem dX8_felling_106 : decode cX8_felling 106 = .ok (.getfield 185, 3) := by decide +kernel
theorem dX8_felling_109 : decode cX8_felling 109 = .ok (.goto 4, 3) := by decide +kernel
theorem dX8_felling_112 : decode cX8_felling 112 = .ok (.iconst 0, 1) := by decide +kernel
theorem dX8_felling_113 : decode cX8_felling 113 = .ok (.if_icmp .ge 128, 3) := by decide +kernel
theorem dX8_felling_116 : decode cX8_felling 116 = .ok (.iconst 0, 1) := by decide +kernel
theorem dX8_felling_117 : decode cX8_felling 117 = .ok (.istore 8, 2) := by decide +kernel
theorem dX8_felling_119 : decode cX8_felling 119 = .ok (.iload 8, 2) := by decide +kernel
theorem dX8_felling_121 : decode cX8_felling 121 = .ok (.aload_n 0, 1) := by decide +kernel
theorem dX8_felling_122 : decode cX8_felling 122 = .ok (.getfield 185, 3) := by decide +kernel
theorem dX8_felling_125 : decode cX8_felling 125 = .ok (.if_icmp .ge 110, 3) := by decide +kernel
theorem dX8_felling_128 : decode cX8_felling 128 = .ok (.iconst 1, 1) := by decide +kernel
theorem dX8_felling_129 : decode cX8_felling 129 = .ok (.iload 8, 2) := by decide +kernel
theorem dX8_felling_131 : decode cX8_felling 131 = .ok (.ishl, 1) := by decide +kernel
theorem dX8_felling_132 : decode cX8_felling 132 = .ok (.iload 7, 2) := by decide +kernel
theorem dX8_felling_134 : decode cX8_felling 134 = .ok (.ifCond .ge 7, 3) := by decide +kernel
theorem dX8_felling_137 : decode cX8_felling 137 = .ok (.iconst 0, 1) := by decide +kernel
theorem dX8_felling_138 : decode cX8_felling 138 = .ok (.goto 7, 3) := by decide +kernel
theorem dX8_felling_141 : decode cX8_felling 141 = .ok (.iconst 1, 1) := by decide +kernel
theorem dX8_felling_142 : decode cX8_felling 142 = .ok (.iload 7, 2) := by decide +kernel
theorem dX8_felling_144 : decode cX8_felling 144 = .ok (.ishl, 1) := by decide +kernel
theorem dX8_felling_145 : decode cX8_felling 145 = .ok (.ior, 1) := by decide +kernel
theorem dX8_felling_146 : decode cX8_felling 146 = .ok (.iload 6, 2) := by decide +kernel
theorem dX8_felling_148 : decode cX8_felling 148 = .ok (.ifCond .ge 7, 3) := by decide +kernel
theorem dX8_felling_151 : decode cX8_felling 151 = .ok (.iconst 0, 1) := by decide +kernel
theorem dX8_felling_152 : decode cX8_felling 152 = .ok (.goto 7, 3) := by decide +kernel
theorem dX8_felling_155 : decode cX8_felling 155 = .ok (.iconst 1, 1) := by decide +kernel
theorem dX8_felling_156 : decode cX8_felling 156 = .ok (.iload 6, 2) := by decide +kernel
theorem dX8_felling_158 : decode cX8_felling 158 = .ok (.ishl, 1) := by decide +kernel
theorem dX8_felling_159 : decode cX8_felling 159 = .ok (.ior, 1) := by decide +kernel
theorem dX8_felling_160 : decode cX8_felling 160 = .ok (.istore 9, 2) := by decide +kernel
theorem dX8_felling_162 : decode cX8_felling 162 = .ok (.iload 7, 2) := by decide +kernel
theorem dX8_felling_164 : decode cX8_felling 164 = .ok (.ifCond .lt 10, 3) := by decide +kernel
theorem dX8_felling_167 : decode cX8_felling 167 = .ok (.iload 8, 2) := by decide +kernel
theorem dX8_felling_169 : decode cX8_felling 169 = .ok (.iload 7, 2) := by decide +kernel
theorem dX8_felling_171 : decode cX8_felling 171 = .ok (.if_icmp .ge 19, 3) := by decide +kernel
theorem dX8_felling_174 : decode cX8_felling 174 = .ok (.iload 6, 2) := by decide +kernel
theorem dX8_felling_176 : decode cX8_felling 176 = .ok (.ifCond .lt 10, 3) := by decide +kernel
theorem dX8_felling_179 : decode cX8_felling 179 = .ok (.iload 7, 2) := by decide +kernel
theorem dX8_felling_181 : decode cX8_felling 181 = .ok (.iload 6, 2) := by decide +kernel
theorem dX8_felling_183 : decode cX8_felling 183 = .ok (.if_icmp .ge 7, 3) := by decide +kernel
theorem dX8_felling_186 : decode cX8_felling 186 = .ok (.iconst 1, 1) := by decide +kernel
