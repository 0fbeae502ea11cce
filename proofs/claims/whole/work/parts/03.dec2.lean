theorem dX8_felling_187 : decode cX8_felling 187 = .ok (.goto 4, 3) := by decide +kernel
theorem dX8_felling_190 : decode cX8_felling 190 = .ok (.iconst 0, 1) := by decide +kernel
theorem dX8_felling_191 : decode cX8_felling 191 = .ok (.istore 10, 2) := by decide +kernel
theorem dX8_felling_193 : decode cX8_felling 193 = .ok (.iload 10, 2) := by decide +kernel
theorem dX8_felling_195 : decode cX8_felling 195 = .ok (.ifCond .eq 34, 3) := by decide +kernel
theorem dX8_felling_198 : decode cX8_felling 198 = .ok (.iload 9, 2) := by decide +kernel
theorem dX8_felling_200 : decode cX8_felling 200 = .ok (.iload_n 3, 1) := by decide +kernel
theorem dX8_felling_201 : decode cX8_felling 201 = .ok (.iconst (-1), 1) := by decide +kernel
theorem dX8_felling_202 : decode cX8_felling 202 = .ok (.ixor, 1) := by decide +kernel
theorem dX8_felling_203 : decode cX8_felling 203 = .ok (.iand, 1) := by decide +kernel
theorem dX8_felling_204 : decode cX8_felling 204 = .ok (.ifCond .ne 25, 3) := by decide +kernel
theorem dX8_felling_207 : decode cX8_felling 207 = .ok (.aload_n 0, 1) := by decide +kernel
theorem dX8_felling_208 : decode cX8_felling 208 = .ok (.iload_n 1, 1) := by decide +kernel
theorem dX8_felling_209 : decode cX8_felling 209 = .ok (.iload 9, 2) := by decide +kernel
theorem dX8_felling_211 : decode cX8_felling 211 = .ok (.invokevirtual 248, 3) := by decide +kernel
theorem dX8_felling_214 : decode cX8_felling 214 = .ok (.ifCond .eq 15, 3) := by decide +kernel
theorem dX8_felling_217 : decode cX8_felling 217 = .ok (.iload 4, 2) := by decide +kernel
theorem dX8_felling_219 : decode cX8_felling 219 = .ok (.iload_n 2, 1) := by decide +kernel
theorem dX8_felling_220 : decode cX8_felling 220 = .ok (.if_icmp .ne 6, 3) := by decide +kernel
theorem dX8_felling_223 : decode cX8_felling 223 = .ok (.iload 9, 2) := by decide +kernel
theorem dX8_felling_225 : decode cX8_felling 225 = .ok (.ireturn, 1) := by decide +kernel
theorem dX8_felling_226 : decode cX8_felling 226 = .ok (.iinc 4 1, 3) := by decide +kernel
theorem dX8_felling_229 : decode cX8_felling 229 = .ok (.iinc 8 1, 3) := by decide +kernel
theorem dX8_felling_232 : decode cX8_felling 232 = .ok (.goto (-113), 3) := by decide +kernel
theorem dX8_felling_235 : decode cX8_felling 235 = .ok (.iinc 7 1, 3) := by decide +kernel
theorem dX8_felling_238 : decode cX8_felling 238 = .ok (.goto (-141), 3) := by decide +kernel
theorem dX8_felling_241 : decode cX8_felling 241 = .ok (.iinc 6 1, 3) := by decide +kernel
theorem dX8_felling_244 : decode cX8_felling 244 = .ok (.goto (-179), 3) := by decide +kernel
theorem dX8_felling_247 : decode cX8_felling 247 = .ok (.iinc 5 1, 3) := by decide +kernel
theorem dX8_felling_250 : decode cX8_felling 250 = .ok (.goto (-204), 3) := by decide +kernel
theorem dX8_felling_253 : decode cX8_felling 253 = .ok (.iload_n 2, 1) := by decide +kernel
theorem dX8_felling_254 : decode cX8_felling 254 = .ok (.iconst (-1), 1) := by decide +kernel
theorem dX8_felling_255 : decode cX8_felling 255 = .ok (.if_icmp .ne 8, 3) := by decide +kernel
theorem dX8_felling_258 : decode cX8_felling 258 = .ok (.iload 4, 2) := by decide +kernel
theorem dX8_felling_260 : decode cX8_felling 260 = .ok (.goto 5, 3) := by decide +kernel
theorem dX8_felling_263 : decode cX8_felling 263 = .ok (.ldc 114, 2) := by decide +kernel
theorem dX8_felling_265 : decode cX8_felling 265 = .ok (.ireturn, 1) := by decide +kernel
theorem dX8_hand_0 : decode cX8_hand 0 = .ok (.aload_n 0, 1) := by decide +kernel
theorem dX8_hand_1 : decode cX8_hand 1 = .ok (.iconst 0, 1) := by decide +kernel
theorem dX8_hand_2 : decode cX8_hand 2 = .ok (.putfield 78, 3) := by decide +kernel
theorem dX8_hand_5 : decode cX8_hand 5 = .ok (.ldc 114, 2) := by decide +kernel
theorem dX8_hand_7 : decode cX8_hand 7 = .ok (.istore_n 1, 1) := by decide +kernel
theorem dX8_hand_8 : decode cX8_hand 8 = .ok (.iconst 0, 1) := by decide +kernel
theorem dX8_hand_9 : decode cX8_hand 9 = .ok (.istore_n 2, 1) := by decide +kernel
theorem dX8_hand_10 : decode cX8_hand 10 = .ok (.aload_n 0, 1) := by decide +kernel
theorem dX8_hand_11 : decode cX8_hand 11 = .ok (.invokevirtual 225, 3) := by decide +kernel
theorem dX8_hand_14 : decode cX8_hand 14 = .ok (.istore_n 3, 1) := by decide +kernel
theorem dX8_hand_15 : decode cX8_hand 15 = .ok (.aload_n 0, 1) := by decide +kernel
theorem dX8_hand_16 : decode cX8_hand 16 = .ok (.invokevirtual 232, 3) := by decide +kernel
theorem dX8_hand_19 : decode cX8_hand 19 = .ok (.aload_n 0, 1) := by decide +kernel
theorem dX8_hand_20 : decode cX8_hand 20 = .ok (.invokevirtual 235, 3) := by decide +kernel
theorem dX8_hand_23 : decode cX8_hand 23 = .ok (.iand, 1) := by decide +kernel
theorem dX8_hand_24 : decode cX8_hand 24 = .ok (.istore 4, 2) := by decide +kernel
theorem dX8_hand_26 : decode cX8_hand 26 = .ok (.iconst 0, 1) := by decide +kernel
theorem dX8_hand_27 : decode cX8_hand 27 = .ok (.istore 5, 2) := by decide +kernel
theorem dX8_hand_29 : decode cX8_hand 29 = .ok (.iload 5, 2) := by decide +kernel
theorem dX8_hand_31 : decode cX8_hand 31 = .ok (.bipush 10, 2) := by decide +kernel
theorem dX8_hand_33 : decode cX8_hand 33 = .ok (.if_icmp .ge 100, 3) := by decide +kernel
theorem dX8_hand_36 : decode cX8_hand 36 = .ok (.iconst 0, 1) := by decide +kernel
theorem dX8_hand_37 : decode cX8_hand 37 = .ok (.istore 6, 2) := by decide +kernel
theorem dX8_hand_39 : decode cX8_hand 39 = .ok (.iconst 0, 1) := by decide +kernel
theorem dX8_hand_40 : decode cX8_hand 40 = .ok (.istore 7, 2) := by decide +kernel
theorem dX8_hand_42 : decode cX8_hand 42 = .ok (.iload 7, 2) := by decide +kernel
theorem dX8_hand_44 : decode cX8_hand 44 = .ok (.aload_n 0, 1) := by decide +kernel
theorem dX8_hand_45 : decode cX8_hand 45 = .ok (.getfield 185, 3) := by decide +kernel
theorem dX8_hand_48 : decode cX8_hand 48 = .ok (.if_icmp .ge 45, 3) := by decide +kernel
theorem dX8_hand_51 : decode cX8_hand 51 = .ok (.iload 6, 2) := by decide +kernel
theorem dX8_hand_53 : decode cX8_hand 53 = .ok (.aload_n 0, 1) := by decide +kernel
theorem dX8_hand_54 : decode cX8_hand 54 = .ok (.getfield 19, 3) := by decide +kernel
theorem dX8_hand_57 : decode cX8_hand 57 = .ok (.iload 7, 2) := by decide +kernel
theorem dX8_hand_59 : decode cX8_hand 59 = .ok (.iaload, 1) := by decide +kernel
theorem dX8_hand_60 : decode cX8_hand 60 = .ok (.iconst 2, 1) := by decide +kernel
theorem dX8_hand_61 : decode cX8_hand 61 = .ok (.if_icmp .ge 22, 3) := by decide +kernel
theorem dX8_hand_64 : decode cX8_hand 64 = .ok (.aload_n 0, 1) := by decide +kernel
theorem dX8_hand_65 : decode cX8_hand 65 = .ok (.getfield 22, 3) := by decide +kernel
theorem dX8_hand_68 : decode cX8_hand 68 = .ok (.iload 7, 2) := by decide +kernel
theorem dX8_hand_70 : decode cX8_hand 70 = .ok (.iaload, 1) := by decide +kernel
theorem dX8_hand_71 : decode cX8_hand 71 = .ok (.iload 5, 2) := by decide +kernel
theorem dX8_hand_73 : decode cX8_hand 73 = .ok (.if_icmp .ne 10, 3) := by decide +kernel
theorem dX8_hand_76 : decode cX8_hand 76 = .ok (.iconst 1, 1) := by decide +kernel
theorem dX8_hand_77 : decode cX8_hand 77 = .ok (.iload 7, 2) := by decide +kernel
theorem dX8_hand_79 : decode cX8_hand 79 = .ok (.ishl, 1) := by decide +kernel
theorem dX8_hand_80 : decode cX8_hand 80 = .ok (.goto 4, 3) := by decide +kernel
theorem dX8_hand_83 : decode cX8_hand 83 = .ok (.iconst 0, 1) := by decide +kernel
theorem dX8_hand_84 : decode cX8_hand 84 = .ok (.ior, 1) := by decide +kernel
theorem dX8_hand_85 : decode cX8_hand 85 = .ok (.istore 6, 2) := by decide +kernel
theorem dX8_hand_87 : decode cX8_hand 87 = .ok (.iinc 7 1, 3) := by decide +kernel
theorem dX8_hand_90 : decode cX8_hand 90 = .ok (.goto (-48), 3) := by decide +kernel
theorem dX8_hand_93 : decode cX8_hand 93 = .ok (.iload 4, 2) := by decide +kernel
theorem dX8_hand_95 : decode cX8_hand 95 = .ok (.aload_n 0, 1) := by decide +kernel
theorem dX8_hand_96 : decode cX8_hand 96 = .ok (.iload_n 3, 1) := by decide +kernel
theorem dX8_hand_97 : decode cX8_hand 97 = .ok (.iload 6, 2) := by decide +kernel
theorem dX8_hand_99 : decode cX8_hand 99 = .ok (.iconst (-1), 1) := by decide +kernel
theorem dX8_hand_100 : decode cX8_hand 100 = .ok (.ixor, 1) := by decide +kernel
theorem dX8_hand_101 : decode cX8_hand 101 = .ok (.iand, 1) := by decide +kernel
theorem dX8_hand_102 : decode cX8_hand 102 = .ok (.ldc 114, 2) := by decide +kernel
theorem dX8_hand_104 : decode cX8_hand 104 = .ok (.invokevirtual 228, 3) := by decide +kernel
theorem dX8_hand_107 : decode cX8_hand 107 = .ok (.iconst (-1), 1) := by decide +kernel
theorem dX8_hand_108 : decode cX8_hand 108 = .ok (.ixor, 1) := by decide +kernel
theorem dX8_hand_109 : decode cX8_hand 109 = .ok (.iand, 1) := by decide +kernel
theorem dX8_hand_110 : decode cX8_hand 110 = .ok (.invokestatic 251, 3) := by decide +kernel
theorem dX8_hand_113 : decode cX8_hand 113 = .ok (.istore 7, 2) := by decide +kernel
theorem dX8_hand_115 : decode cX8_hand 115 = .ok (.iload 7, 2) := by decide +kernel
theorem dX8_hand_117 : decode cX8_hand 117 = .ok (.iload_n 2, 1) := by decide +kernel
theorem dX8_hand_118 : decode cX8_hand 118 = .ok (.if_icmp .le 9, 3) := by decide +kernel
theorem dX8_hand_121 : decode cX8_hand 121 = .ok (.iload 5, 2) := by decide +kernel
theorem dX8_hand_123 : decode cX8_hand 123 = .ok (.istore_n 1, 1) := by decide +kernel
theorem dX8_hand_124 : decode cX8_hand 124 = .ok (.iload 7, 2) := by decide +kernel
theorem dX8_hand_126 : decode cX8_hand 126 = .ok (.istore_n 2, 1) := by decide +kernel
theorem dX8_hand_127 : decode cX8_hand 127 = .ok (.iinc 5 1, 3) := by decide +kernel
theorem dX8_hand_130 : decode cX8_hand 130 = .ok (.goto (-101), 3) := by decide +kernel
theorem dX8_hand_133 : decode cX8_hand 133 = .ok (.iload_n 1, 1) := by decide +kernel
theorem dX8_hand_134 : decode cX8_hand 134 = .ok (.ireturn, 1) := by decide +kernel
theorem dX8_node_0 : decode cX8_node 0 = .ok (.aload_n 0, 1) := by decide +kernel
theorem dX8_node_1 : decode cX8_node 1 = .ok (.iconst 0, 1) := by decide +kernel
theorem dX8_node_2 : decode cX8_node 2 = .ok (.putfield 78, 3) := by decide +kernel
theorem dX8_node_5 : decode cX8_node 5 = .ok (.aload_n 0, 1) := by decide +kernel
theorem dX8_node_6 : decode cX8_node 6 = .ok (.iload_n 1, 1) := by decide +kernel
theorem dX8_node_7 : decode cX8_node 7 = .ok (.invokevirtual 204, 3) := by decide +kernel
theorem dX8_node_10 : decode cX8_node 10 = .ok (.ifCond .eq 15, 3) := by decide +kernel
theorem dX8_node_13 : decode cX8_node 13 = .ok (.iload_n 2, 1) := by decide +kernel
theorem dX8_node_14 : decode cX8_node 14 = .ok (.i2l, 1) := by decide +kernel
theorem dX8_node_15 : decode cX8_node 15 = .ok (.lconst 0, 1) := by decide +kernel
theorem dX8_node_16 : decode cX8_node 16 = .ok (.ldc2_w 254, 3) := by decide +kernel
theorem dX8_node_19 : decode cX8_node 19 = .ok (.invokestatic 88, 3) := by decide +kernel
theorem dX8_node_22 : decode cX8_node 22 = .ok (.ifCond .ne 6, 3) := by decide +kernel
theorem dX8_node_25 : decode cX8_node 25 = .ok (.ldc 98, 2) := by decide +kernel
theorem dX8_node_27 : decode cX8_node 27 = .ok (.ireturn, 1) := by decide +kernel
theorem dX8_node_28 : decode cX8_node 28 = .ok (.iload_n 2, 1) := by decide +kernel
theorem dX8_node_29 : decode cX8_node 29 = .ok (.tableswitch 78 0 4 #[35, 42, 49, 56, 63], 35) := by decide +kernel
theorem dX8_node_64 : decode cX8_node 64 = .ok (.aload_n 0, 1) := by decide +kernel
theorem dX8_node_65 : decode cX8_node 65 = .ok (.getfield 19, 3) := by decide +kernel
theorem dX8_node_68 : decode cX8_node 68 = .ok (.iload_n 1, 1) := by decide +kernel
theorem dX8_node_69 : decode cX8_node 69 = .ok (.iaload, 1) := by decide +kernel
theorem dX8_node_70 : decode cX8_node 70 = .ok (.ireturn, 1) := by decide +kernel
theorem dX8_node_71 : decode cX8_node 71 = .ok (.aload_n 0, 1) := by decide +kernel
theorem dX8_node_72 : decode cX8_node 72 = .ok (.getfield 22, 3) := by decide +kernel
theorem dX8_node_75 : decode cX8_node 75 = .ok (.iload_n 1, 1) := by decide +kernel
theorem dX8_node_76 : decode cX8_node 76 = .ok (.iaload, 1) := by decide +kernel
theorem dX8_node_77 : decode cX8_node 77 = .ok (.ireturn, 1) := by decide +kernel
theorem dX8_node_78 : decode cX8_node 78 = .ok (.aload_n 0, 1) := by decide +kernel
theorem dX8_node_79 : decode cX8_node 79 = .ok (.getfield 25, 3) := by decide +kernel
theorem dX8_node_82 : decode cX8_node 82 = .ok (.iload_n 1, 1) := by decide +kernel
theorem dX8_node_83 : decode cX8_node 83 = .ok (.iaload, 1) := by decide +kernel
theorem dX8_node_84 : decode cX8_node 84 = .ok (.ireturn, 1) := by decide +kernel
theorem dX8_node_85 : decode cX8_node 85 = .ok (.aload_n 0, 1) := by decide +kernel
theorem dX8_node_86 : decode cX8_node 86 = .ok (.getfield 28, 3) := by decide +kernel
theorem dX8_node_89 : decode cX8_node 89 = .ok (.iload_n 1, 1) := by decide +kernel
theorem dX8_node_90 : decode cX8_node 90 = .ok (.iaload, 1) := by decide +kernel
theorem dX8_node_91 : decode cX8_node 91 = .ok (.ireturn, 1) := by decide +kernel
theorem dX8_node_92 : decode cX8_node 92 = .ok (.aload_n 0, 1) := by decide +kernel
theorem dX8_node_93 : decode cX8_node 93 = .ok (.getfield 31, 3) := by decide +kernel
theorem dX8_node_96 : decode cX8_node 96 = .ok (.iload_n 1, 1) := by decide +kernel
theorem dX8_node_97 : decode cX8_node 97 = .ok (.baload, 1) := by decide +kernel
theorem dX8_node_98 : decode cX8_node 98 = .ok (.ifCond .eq 7, 3) := by decide +kernel
theorem dX8_node_101 : decode cX8_node 101 = .ok (.iconst 1, 1) := by decide +kernel
theorem dX8_node_102 : decode cX8_node 102 = .ok (.goto 4, 3) := by decide +kernel
theorem dX8_node_105 : decode cX8_node 105 = .ok (.iconst 0, 1) := by decide +kernel
theorem dX8_node_106 : decode cX8_node 106 = .ok (.ireturn, 1) := by decide +kernel
theorem dX8_node_107 : decode cX8_node 107 = .ok (.aload_n 0, 1) := by decide +kernel
theorem dX8_node_108 : decode cX8_node 108 = .ok (.invokevirtual 232, 3) := by decide +kernel
theorem dX8_node_111 : decode cX8_node 111 = .ok (.iload_n 1, 1) := by decide +kernel
theorem dX8_node_112 : decode cX8_node 112 = .ok (.ishr, 1) := by decide +kernel
theorem dX8_node_113 : decode cX8_node 113 = .ok (.iconst 1, 1) := by decide +kernel
theorem dX8_node_114 : decode cX8_node 114 = .ok (.iand, 1) := by decide +kernel
theorem dX8_node_115 : decode cX8_node 115 = .ok (.ireturn, 1) := by decide +kernel
theorem dX8_step_0 : decode cX8_step 0 = .ok (.aload_n 0, 1) := by decide +kernel
theorem dX8_step_1 : decode cX8_step 1 = .ok (.iconst 0, 1) := by decide +kernel
theorem dX8_step_2 : decode cX8_step 2 = .ok (.putfield 78, 3) := by decide +kernel
theorem dX8_step_5 : decode cX8_step 5 = .ok (.aload_n 0, 1) := by decide +kernel
theorem dX8_step_6 : decode cX8_step 6 = .ok (.iload_n 1, 1) := by decide +kernel
theorem dX8_step_7 : decode cX8_step 7 = .ok (.invokevirtual 256, 3) := by decide +kernel
theorem dX8_step_10 : decode cX8_step 10 = .ok (.ifCond .eq 15, 3) := by decide +kernel
theorem dX8_step_13 : decode cX8_step 13 = .ok (.iload_n 2, 1) := by decide +kernel
theorem dX8_step_14 : decode cX8_step 14 = .ok (.i2l, 1) := by decide +kernel
theorem dX8_step_15 : decode cX8_step 15 = .ok (.lconst 0, 1) := by decide +kernel
theorem dX8_step_16 : decode cX8_step 16 = .ok (.ldc2_w 254, 3) := by decide +kernel
theorem dX8_step_19 : decode cX8_step 19 = .ok (.invokestatic 88, 3) := by decide +kernel
theorem dX8_step_22 : decode cX8_step 22 = .ok (.ifCond .ne 6, 3) := by decide +kernel
theorem dX8_step_25 : decode cX8_step 25 = .ok (.ldc 98, 2) := by decide +kernel
theorem dX8_step_27 : decode cX8_step 27 = .ok (.ireturn, 1) := by decide +kernel
theorem dX8_step_28 : decode cX8_step 28 = .ok (.iload_n 2, 1) := by decide +kernel
theorem dX8_step_29 : decode cX8_step 29 = .ok (.tableswitch 72 0 4 #[35, 42, 49, 56, 66], 35) := by decide +kernel
theorem dX8_step_64 : decode cX8_step 64 = .ok (.aload_n 0, 1) := by decide +kernel
theorem dX8_step_65 : decode cX8_step 65 = .ok (.getfield 35, 3) := by decide +kernel
theorem dX8_step_68 : decode cX8_step 68 = .ok (.iload_n 1, 1) := by decide +kernel
theorem dX8_step_69 : decode cX8_step 69 = .ok (.iaload, 1) := by decide +kernel
theorem dX8_step_70 : decode cX8_step 70 = .ok (.ireturn, 1) := by decide +kernel
theorem dX8_step_71 : decode cX8_step 71 = .ok (.aload_n 0, 1) := by decide +kernel
theorem dX8_step_72 : decode cX8_step 72 = .ok (.getfield 38, 3) := by decide +kernel
theorem dX8_step_75 : decode cX8_step 75 = .ok (.iload_n 1, 1) := by decide +kernel
theorem dX8_step_76 : decode cX8_step 76 = .ok (.iaload, 1) := by decide +kernel
theorem dX8_step_77 : decode cX8_step 77 = .ok (.ireturn, 1) := by decide +kernel
theorem dX8_step_78 : decode cX8_step 78 = .ok (.aload_n 0, 1) := by decide +kernel
theorem dX8_step_79 : decode cX8_step 79 = .ok (.getfield 41, 3) := by decide +kernel
theorem dX8_step_82 : decode cX8_step 82 = .ok (.iload_n 1, 1) := by decide +kernel
theorem dX8_step_83 : decode cX8_step 83 = .ok (.iaload, 1) := by decide +kernel
theorem dX8_step_84 : decode cX8_step 84 = .ok (.ireturn, 1) := by decide +kernel
theorem dX8_step_85 : decode cX8_step 85 = .ok (.aload_n 0, 1) := by decide +kernel
theorem dX8_step_86 : decode cX8_step 86 = .ok (.getfield 35, 3) := by decide +kernel
theorem dX8_step_89 : decode cX8_step 89 = .ok (.iload_n 1, 1) := by decide +kernel
theorem dX8_step_90 : decode cX8_step 90 = .ok (.iaload, 1) := by decide +kernel
theorem dX8_step_91 : decode cX8_step 91 = .ok (.invokestatic 213, 3) := by decide +kernel
theorem dX8_step_94 : decode cX8_step 94 = .ok (.ireturn, 1) := by decide +kernel
theorem dX8_step_95 : decode cX8_step 95 = .ok (.aload_n 0, 1) := by decide +kernel
theorem dX8_step_96 : decode cX8_step 96 = .ok (.iload_n 1, 1) := by decide +kernel
theorem dX8_step_97 : decode cX8_step 97 = .ok (.invokevirtual 219, 3) := by decide +kernel
theorem dX8_step_100 : decode cX8_step 100 = .ok (.ireturn, 1) := by decide +kernel
theorem dX8_step_101 : decode cX8_step 101 = .ok (.aload_n 0, 1) := by decide +kernel
theorem dX8_step_102 : decode cX8_step 102 = .ok (.iload_n 1, 1) := by decide +kernel
theorem dX8_step_103 : decode cX8_step 103 = .ok (.aload_n 0, 1) := by decide +kernel
theorem dX8_step_104 : decode cX8_step 104 = .ok (.invokevirtual 232, 3) := by decide +kernel
theorem dX8_step_107 : decode cX8_step 107 = .ok (.invokevirtual 222, 3) := by decide +kernel
theorem dX8_step_110 : decode cX8_step 110 = .ok (.ifCond .eq 7, 3) := by decide +kernel
theorem dX8_step_113 : decode cX8_step 113 = .ok (.iconst 1, 1) := by decide +kernel
theorem dX8_step_114 : decode cX8_step 114 = .ok (.goto 4, 3) := by decide +kernel
theorem dX8_step_117 : decode cX8_step 117 = .ok (.iconst 0, 1) := by decide +kernel
theorem dX8_step_118 : decode cX8_step 118 = .ok (.ireturn, 1) := by decide +kernel
theorem dX8_part_0 : decode cX8_part 0 = .ok (.aload_n 0, 1) := by decide +kernel
theorem dX8_part_1 : decode cX8_part 1 = .ok (.iconst 0, 1) := by decide +kernel
theorem dX8_part_2 : decode cX8_part 2 = .ok (.putfield 78, 3) := by decide +kernel
theorem dX8_part_5 : decode cX8_part 5 = .ok (.aload_n 0, 1) := by decide +kernel
theorem dX8_part_6 : decode cX8_part 6 = .ok (.iload_n 1, 1) := by decide +kernel
theorem dX8_part_7 : decode cX8_part 7 = .ok (.invokevirtual 256, 3) := by decide +kernel
theorem dX8_part_10 : decode cX8_part 10 = .ok (.ifCond .eq 7, 3) := by decide +kernel
theorem dX8_part_13 : decode cX8_part 13 = .ok (.iload_n 2, 1) := by decide +kernel
theorem dX8_part_14 : decode cX8_part 14 = .ok (.ifCond .ge 8, 3) := by decide +kernel
theorem dX8_part_17 : decode cX8_part 17 = .ok (.ldc 98, 2) := by decide +kernel
theorem dX8_part_19 : decode cX8_part 19 = .ok (.goto 29, 3) := by decide +kernel
theorem dX8_part_22 : decode cX8_part 22 = .ok (.iload_n 2, 1) := by decide +kernel
theorem dX8_part_23 : decode cX8_part 23 = .ok (.aload_n 0, 1) := by decide +kernel
theorem dX8_part_24 : decode cX8_part 24 = .ok (.getfield 41, 3) := by decide +kernel
theorem dX8_part_27 : decode cX8_part 27 = .ok (.iload_n 1, 1) := by decide +kernel
theorem dX8_part_28 : decode cX8_part 28 = .ok (.iaload, 1) := by decide +kernel
theorem dX8_part_29 : decode cX8_part 29 = .ok (.if_icmp .ge 17, 3) := by decide +kernel
theorem dX8_part_32 : decode cX8_part 32 = .ok (.aload_n 0, 1) := by decide +kernel
theorem dX8_part_33 : decode cX8_part 33 = .ok (.getfield 44, 3) := by decide +kernel
theorem dX8_part_36 : decode cX8_part 36 = .ok (.bipush 6, 2) := by decide +kernel
theorem dX8_part_38 : decode cX8_part 38 = .ok (.iload_n 1, 1) := by decide +kernel
theorem dX8_part_39 : decode cX8_part 39 = .ok (.imul, 1) := by decide +kernel
theorem dX8_part_40 : decode cX8_part 40 = .ok (.iload_n 2, 1) := by decide +kernel
theorem dX8_part_41 : decode cX8_part 41 = .ok (.iadd, 1) := by decide +kernel
theorem dX8_part_42 : decode cX8_part 42 = .ok (.iaload, 1) := by decide +kernel
theorem dX8_part_43 : decode cX8_part 43 = .ok (.goto 5, 3) := by decide +kernel
theorem dX8_part_46 : decode cX8_part 46 = .ok (.ldc 114, 2) := by decide +kernel
theorem dX8_part_48 : decode cX8_part 48 = .ok (.ireturn, 1) := by decide +kernel
theorem dX8_doubt_0 : decode cX8_doubt 0 = .ok (.aload_n 0, 1) := by decide +kernel
theorem dX8_doubt_1 : decode cX8_doubt 1 = .ok (.iconst 0, 1) := by decide +kernel
theorem dX8_doubt_2 : decode cX8_doubt 2 = .ok (.putfield 78, 3) := by decide +kernel
theorem dX8_doubt_5 : decode cX8_doubt 5 = .ok (.aload_n 0, 1) := by decide +kernel
theorem dX8_doubt_6 : decode cX8_doubt 6 = .ok (.iload_n 1, 1) := by decide +kernel
theorem dX8_doubt_7 : decode cX8_doubt 7 = .ok (.invokevirtual 256, 3) := by decide +kernel
theorem dX8_doubt_10 : decode cX8_doubt 10 = .ok (.ifCond .eq 36, 3) := by decide +kernel
theorem dX8_doubt_13 : decode cX8_doubt 13 = .ok (.iload_n 2, 1) := by decide +kernel
theorem dX8_doubt_14 : decode cX8_doubt 14 = .ok (.i2l, 1) := by decide +kernel
theorem dX8_doubt_15 : decode cX8_doubt 15 = .ok (.lconst 0, 1) := by decide +kernel
theorem dX8_doubt_16 : decode cX8_doubt 16 = .ok (.aload_n 0, 1) := by decide +kernel
theorem dX8_doubt_17 : decode cX8_doubt 17 = .ok (.getfield 35, 3) := by decide +kernel
theorem dX8_doubt_20 : decode cX8_doubt 20 = .ok (.iload_n 1, 1) := by decide +kernel
theorem dX8_doubt_21 : decode cX8_doubt 21 = .ok (.iaload, 1) := by decide +kernel
theorem dX8_doubt_22 : decode cX8_doubt 22 = .ok (.invokestatic 213, 3) := by decide +kernel
theorem dX8_doubt_25 : decode cX8_doubt 25 = .ok (.iconst 1, 1) := by decide +kernel
theorem dX8_doubt_26 : decode cX8_doubt 26 = .ok (.isub, 1) := by decide +kernel
theorem dX8_doubt_27 : decode cX8_doubt 27 = .ok (.i2l, 1) := by decide +kernel
theorem dX8_doubt_28 : decode cX8_doubt 28 = .ok (.invokestatic 88, 3) := by decide +kernel
theorem dX8_doubt_31 : decode cX8_doubt 31 = .ok (.ifCond .eq 15, 3) := by decide +kernel
theorem dX8_doubt_34 : decode cX8_doubt 34 = .ok (.iload_n 3, 1) := by decide +kernel
theorem dX8_doubt_35 : decode cX8_doubt 35 = .ok (.i2l, 1) := by decide +kernel
theorem dX8_doubt_36 : decode cX8_doubt 36 = .ok (.lconst 0, 1) := by decide +kernel
theorem dX8_doubt_37 : decode cX8_doubt 37 = .ok (.ldc2_w 259, 3) := by decide +kernel
theorem dX8_doubt_40 : decode cX8_doubt 40 = .ok (.invokestatic 88, 3) := by decide +kernel
theorem dX8_doubt_43 : decode cX8_doubt 43 = .ok (.ifCond .ne 6, 3) := by decide +kernel
theorem dX8_doubt_46 : decode cX8_doubt 46 = .ok (.ldc 98, 2) := by decide +kernel
theorem dX8_doubt_48 : decode cX8_doubt 48 = .ok (.ireturn, 1) := by decide +kernel
theorem dX8_doubt_49 : decode cX8_doubt 49 = .ok (.aload_n 0, 1) := by decide +kernel
theorem dX8_doubt_50 : decode cX8_doubt 50 = .ok (.getfield 47, 3) := by decide +kernel
theorem dX8_doubt_53 : decode cX8_doubt 53 = .ok (.iconst 3, 1) := by decide +kernel
theorem dX8_doubt_54 : decode cX8_doubt 54 = .ok (.iload_n 1, 1) := by decide +kernel
theorem dX8_doubt_55 : decode cX8_doubt 55 = .ok (.imul, 1) := by decide +kernel
theorem dX8_doubt_56 : decode cX8_doubt 56 = .ok (.iload_n 2, 1) := by decide +kernel
theorem dX8_doubt_57 : decode cX8_doubt 57 = .ok (.iadd, 1) := by decide +kernel
theorem dX8_doubt_58 : decode cX8_doubt 58 = .ok (.iaload, 1) := by decide +kernel
theorem dX8_doubt_59 : decode cX8_doubt 59 = .ok (.istore 4, 2) := by decide +kernel
theorem dX8_doubt_61 : decode cX8_doubt 61 = .ok (.aload_n 0, 1) := by decide +kernel
theorem dX8_doubt_62 : decode cX8_doubt 62 = .ok (.getfield 47, 3) := by decide +kernel
theorem dX8_doubt_65 : decode cX8_doubt 65 = .ok (.iconst 3, 1) := by decide +kernel
theorem dX8_doubt_66 : decode cX8_doubt 66 = .ok (.iload_n 1, 1) := by decide +kernel
theorem dX8_doubt_67 : decode cX8_doubt 67 = .ok (.imul, 1) := by decide +kernel
theorem dX8_doubt_68 : decode cX8_doubt 68 = .ok (.iload_n 2, 1) := by decide +kernel
theorem dX8_doubt_69 : decode cX8_doubt 69 = .ok (.iadd, 1) := by decide +kernel
theorem dX8_doubt_70 : decode cX8_doubt 70 = .ok (.iload_n 3, 1) := by decide +kernel
theorem dX8_doubt_71 : decode cX8_doubt 71 = .ok (.iastore, 1) := by decide +kernel
theorem dX8_doubt_72 : decode cX8_doubt 72 = .ok (.iload 4, 2) := by decide +kernel
theorem dX8_doubt_74 : decode cX8_doubt 74 = .ok (.ireturn, 1) := by decide +kernel
theorem dX8_borne_0 : decode cX8_borne 0 = .ok (.aload_n 0, 1) := by decide +kernel
theorem dX8_borne_1 : decode cX8_borne 1 = .ok (.iconst 0, 1) := by decide +kernel
theorem dX8_borne_2 : decode cX8_borne 2 = .ok (.putfield 78, 3) := by decide +kernel
theorem dX8_borne_5 : decode cX8_borne 5 = .ok (.iload_n 1, 1) := by decide +kernel
theorem dX8_borne_6 : decode cX8_borne 6 = .ok (.i2l, 1) := by decide +kernel
theorem dX8_borne_7 : decode cX8_borne 7 = .ok (.lconst 0, 1) := by decide +kernel
theorem dX8_borne_8 : decode cX8_borne 8 = .ok (.ldc2_w 261, 3) := by decide +kernel
theorem dX8_borne_11 : decode cX8_borne 11 = .ok (.invokestatic 88, 3) := by decide +kernel
theorem dX8_borne_14 : decode cX8_borne 14 = .ok (.ifCond .ne 6, 3) := by decide +kernel
theorem dX8_borne_17 : decode cX8_borne 17 = .ok (.ldc 98, 2) := by decide +kernel
theorem dX8_borne_19 : decode cX8_borne 19 = .ok (.ireturn, 1) := by decide +kernel
theorem dX8_borne_20 : decode cX8_borne 20 = .ok (.iconst 0, 1) := by decide +kernel
theorem dX8_borne_21 : decode cX8_borne 21 = .ok (.istore_n 2, 1) := by decide +kernel
theorem dX8_borne_22 : decode cX8_borne 22 = .ok (.iconst 0, 1) := by decide +kernel
theorem dX8_borne_23 : decode cX8_borne 23 = .ok (.istore_n 3, 1) := by decide +kernel
theorem dX8_borne_24 : decode cX8_borne 24 = .ok (.iload_n 3, 1) := by decide +kernel
theorem dX8_borne_25 : decode cX8_borne 25 = .ok (.iconst 3, 1) := by decide +kernel
theorem dX8_borne_26 : decode cX8_borne 26 = .ok (.aload_n 0, 1) := by decide +kernel
theorem dX8_borne_27 : decode cX8_borne 27 = .ok (.getfield 188, 3) := by decide +kernel
theorem dX8_borne_30 : decode cX8_borne 30 = .ok (.imul, 1) := by decide +kernel
theorem dX8_borne_31 : decode cX8_borne 31 = .ok (.if_icmp .ge 29, 3) := by decide +kernel
theorem dX8_borne_34 : decode cX8_borne 34 = .ok (.iload_n 2, 1) := by decide +kernel
theorem dX8_borne_35 : decode cX8_borne 35 = .ok (.aload_n 0, 1) := by decide +kernel
theorem dX8_borne_36 : decode cX8_borne 36 = .ok (.getfield 47, 3) := by decide +kernel
theorem dX8_borne_39 : decode cX8_borne 39 = .ok (.iload_n 3, 1) := by decide +kernel
theorem dX8_borne_40 : decode cX8_borne 40 = .ok (.iaload, 1) := by decide +kernel
theorem dX8_borne_41 : decode cX8_borne 41 = .ok (.iconst 2, 1) := by decide +kernel
theorem dX8_borne_42 : decode cX8_borne 42 = .ok (.iload_n 1, 1) := by decide +kernel
theorem dX8_borne_43 : decode cX8_borne 43 = .ok (.iadd, 1) := by decide +kernel
theorem dX8_borne_44 : decode cX8_borne 44 = .ok (.if_icmp .ne 7, 3) := by decide +kernel
theorem dX8_borne_47 : decode cX8_borne 47 = .ok (.iconst 1, 1) := by decide +kernel
theorem dX8_borne_48 : decode cX8_borne 48 = .ok (.goto 4, 3) := by decide +kernel
theorem dX8_borne_51 : decode cX8_borne 51 = .ok (.iconst 0, 1) := by decide +kernel
theorem dX8_borne_52 : decode cX8_borne 52 = .ok (.iadd, 1) := by decide +kernel
theorem dX8_borne_53 : decode cX8_borne 53 = .ok (.istore_n 2, 1) := by decide +kernel
theorem dX8_borne_54 : decode cX8_borne 54 = .ok (.iinc 3 1, 3) := by decide +kernel
theorem dX8_borne_57 : decode cX8_borne 57 = .ok (.goto (-33), 3) := by decide +kernel
theorem dX8_borne_60 : decode cX8_borne 60 = .ok (.iload_n 2, 1) := by decide +kernel
theorem dX8_borne_61 : decode cX8_borne 61 = .ok (.ireturn, 1) := by decide +kernel
theorem dX8_looked_0 : decode cX8_looked 0 = .ok (.aload_n 0, 1) := by decide +kernel
theorem dX8_looked_1 : decode cX8_looked 1 = .ok (.iconst 0, 1) := by decide +kernel
theorem dX8_looked_2 : decode cX8_looked 2 = .ok (.putfield 78, 3) := by decide +kernel
theorem dX8_looked_5 : decode cX8_looked 5 = .ok (.iload_n 1, 1) := by decide +kernel
theorem dX8_looked_6 : decode cX8_looked 6 = .ok (.invokestatic 92, 3) := by decide +kernel
theorem dX8_looked_9 : decode cX8_looked 9 = .ok (.ifCond .eq 15, 3) := by decide +kernel
theorem dX8_looked_12 : decode cX8_looked 12 = .ok (.iload_n 3, 1) := by decide +kernel
theorem dX8_looked_13 : decode cX8_looked 13 = .ok (.i2l, 1) := by decide +kernel
theorem dX8_looked_14 : decode cX8_looked 14 = .ok (.lconst 1, 1) := by decide +kernel
theorem dX8_looked_15 : decode cX8_looked 15 = .ok (.ldc2_w 103, 3) := by decide +kernel
theorem dX8_looked_18 : decode cX8_looked 18 = .ok (.invokestatic 88, 3) := by decide +kernel
theorem dX8_looked_21 : decode cX8_looked 21 = .ok (.ifCond .ne 6, 3) := by decide +kernel
theorem dX8_looked_24 : decode cX8_looked 24 = .ok (.ldc 98, 2) := by decide +kernel
theorem dX8_looked_26 : decode cX8_looked 26 = .ok (.ireturn, 1) := by decide +kernel
theorem dX8_looked_27 : decode cX8_looked 27 = .ok (.aload_n 0, 1) := by decide +kernel
theorem dX8_looked_28 : decode cX8_looked 28 = .ok (.getfield 7, 3) := by decide +kernel
theorem dX8_looked_31 : decode cX8_looked 31 = .ok (.iload_n 1, 1) := by decide +kernel
theorem dX8_looked_32 : decode cX8_looked 32 = .ok (.iaload, 1) := by decide +kernel
theorem dX8_looked_33 : decode cX8_looked 33 = .ok (.ifCond .ge 9, 3) := by decide +kernel
theorem dX8_looked_36 : decode cX8_looked 36 = .ok (.aload_n 0, 1) := by decide +kernel
theorem dX8_looked_37 : decode cX8_looked 37 = .ok (.iconst 1, 1) := by decide +kernel
theorem dX8_looked_38 : decode cX8_looked 38 = .ok (.invokevirtual 99, 3) := by decide +kernel
theorem dX8_looked_41 : decode cX8_looked 41 = .ok (.ireturn, 1) := by decide +kernel
theorem dX8_looked_42 : decode cX8_looked 42 = .ok (.iload_n 2, 1) := by decide +kernel
theorem dX8_looked_43 : decode cX8_looked 43 = .ok (.ifCond .lt 21, 3) := by decide +kernel
theorem dX8_looked_46 : decode cX8_looked 46 = .ok (.iload_n 2, 1) := by decide +kernel
theorem dX8_looked_47 : decode cX8_looked 47 = .ok (.i2l, 1) := by decide +kernel
theorem dX8_looked_48 : decode cX8_looked 48 = .ok (.iconst 3, 1) := by decide +kernel
theorem dX8_looked_49 : decode cX8_looked 49 = .ok (.iload_n 3, 1) := by decide +kernel
theorem dX8_looked_50 : decode cX8_looked 50 = .ok (.imul, 1) := by decide +kernel
theorem dX8_looked_51 : decode cX8_looked 51 = .ok (.i2l, 1) := by decide +kernel
theorem dX8_looked_52 : decode cX8_looked 52 = .ok (.ladd, 1) := by decide +kernel
theorem dX8_looked_53 : decode cX8_looked 53 = .ok (.aload_n 0, 1) := by decide +kernel
theorem dX8_looked_54 : decode cX8_looked 54 = .ok (.getfield 13, 3) := by decide +kernel
theorem dX8_looked_57 : decode cX8_looked 57 = .ok (.iload_n 1, 1) := by decide +kernel
theorem dX8_looked_58 : decode cX8_looked 58 = .ok (.iaload, 1) := by decide +kernel
theorem dX8_looked_59 : decode cX8_looked 59 = .ok (.i2l, 1) := by decide +kernel
theorem dX8_looked_60 : decode cX8_looked 60 = .ok (.lcmp, 1) := by decide +kernel
theorem dX8_looked_61 : decode cX8_looked 61 = .ok (.ifCond .le 9, 3) := by decide +kernel
theorem dX8_looked_64 : decode cX8_looked 64 = .ok (.aload_n 0, 1) := by decide +kernel
theorem dX8_looked_65 : decode cX8_looked 65 = .ok (.iconst 2, 1) := by decide +kernel
theorem dX8_looked_66 : decode cX8_looked 66 = .ok (.invokevirtual 99, 3) := by decide +kernel
theorem dX8_looked_69 : decode cX8_looked 69 = .ok (.ireturn, 1) := by decide +kernel
theorem dX8_looked_70 : decode cX8_looked 70 = .ok (.bipush 40, 2) := by decide +kernel
theorem dX8_looked_72 : decode cX8_looked 72 = .ok (.iload_n 1, 1) := by decide +kernel
theorem dX8_looked_73 : decode cX8_looked 73 = .ok (.imul, 1) := by decide +kernel
theorem dX8_looked_74 : decode cX8_looked 74 = .ok (.iload_n 2, 1) := by decide +kernel
theorem dX8_looked_75 : decode cX8_looked 75 = .ok (.iadd, 1) := by decide +kernel
theorem dX8_looked_76 : decode cX8_looked 76 = .ok (.istore 4, 2) := by decide +kernel
theorem dX8_looked_78 : decode cX8_looked 78 = .ok (.iload 4, 2) := by decide +kernel
theorem dX8_looked_80 : decode cX8_looked 80 = .ok (.istore 5, 2) := by decide +kernel
theorem dX8_looked_82 : decode cX8_looked 82 = .ok (.iload 5, 2) := by decide +kernel
theorem dX8_looked_84 : decode cX8_looked 84 = .ok (.iload 4, 2) := by decide +kernel
theorem dX8_looked_86 : decode cX8_looked 86 = .ok (.iconst 3, 1) := by decide +kernel
theorem dX8_looked_87 : decode cX8_looked 87 = .ok (.iload_n 3, 1) := by decide +kernel
theorem dX8_looked_88 : decode cX8_looked 88 = .ok (.imul, 1) := by decide +kernel
theorem dX8_looked_89 : decode cX8_looked 89 = .ok (.iadd, 1) := by decide +kernel
theorem dX8_looked_90 : decode cX8_looked 90 = .ok (.if_icmp .ge 66, 3) := by decide +kernel
theorem dX8_looked_93 : decode cX8_looked 93 = .ok (.aload_n 0, 1) := by decide +kernel
theorem dX8_looked_94 : decode cX8_looked 94 = .ok (.aload_n 0, 1) := by decide +kernel
theorem dX8_looked_95 : decode cX8_looked 95 = .ok (.getfield 16, 3) := by decide +kernel
theorem dX8_looked_98 : decode cX8_looked 98 = .ok (.iload 5, 2) := by decide +kernel
theorem dX8_looked_100 : decode cX8_looked 100 = .ok (.iaload, 1) := by decide +kernel
theorem dX8_looked_101 : decode cX8_looked 101 = .ok (.invokevirtual 263, 3) := by decide +kernel
theorem dX8_looked_104 : decode cX8_looked 104 = .ok (.ifCond .eq 43, 3) := by decide +kernel
theorem dX8_looked_107 : decode cX8_looked 107 = .ok (.aload_n 0, 1) := by decide +kernel
theorem dX8_looked_108 : decode cX8_looked 108 = .ok (.getfield 16, 3) := by decide +kernel
theorem dX8_looked_111 : decode cX8_looked 111 = .ok (.iload 5, 2) := by decide +kernel
theorem dX8_looked_113 : decode cX8_looked 113 = .ok (.iconst 1, 1) := by decide +kernel
theorem dX8_looked_114 : decode cX8_looked 114 = .ok (.iadd, 1) := by decide +kernel
theorem dX8_looked_115 : decode cX8_looked 115 = .ok (.iaload, 1) := by decide +kernel
theorem dX8_looked_116 : decode cX8_looked 116 = .ok (.i2l, 1) := by decide +kernel
theorem dX8_looked_117 : decode cX8_looked 117 = .ok (.lconst 0, 1) := by decide +kernel
theorem dX8_looked_118 : decode cX8_looked 118 = .ok (.ldc2_w 266, 3) := by decide +kernel
theorem dX8_looked_121 : decode cX8_looked 121 = .ok (.invokestatic 88, 3) := by decide +kernel
theorem dX8_looked_124 : decode cX8_looked 124 = .ok (.ifCond .eq 23, 3) := by decide +kernel
theorem dX8_looked_127 : decode cX8_looked 127 = .ok (.aload_n 0, 1) := by decide +kernel
theorem dX8_looked_128 : decode cX8_looked 128 = .ok (.getfield 16, 3) := by decide +kernel
theorem dX8_looked_131 : decode cX8_looked 131 = .ok (.iload 5, 2) := by decide +kernel
theorem dX8_looked_133 : decode cX8_looked 133 = .ok (.iconst 2, 1) := by decide +kernel
theorem dX8_looked_134 : decode cX8_looked 134 = .ok (.iadd, 1) := by decide +kernel
theorem dX8_looked_135 : decode cX8_looked 135 = .ok (.iaload, 1) := by decide +kernel
theorem dX8_looked_136 : decode cX8_looked 136 = .ok (.i2l, 1) := by decide +kernel
theorem dX8_looked_137 : decode cX8_looked 137 = .ok (.lconst 0, 1) := by decide +kernel
theorem dX8_looked_138 : decode cX8_looked 138 = .ok (.ldc2_w 266, 3) := by decide +kernel
theorem dX8_looked_141 : decode cX8_looked 141 = .ok (.invokestatic 88, 3) := by decide +kernel
theorem dX8_looked_144 : decode cX8_looked 144 = .ok (.ifCond .ne 6, 3) := by decide +kernel
theorem dX8_looked_147 : decode cX8_looked 147 = .ok (.ldc 98, 2) := by decide +kernel
theorem dX8_looked_149 : decode cX8_looked 149 = .ok (.ireturn, 1) := by decide +kernel
theorem dX8_looked_150 : decode cX8_looked 150 = .ok (.iinc 5 3, 3) := by decide +kernel
theorem dX8_looked_153 : decode cX8_looked 153 = .ok (.goto (-71), 3) := by decide +kernel
theorem dX8_looked_156 : decode cX8_looked 156 = .ok (.aload_n 0, 1) := by decide +kernel
theorem dX8_looked_157 : decode cX8_looked 157 = .ok (.iconst 0, 1) := by decide +kernel
theorem dX8_looked_158 : decode cX8_looked 158 = .ok (.putfield 82, 3) := by decide +kernel
theorem dX8_looked_161 : decode cX8_looked 161 = .ok (.iload 4, 2) := by decide +kernel
theorem dX8_looked_163 : decode cX8_looked 163 = .ok (.istore 5, 2) := by decide +kernel
theorem dX8_looked_165 : decode cX8_looked 165 = .ok (.iload 5, 2) := by decide +kernel
theorem dX8_looked_167 : decode cX8_looked 167 = .ok (.iload 4, 2) := by decide +kernel
theorem dX8_looked_169 : decode cX8_looked 169 = .ok (.iconst 3, 1) := by decide +kernel
theorem dX8_looked_170 : decode cX8_looked 170 = .ok (.iload_n 3, 1) := by decide +kernel
theorem dX8_looked_171 : decode cX8_looked 171 = .ok (.imul, 1) := by decide +kernel
theorem dX8_looked_172 : decode cX8_looked 172 = .ok (.iadd, 1) := by decide +kernel
theorem dX8_looked_173 : decode cX8_looked 173 = .ok (.if_icmp .ge 51, 3) := by decide +kernel
theorem dX8_looked_176 : decode cX8_looked 176 = .ok (.aload_n 0, 1) := by decide +kernel
theorem dX8_looked_177 : decode cX8_looked 177 = .ok (.getfield 25, 3) := by decide +kernel
theorem dX8_looked_180 : decode cX8_looked 180 = .ok (.aload_n 0, 1) := by decide +kernel
theorem dX8_looked_181 : decode cX8_looked 181 = .ok (.getfield 16, 3) := by decide +kernel
theorem dX8_looked_184 : decode cX8_looked 184 = .ok (.iload 5, 2) := by decide +kernel
theorem dX8_looked_186 : decode cX8_looked 186 = .ok (.iaload, 1) := by decide +kernel
theorem dX8_looked_187 : decode cX8_looked 187 = .ok (.aload_n 0, 1) := by decide +kernel
theorem dX8_looked_188 : decode cX8_looked 188 = .ok (.getfield 16, 3) := by decide +kernel
theorem dX8_looked_191 : decode cX8_looked 191 = .ok (.iload 5, 2) := by decide +kernel
theorem dX8_looked_193 : decode cX8_looked 193 = .ok (.iconst 1, 1) := by decide +kernel
theorem dX8_looked_194 : decode cX8_looked 194 = .ok (.iadd, 1) := by decide +kernel
theorem dX8_looked_195 : decode cX8_looked 195 = .ok (.iaload, 1) := by decide +kernel
theorem dX8_looked_196 : decode cX8_looked 196 = .ok (.iastore, 1) := by decide +kernel
theorem dX8_looked_197 : decode cX8_looked 197 = .ok (.aload_n 0, 1) := by decide +kernel
theorem dX8_looked_198 : decode cX8_looked 198 = .ok (.getfield 28, 3) := by decide +kernel
theorem dX8_looked_201 : decode cX8_looked 201 = .ok (.aload_n 0, 1) := by decide +kernel
theorem dX8_looked_202 : decode cX8_looked 202 = .ok (.getfield 16, 3) := by decide +kernel
theorem dX8_looked_205 : decode cX8_looked 205 = .ok (.iload 5, 2) := by decide +kernel
theorem dX8_looked_207 : decode cX8_looked 207 = .ok (.iaload, 1) := by decide +kernel
theorem dX8_looked_208 : decode cX8_looked 208 = .ok (.aload_n 0, 1) := by decide +kernel
theorem dX8_looked_209 : decode cX8_looked 209 = .ok (.getfield 16, 3) := by decide +kernel
theorem dX8_looked_212 : decode cX8_looked 212 = .ok (.iload 5, 2) := by decide +kernel
theorem dX8_looked_214 : decode cX8_looked 214 = .ok (.iconst 2, 1) := by decide +kernel
theorem dX8_looked_215 : decode cX8_looked 215 = .ok (.iadd, 1) := by decide +kernel
theorem dX8_looked_216 : decode cX8_looked 216 = .ok (.iaload, 1) := by decide +kernel
theorem dX8_looked_217 : decode cX8_looked 217 = .ok (.iastore, 1) := by decide +kernel
theorem dX8_looked_218 : decode cX8_looked 218 = .ok (.iinc 5 3, 3) := by decide +kernel
theorem dX8_looked_221 : decode cX8_looked 221 = .ok (.goto (-56), 3) := by decide +kernel
theorem dX8_looked_224 : decode cX8_looked 224 = .ok (.iload_n 3, 1) := by decide +kernel
theorem dX8_looked_225 : decode cX8_looked 225 = .ok (.ireturn, 1) := by decide +kernel
theorem dX8_fall_0 : decode cX8_fall 0 = .ok (.aload_n 0, 1) := by decide +kernel
theorem dX8_fall_1 : decode cX8_fall 1 = .ok (.iconst 0, 1) := by decide +kernel
theorem dX8_fall_2 : decode cX8_fall 2 = .ok (.putfield 78, 3) := by decide +kernel
theorem dX8_fall_5 : decode cX8_fall 5 = .ok (.aload_n 0, 1) := by decide +kernel
theorem dX8_fall_6 : decode cX8_fall 6 = .ok (.iload_n 1, 1) := by decide +kernel
theorem dX8_fall_7 : decode cX8_fall 7 = .ok (.invokevirtual 263, 3) := by decide +kernel
theorem dX8_fall_10 : decode cX8_fall 10 = .ok (.ifCond .eq 13, 3) := by decide +kernel
theorem dX8_fall_13 : decode cX8_fall 13 = .ok (.iload_n 2, 1) := by decide +kernel
theorem dX8_fall_14 : decode cX8_fall 14 = .ok (.i2l, 1) := by decide +kernel
theorem dX8_fall_15 : decode cX8_fall 15 = .ok (.lconst 0, 1) := by decide +kernel
theorem dX8_fall_16 : decode cX8_fall 16 = .ok (.lconst 1, 1) := by decide +kernel
theorem dX8_fall_17 : decode cX8_fall 17 = .ok (.invokestatic 88, 3) := by decide +kernel
theorem dX8_fall_20 : decode cX8_fall 20 = .ok (.ifCond .ne 6, 3) := by decide +kernel
theorem dX8_fall_23 : decode cX8_fall 23 = .ok (.ldc 98, 2) := by decide +kernel
theorem dX8_fall_25 : decode cX8_fall 25 = .ok (.ireturn, 1) := by decide +kernel
theorem dX8_fall_26 : decode cX8_fall 26 = .ok (.aload_n 0, 1) := by decide +kernel
theorem dX8_fall_27 : decode cX8_fall 27 = .ok (.getfield 31, 3) := by decide +kernel
theorem dX8_fall_30 : decode cX8_fall 30 = .ok (.iload_n 1, 1) := by decide +kernel
theorem dX8_fall_31 : decode cX8_fall 31 = .ok (.baload, 1) := by decide +kernel
theorem dX8_fall_32 : decode cX8_fall 32 = .ok (.ifCond .eq 7, 3) := by decide +kernel
theorem dX8_fall_35 : decode cX8_fall 35 = .ok (.iconst 1, 1) := by decide +kernel
theorem dX8_fall_36 : decode cX8_fall 36 = .ok (.goto 4, 3) := by decide +kernel
theorem dX8_fall_39 : decode cX8_fall 39 = .ok (.iconst 0, 1) := by decide +kernel
theorem dX8_fall_40 : decode cX8_fall 40 = .ok (.istore_n 3, 1) := by decide +kernel
theorem dX8_fall_41 : decode cX8_fall 41 = .ok (.aload_n 0, 1) := by decide +kernel
theorem dX8_fall_42 : decode cX8_fall 42 = .ok (.getfield 31, 3) := by decide +kernel
theorem dX8_fall_45 : decode cX8_fall 45 = .ok (.iload_n 1, 1) := by decide +kernel
theorem dX8_fall_46 : decode cX8_fall 46 = .ok (.iload_n 2, 1) := by decide +kernel
theorem dX8_fall_47 : decode cX8_fall 47 = .ok (.iconst 1, 1) := by decide +kernel
theorem dX8_fall_48 : decode cX8_fall 48 = .ok (.if_icmp .ne 7, 3) := by decide +kernel
theorem dX8_fall_51 : decode cX8_fall 51 = .ok (.iconst 1, 1) := by decide +kernel
theorem dX8_fall_52 : decode cX8_fall 52 = .ok (.goto 4, 3) := by decide +kernel
theorem dX8_fall_55 : decode cX8_fall 55 = .ok (.iconst 0, 1) := by decide +kernel
theorem dX8_fall_56 : decode cX8_fall 56 = .ok (.bastore, 1) := by decide +kernel
theorem dX8_fall_57 : decode cX8_fall 57 = .ok (.iload_n 3, 1) := by decide +kernel
theorem dX8_fall_58 : decode cX8_fall 58 = .ok (.ireturn, 1) := by decide +kernel
theorem dX8_day_0 : decode cX8_day 0 = .ok (.aload_n 0, 1) := by decide +kernel
theorem dX8_day_1 : decode cX8_day 1 = .ok (.iconst 0, 1) := by decide +kernel
theorem dX8_day_2 : decode cX8_day 2 = .ok (.putfield 78, 3) := by decide +kernel
theorem dX8_day_5 : decode cX8_day 5 = .ok (.iload_n 1, 1) := by decide +kernel
theorem dX8_day_6 : decode cX8_day 6 = .ok (.i2l, 1) := by decide +kernel
theorem dX8_day_7 : decode cX8_day 7 = .ok (.lconst 0, 1) := by decide +kernel
theorem dX8_day_8 : decode cX8_day 8 = .ok (.ldc2_w 266, 3) := by decide +kernel
theorem dX8_day_11 : decode cX8_day 11 = .ok (.invokestatic 88, 3) := by decide +kernel
theorem dX8_day_14 : decode cX8_day 14 = .ok (.ifCond .ne 6, 3) := by decide +kernel
theorem dX8_day_17 : decode cX8_day 17 = .ok (.ldc 98, 2) := by decide +kernel
theorem dX8_day_19 : decode cX8_day 19 = .ok (.ireturn, 1) := by decide +kernel
theorem dX8_day_20 : decode cX8_day 20 = .ok (.aload_n 0, 1) := by decide +kernel
theorem dX8_day_21 : decode cX8_day 21 = .ok (.getfield 207, 3) := by decide +kernel
theorem dX8_day_24 : decode cX8_day 24 = .ok (.istore_n 2, 1) := by decide +kernel
theorem dX8_day_25 : decode cX8_day 25 = .ok (.aload_n 0, 1) := by decide +kernel
theorem dX8_day_26 : decode cX8_day 26 = .ok (.iload_n 1, 1) := by decide +kernel
theorem dX8_day_27 : decode cX8_day 27 = .ok (.putfield 207, 3) := by decide +kernel
theorem dX8_day_30 : decode cX8_day 30 = .ok (.iload_n 2, 1) := by decide +kernel
theorem dX8_day_31 : decode cX8_day 31 = .ok (.ireturn, 1) := by decide +kernel
theorem dX8_weigh_0 : decode cX8_weigh 0 = .ok (.aload_n 0, 1) := by decide +kernel
theorem dX8_weigh_1 : decode cX8_weigh 1 = .ok (.iconst 0, 1) := by decide +kernel
theorem dX8_weigh_2 : decode cX8_weigh 2 = .ok (.putfield 78, 3) := by decide +kernel
theorem dX8_weigh_5 : decode cX8_weigh 5 = .ok (.aload_n 0, 1) := by decide +kernel
theorem dX8_weigh_6 : decode cX8_weigh 6 = .ok (.iload_n 1, 1) := by decide +kernel
theorem dX8_weigh_7 : decode cX8_weigh 7 = .ok (.invokevirtual 263, 3) := by decide +kernel
theorem dX8_weigh_10 : decode cX8_weigh 10 = .ok (.ifCond .eq 28, 3) := by decide +kernel
theorem dX8_weigh_13 : decode cX8_weigh 13 = .ok (.iload_n 2, 1) := by decide +kernel
theorem dX8_weigh_14 : decode cX8_weigh 14 = .ok (.i2l, 1) := by decide +kernel
theorem dX8_weigh_15 : decode cX8_weigh 15 = .ok (.lconst 0, 1) := by decide +kernel
theorem dX8_weigh_16 : decode cX8_weigh 16 = .ok (.ldc2_w 268, 3) := by decide +kernel
theorem dX8_weigh_19 : decode cX8_weigh 19 = .ok (.invokestatic 88, 3) := by decide +kernel
theorem dX8_weigh_22 : decode cX8_weigh 22 = .ok (.ifCond .eq 16, 3) := by decide +kernel
theorem dX8_weigh_25 : decode cX8_weigh 25 = .ok (.iload_n 3, 1) := by decide +kernel
theorem dX8_weigh_26 : decode cX8_weigh 26 = .ok (.i2l, 1) := by decide +kernel
theorem dX8_weigh_27 : decode cX8_weigh 27 = .ok (.iload_n 2, 1) := by decide +kernel
theorem dX8_weigh_28 : decode cX8_weigh 28 = .ok (.i2l, 1) := by decide +kernel
theorem dX8_weigh_29 : decode cX8_weigh 29 = .ok (.ldc2_w 268, 3) := by decide +kernel
theorem dX8_weigh_32 : decode cX8_weigh 32 = .ok (.invokestatic 88, 3) := by decide +kernel
theorem dX8_weigh_35 : decode cX8_weigh 35 = .ok (.ifCond .ne 6, 3) := by decide +kernel
theorem dX8_weigh_38 : decode cX8_weigh 38 = .ok (.ldc 98, 2) := by decide +kernel
theorem dX8_weigh_40 : decode cX8_weigh 40 = .ok (.ireturn, 1) := by decide +kernel
theorem dX8_weigh_41 : decode cX8_weigh 41 = .ok (.iconst 0, 1) := by decide +kernel
theorem dX8_weigh_42 : decode cX8_weigh 42 = .ok (.istore 4, 2) := by decide +kernel
theorem dX8_weigh_44 : decode cX8_weigh 44 = .ok (.iload 4, 2) := by decide +kernel
theorem dX8_weigh_46 : decode cX8_weigh 46 = .ok (.aload_n 0, 1) := by decide +kernel
theorem dX8_weigh_47 : decode cX8_weigh 47 = .ok (.getfield 270, 3) := by decide +kernel
theorem dX8_weigh_50 : decode cX8_weigh 50 = .ok (.if_icmp .ge 23, 3) := by decide +kernel
theorem dX8_weigh_53 : decode cX8_weigh 53 = .ok (.aload_n 0, 1) := by decide +kernel
theorem dX8_weigh_54 : decode cX8_weigh 54 = .ok (.getfield 53, 3) := by decide +kernel
theorem dX8_weigh_57 : decode cX8_weigh 57 = .ok (.iload 4, 2) := by decide +kernel
theorem dX8_weigh_59 : decode cX8_weigh 59 = .ok (.iaload, 1) := by decide +kernel
theorem dX8_weigh_60 : decode cX8_weigh 60 = .ok (.iload_n 1, 1) := by decide +kernel
theorem dX8_weigh_61 : decode cX8_weigh 61 = .ok (.if_icmp .ne 6, 3) := by decide +kernel
theorem dX8_weigh_64 : decode cX8_weigh 64 = .ok (.ldc 247, 2) := by decide +kernel
theorem dX8_weigh_66 : decode cX8_weigh 66 = .ok (.ireturn, 1) := by decide +kernel
theorem dX8_weigh_67 : decode cX8_weigh 67 = .ok (.iinc 4 1, 3) := by decide +kernel
theorem dX8_weigh_70 : decode cX8_weigh 70 = .ok (.goto (-26), 3) := by decide +kernel
theorem dX8_weigh_73 : decode cX8_weigh 73 = .ok (.aload_n 0, 1) := by decide +kernel
theorem dX8_weigh_74 : decode cX8_weigh 74 = .ok (.getfield 270, 3) := by decide +kernel
theorem dX8_weigh_77 : decode cX8_weigh 77 = .ok (.iconst 3, 1) := by decide +kernel
theorem dX8_weigh_78 : decode cX8_weigh 78 = .ok (.if_icmp .ne 6, 3) := by decide +kernel
theorem dX8_weigh_81 : decode cX8_weigh 81 = .ok (.ldc 108, 2) := by decide +kernel
theorem dX8_weigh_83 : decode cX8_weigh 83 = .ok (.ireturn, 1) := by decide +kernel
theorem dX8_weigh_84 : decode cX8_weigh 84 = .ok (.aload_n 0, 1) := by decide +kernel
theorem dX8_weigh_85 : decode cX8_weigh 85 = .ok (.getfield 53, 3) := by decide +kernel
theorem dX8_weigh_88 : decode cX8_weigh 88 = .ok (.aload_n 0, 1) := by decide +kernel
theorem dX8_weigh_89 : decode cX8_weigh 89 = .ok (.getfield 270, 3) := by decide +kernel
theorem dX8_weigh_92 : decode cX8_weigh 92 = .ok (.iload_n 1, 1) := by decide +kernel
theorem dX8_weigh_93 : decode cX8_weigh 93 = .ok (.iastore, 1) := by decide +kernel
theorem dX8_weigh_94 : decode cX8_weigh 94 = .ok (.aload_n 0, 1) := by decide +kernel
theorem dX8_weigh_95 : decode cX8_weigh 95 = .ok (.getfield 56, 3) := by decide +kernel
theorem dX8_weigh_98 : decode cX8_weigh 98 = .ok (.aload_n 0, 1) := by decide +kernel
theorem dX8_weigh_99 : decode cX8_weigh 99 = .ok (.getfield 270, 3) := by decide +kernel
theorem dX8_weigh_102 : decode cX8_weigh 102 = .ok (.iconst 1, 1) := by decide +kernel
theorem dX8_weigh_103 : decode cX8_weigh 103 = .ok (.bastore, 1) := by decide +kernel
theorem dX8_weigh_104 : decode cX8_weigh 104 = .ok (.aload_n 0, 1) := by decide +kernel
theorem dX8_weigh_105 : decode cX8_weigh 105 = .ok (.getfield 59, 3) := by decide +kernel
theorem dX8_weigh_108 : decode cX8_weigh 108 = .ok (.aload_n 0, 1) := by decide +kernel
theorem dX8_weigh_109 : decode cX8_weigh 109 = .ok (.getfield 270, 3) := by decide +kernel
theorem dX8_weigh_112 : decode cX8_weigh 112 = .ok (.iload_n 2, 1) := by decide +kernel
theorem dX8_weigh_113 : decode cX8_weigh 113 = .ok (.iastore, 1) := by decide +kernel
theorem dX8_weigh_114 : decode cX8_weigh 114 = .ok (.aload_n 0, 1) := by decide +kernel
theorem dX8_weigh_115 : decode cX8_weigh 115 = .ok (.getfield 62, 3) := by decide +kernel
theorem dX8_weigh_118 : decode cX8_weigh 118 = .ok (.aload_n 0, 1) := by decide +kernel
theorem dX8_weigh_119 : decode cX8_weigh 119 = .ok (.getfield 270, 3) := by decide +kernel
theorem dX8_weigh_122 : decode cX8_weigh 122 = .ok (.iload_n 3, 1) := by decide +kernel
theorem dX8_weigh_123 : decode cX8_weigh 123 = .ok (.iastore, 1) := by decide +kernel
theorem dX8_weigh_124 : decode cX8_weigh 124 = .ok (.aload_n 0, 1) := by decide +kernel
theorem dX8_weigh_125 : decode cX8_weigh 125 = .ok (.dup, 1) := by decide +kernel
theorem dX8_weigh_126 : decode cX8_weigh 126 = .ok (.getfield 270, 3) := by decide +kernel
theorem dX8_weigh_129 : decode cX8_weigh 129 = .ok (.iconst 1, 1) := by decide +kernel
theorem dX8_weigh_130 : decode cX8_weigh 130 = .ok (.iadd, 1) := by decide +kernel
theorem dX8_weigh_131 : decode cX8_weigh 131 = .ok (.putfield 270, 3) := by decide +kernel
theorem dX8_weigh_134 : decode cX8_weigh 134 = .ok (.aload_n 0, 1) := by decide +kernel
theorem dX8_weigh_135 : decode cX8_weigh 135 = .ok (.getfield 270, 3) := by decide +kernel
theorem dX8_weigh_138 : decode cX8_weigh 138 = .ok (.ireturn, 1) := by decide +kernel
theorem dX8_pair_0 : decode cX8_pair 0 = .ok (.aload_n 0, 1) := by decide +kernel
theorem dX8_pair_1 : decode cX8_pair 1 = .ok (.iconst 0, 1) := by decide +kernel
theorem dX8_pair_2 : decode cX8_pair 2 = .ok (.putfield 78, 3) := by decide +kernel
theorem dX8_pair_5 : decode cX8_pair 5 = .ok (.iload_n 1, 1) := by decide +kernel
theorem dX8_pair_6 : decode cX8_pair 6 = .ok (.i2l, 1) := by decide +kernel
theorem dX8_pair_7 : decode cX8_pair 7 = .ok (.lconst 0, 1) := by decide +kernel
theorem dX8_pair_8 : decode cX8_pair 8 = .ok (.aload_n 0, 1) := by decide +kernel
theorem dX8_pair_9 : decode cX8_pair 9 = .ok (.getfield 270, 3) := by decide +kernel
theorem dX8_pair_12 : decode cX8_pair 12 = .ok (.iconst 1, 1) := by decide +kernel
theorem dX8_pair_13 : decode cX8_pair 13 = .ok (.isub, 1) := by decide +kernel
theorem dX8_pair_14 : decode cX8_pair 14 = .ok (.i2l, 1) := by decide +kernel
theorem dX8_pair_15 : decode cX8_pair 15 = .ok (.invokestatic 88, 3) := by decide +kernel
theorem dX8_pair_18 : decode cX8_pair 18 = .ok (.ifCond .eq 50, 3) := by decide +kernel
theorem dX8_pair_21 : decode cX8_pair 21 = .ok (.iload_n 2, 1) := by decide +kernel
theorem dX8_pair_22 : decode cX8_pair 22 = .ok (.i2l, 1) := by decide +kernel
theorem dX8_pair_23 : decode cX8_pair 23 = .ok (.lconst 0, 1) := by decide +kernel
theorem dX8_pair_24 : decode cX8_pair 24 = .ok (.aload_n 0, 1) := by decide +kernel
theorem dX8_pair_25 : decode cX8_pair 25 = .ok (.getfield 270, 3) := by decide +kernel
theorem dX8_pair_28 : decode cX8_pair 28 = .ok (.iconst 1, 1) := by decide +kernel
theorem dX8_pair_29 : decode cX8_pair 29 = .ok (.isub, 1) := by decide +kernel
theorem dX8_pair_30 : decode cX8_pair 30 = .ok (.i2l, 1) := by decide +kernel
theorem dX8_pair_31 : decode cX8_pair 31 = .ok (.invokestatic 88, 3) := by decide +kernel
theorem dX8_pair_34 : decode cX8_pair 34 = .ok (.ifCond .eq 34, 3) := by decide +kernel
theorem dX8_pair_37 : decode cX8_pair 37 = .ok (.iload_n 1, 1) := by decide +kernel
theorem dX8_pair_38 : decode cX8_pair 38 = .ok (.iload_n 2, 1) := by decide +kernel
theorem dX8_pair_39 : decode cX8_pair 39 = .ok (.if_icmp .eq 29, 3) := by decide +kernel
theorem dX8_pair_42 : decode cX8_pair 42 = .ok (.iload_n 3, 1) := by decide +kernel
theorem dX8_pair_43 : decode cX8_pair 43 = .ok (.i2l, 1) := by decide +kernel
theorem dX8_pair_44 : decode cX8_pair 44 = .ok (.lconst 0, 1) := by decide +kernel
theorem dX8_pair_45 : decode cX8_pair 45 = .ok (.ldc2_w 268, 3) := by decide +kernel
theorem dX8_pair_48 : decode cX8_pair 48 = .ok (.invokestatic 88, 3) := by decide +kernel
theorem dX8_pair_51 : decode cX8_pair 51 = .ok (.ifCond .eq 17, 3) := by decide +kernel
theorem dX8_pair_54 : decode cX8_pair 54 = .ok (.iload 4, 2) := by decide +kernel
theorem dX8_pair_56 : decode cX8_pair 56 = .ok (.i2l, 1) := by decide +kernel
theorem dX8_pair_57 : decode cX8_pair 57 = .ok (.iload_n 3, 1) := by decide +kernel
theorem dX8_pair_58 : decode cX8_pair 58 = .ok (.i2l, 1) := by decide +kernel
theorem dX8_pair_59 : decode cX8_pair 59 = .ok (.ldc2_w 268, 3) := by decide +kernel
theorem dX8_pair_62 : decode cX8_pair 62 = .ok (.invokestatic 88, 3) := by decide +kernel
theorem dX8_pair_65 : decode cX8_pair 65 = .ok (.ifCond .ne 6, 3) := by decide +kernel
theorem dX8_pair_68 : decode cX8_pair 68 = .ok (.ldc 98, 2) := by decide +kernel
theorem dX8_pair_70 : decode cX8_pair 70 = .ok (.ireturn, 1) := by decide +kernel
theorem dX8_pair_71 : decode cX8_pair 71 = .ok (.aload_n 0, 1) := by decide +kernel
theorem dX8_pair_72 : decode cX8_pair 72 = .ok (.getfield 56, 3) := by decide +kernel
theorem dX8_pair_75 : decode cX8_pair 75 = .ok (.iconst 2, 1) := by decide +kernel
theorem dX8_pair_76 : decode cX8_pair 76 = .ok (.iload_n 1, 1) := by decide +kernel
theorem dX8_pair_77 : decode cX8_pair 77 = .ok (.iadd, 1) := by decide +kernel
theorem dX8_pair_78 : decode cX8_pair 78 = .ok (.iload_n 2, 1) := by decide +kernel
theorem dX8_pair_79 : decode cX8_pair 79 = .ok (.iadd, 1) := by decide +kernel
theorem dX8_pair_80 : decode cX8_pair 80 = .ok (.iconst 1, 1) := by decide +kernel
theorem dX8_pair_81 : decode cX8_pair 81 = .ok (.bastore, 1) := by decide +kernel
theorem dX8_pair_82 : decode cX8_pair 82 = .ok (.aload_n 0, 1) := by decide +kernel
theorem dX8_pair_83 : decode cX8_pair 83 = .ok (.getfield 59, 3) := by decide +kernel
theorem dX8_pair_86 : decode cX8_pair 86 = .ok (.iconst 2, 1) := by decide +kernel
theorem dX8_pair_87 : decode cX8_pair 87 = .ok (.iload_n 1, 1) := by decide +kernel
theorem dX8_pair_88 : decode cX8_pair 88 = .ok (.iadd, 1) := by decide +kernel
theorem dX8_pair_89 : decode cX8_pair 89 = .ok (.iload_n 2, 1) := by decide +kernel
theorem dX8_pair_90 : decode cX8_pair 90 = .ok (.iadd, 1) := by decide +kernel
theorem dX8_pair_91 : decode cX8_pair 91 = .ok (.iload_n 3, 1) := by decide +kernel
theorem dX8_pair_92 : decode cX8_pair 92 = .ok (.iastore, 1) := by decide +kernel
theorem dX8_pair_93 : decode cX8_pair 93 = .ok (.aload_n 0, 1) := by decide +kernel
theorem dX8_pair_94 : decode cX8_pair 94 = .ok (.getfield 62, 3) := by decide +kernel
theorem dX8_pair_97 : decode cX8_pair 97 = .ok (.iconst 2, 1) := by decide +kernel
theorem dX8_pair_98 : decode cX8_pair 98 = .ok (.iload_n 1, 1) := by decide +kernel
theorem dX8_pair_99 : decode cX8_pair 99 = .ok (.iadd, 1) := by decide +kernel
theorem dX8_pair_100 : decode cX8_pair 100 = .ok (.iload_n 2, 1) := by decide +kernel
theorem dX8_pair_101 : decode cX8_pair 101 = .ok (.iadd, 1) := by decide +kernel
theorem dX8_pair_102 : decode cX8_pair 102 = .ok (.iload 4, 2) := by decide +kernel
theorem dX8_pair_104 : decode cX8_pair 104 = .ok (.iastore, 1) := by decide +kernel
theorem dX8_pair_105 : decode cX8_pair 105 = .ok (.iconst 1, 1) := by decide +kernel
theorem dX8_pair_106 : decode cX8_pair 106 = .ok (.ireturn, 1) := by decide +kernel
theorem dX8_unweigh_0 : decode cX8_unweigh 0 = .ok (.aload_n 0, 1) := by decide +kernel
theorem dX8_unweigh_1 : decode cX8_unweigh 1 = .ok (.iconst 0, 1) := by decide +kernel
theorem dX8_unweigh_2 : decode cX8_unweigh 2 = .ok (.putfield 78, 3) := by decide +kernel
theorem dX8_unweigh_5 : decode cX8_unweigh 5 = .ok (.aload_n 0, 1) := by decide +kernel
theorem dX8_unweigh_6 : decode cX8_unweigh 6 = .ok (.getfield 270, 3) := by decide +kernel
theorem dX8_unweigh_9 : decode cX8_unweigh 9 = .ok (.istore_n 1, 1) := by decide +kernel
theorem dX8_unweigh_10 : decode cX8_unweigh 10 = .ok (.aload_n 0, 1) := by decide +kernel
theorem dX8_unweigh_11 : decode cX8_unweigh 11 = .ok (.iconst 0, 1) := by decide +kernel
theorem dX8_unweigh_12 : decode cX8_unweigh 12 = .ok (.putfield 270, 3) := by decide +kernel
theorem dX8_unweigh_15 : decode cX8_unweigh 15 = .ok (.iconst 0, 1) := by decide +kernel
theorem dX8_unweigh_16 : decode cX8_unweigh 16 = .ok (.istore_n 2, 1) := by decide +kernel
theorem dX8_unweigh_17 : decode cX8_unweigh 17 = .ok (.iload_n 2, 1) := by decide +kernel
theorem dX8_unweigh_18 : decode cX8_unweigh 18 = .ok (.bipush 6, 2) := by decide +kernel
theorem dX8_unweigh_20 : decode cX8_unweigh 20 = .ok (.if_icmp .ge 16, 3) := by decide +kernel
theorem dX8_unweigh_23 : decode cX8_unweigh 23 = .ok (.aload_n 0, 1) := by decide +kernel
theorem dX8_unweigh_24 : decode cX8_unweigh 24 = .ok (.getfield 56, 3) := by decide +kernel
theorem dX8_unweigh_27 : decode cX8_unweigh 27 = .ok (.iload_n 2, 1) := by decide +kernel
theorem dX8_unweigh_28 : decode cX8_unweigh 28 = .ok (.iconst 0, 1) := by decide +kernel
theorem dX8_unweigh_29 : decode cX8_unweigh 29 = .ok (.bastore, 1) := by decide +kernel
theorem dX8_unweigh_30 : decode cX8_unweigh 30 = .ok (.iinc 2 1, 3) := by decide +kernel
theorem dX8_unweigh_33 : decode cX8_unweigh 33 = .ok (.goto (-16), 3) := by decide +kernel
theorem dX8_unweigh_36 : decode cX8_unweigh 36 = .ok (.iload_n 1, 1) := by decide +kernel
theorem dX8_unweigh_37 : decode cX8_unweigh 37 = .ok (.ireturn, 1) := by decide +kernel
theorem dX8_isOfWorld_0 : decode cX8_isOfWorld 0 = .ok (.iload_n 0, 1) := by decide +kernel
theorem dX8_isOfWorld_1 : decode cX8_isOfWorld 1 = .ok (.iconst 3, 1) := by decide +kernel
theorem dX8_isOfWorld_2 : decode cX8_isOfWorld 2 = .ok (.if_icmp .ge 9, 3) := by decide +kernel
theorem dX8_isOfWorld_5 : decode cX8_isOfWorld 5 = .ok (.iconst 1, 1) := by decide +kernel
theorem dX8_isOfWorld_6 : decode cX8_isOfWorld 6 = .ok (.iload_n 0, 1) := by decide +kernel
theorem dX8_isOfWorld_7 : decode cX8_isOfWorld 7 = .ok (.ishl, 1) := by decide +kernel
theorem dX8_isOfWorld_8 : decode cX8_isOfWorld 8 = .ok (.goto 23, 3) := by decide +kernel
theorem dX8_isOfWorld_11 : decode cX8_isOfWorld 11 = .ok (.iload_n 0, 1) := by decide +kernel
theorem dX8_isOfWorld_12 : decode cX8_isOfWorld 12 = .ok (.iconst 3, 1) := by decide +kernel
theorem dX8_isOfWorld_13 : decode cX8_isOfWorld 13 = .ok (.if_icmp .ne 7, 3) := by decide +kernel
theorem dX8_isOfWorld_16 : decode cX8_isOfWorld 16 = .ok (.iconst 3, 1) := by decide +kernel
theorem dX8_isOfWorld_17 : decode cX8_isOfWorld 17 = .ok (.goto 14, 3) := by decide +kernel
theorem dX8_isOfWorld_20 : decode cX8_isOfWorld 20 = .ok (.iload_n 0, 1) := by decide +kernel
theorem dX8_isOfWorld_21 : decode cX8_isOfWorld 21 = .ok (.iconst 4, 1) := by decide +kernel
theorem dX8_isOfWorld_22 : decode cX8_isOfWorld 22 = .ok (.if_icmp .ne 7, 3) := by decide +kernel
theorem dX8_isOfWorld_25 : decode cX8_isOfWorld 25 = .ok (.iconst 5, 1) := by decide +kernel
theorem dX8_isOfWorld_26 : decode cX8_isOfWorld 26 = .ok (.goto 5, 3) := by decide +kernel
theorem dX8_isOfWorld_29 : decode cX8_isOfWorld 29 = .ok (.bipush 6, 2) := by decide +kernel
theorem dX8_isOfWorld_31 : decode cX8_isOfWorld 31 = .ok (.istore_n 2, 1) := by decide +kernel
theorem dX8_isOfWorld_32 : decode cX8_isOfWorld 32 = .ok (.iload_n 1, 1) := by decide +kernel
theorem dX8_isOfWorld_33 : decode cX8_isOfWorld 33 = .ok (.iload_n 2, 1) := by decide +kernel
theorem dX8_isOfWorld_34 : decode cX8_isOfWorld 34 = .ok (.iand, 1) := by decide +kernel
theorem dX8_isOfWorld_35 : decode cX8_isOfWorld 35 = .ok (.iload_n 2, 1) := by decide +kernel
theorem dX8_isOfWorld_36 : decode cX8_isOfWorld 36 = .ok (.if_icmp .ne 7, 3) := by decide +kernel
theorem dX8_isOfWorld_39 : decode cX8_isOfWorld 39 = .ok (.iconst 1, 1) := by decide +kernel
theorem dX8_isOfWorld_40 : decode cX8_isOfWorld 40 = .ok (.goto 4, 3) := by decide +kernel
theorem dX8_isOfWorld_43 : decode cX8_isOfWorld 43 = .ok (.iconst 0, 1) := by decide +kernel
theorem dX8_isOfWorld_44 : decode cX8_isOfWorld 44 = .ok (.ireturn, 1) := by decide +kernel
theorem dX8_at_0 : decode cX8_at 0 = .ok (.aload_n 0, 1) := by decide +kernel
theorem dX8_at_1 : decode cX8_at 1 = .ok (.getfield 65, 3) := by decide +kernel
theorem dX8_at_4 : decode cX8_at 4 = .ok (.bipush 8, 2) := by decide +kernel
theorem dX8_at_6 : decode cX8_at 6 = .ok (.iload_n 1, 1) := by decide +kernel
theorem dX8_at_7 : decode cX8_at 7 = .ok (.imul, 1) := by decide +kernel
theorem dX8_at_8 : decode cX8_at 8 = .ok (.iload_n 2, 1) := by decide +kernel
theorem dX8_at_9 : decode cX8_at 9 = .ok (.iadd, 1) := by decide +kernel
theorem dX8_at_10 : decode cX8_at 10 = .ok (.laload, 1) := by decide +kernel
theorem dX8_at_11 : decode cX8_at 11 = .ok (.lreturn, 1) := by decide +kernel
theorem dX8_put_0 : decode cX8_put 0 = .ok (.aload_n 0, 1) := by decide +kernel
theorem dX8_put_1 : decode cX8_put 1 = .ok (.getfield 65, 3) := by decide +kernel
theorem dX8_put_4 : decode cX8_put 4 = .ok (.bipush 8, 2) := by decide +kernel
theorem dX8_put_6 : decode cX8_put 6 = .ok (.iload_n 1, 1) := by decide +kernel
theorem dX8_put_7 : decode cX8_put 7 = .ok (.imul, 1) := by decide +kernel
theorem dX8_put_8 : decode cX8_put 8 = .ok (.iload_n 2, 1) := by decide +kernel
theorem dX8_put_9 : decode cX8_put 9 = .ok (.iadd, 1) := by decide +kernel
theorem dX8_put_10 : decode cX8_put 10 = .ok (.lload_n 3, 1) := by decide +kernel
theorem dX8_put_11 : decode cX8_put 11 = .ok (.lastore, 1) := by decide +kernel
theorem dX8_put_12 : decode cX8_put 12 = .ok (.return_, 1) := by decide +kernel
theorem dX8_turn_0 : decode cX8_turn 0 = .ok (.aload_n 0, 1) := by decide +kernel
theorem dX8_turn_1 : decode cX8_turn 1 = .ok (.iload_n 1, 1) := by decide +kernel
theorem dX8_turn_2 : decode cX8_turn 2 = .ok (.iload_n 2, 1) := by decide +kernel
theorem dX8_turn_3 : decode cX8_turn 3 = .ok (.invokevirtual 273, 3) := by decide +kernel
theorem dX8_turn_6 : decode cX8_turn 6 = .ok (.lstore_n 3, 1) := by decide +kernel
theorem dX8_turn_7 : decode cX8_turn 7 = .ok (.iconst 0, 1) := by decide +kernel
theorem dX8_turn_8 : decode cX8_turn 8 = .ok (.istore 5, 2) := by decide +kernel
theorem dX8_turn_10 : decode cX8_turn 10 = .ok (.iload 5, 2) := by decide +kernel
theorem dX8_turn_12 : decode cX8_turn 12 = .ok (.aload_n 0, 1) := by decide +kernel
theorem dX8_turn_13 : decode cX8_turn 13 = .ok (.getfield 277, 3) := by decide +kernel
theorem dX8_turn_16 : decode cX8_turn 16 = .ok (.if_icmp .gt 78, 3) := by decide +kernel
theorem dX8_turn_19 : decode cX8_turn 19 = .ok (.iconst 0, 1) := by decide +kernel
theorem dX8_turn_20 : decode cX8_turn 20 = .ok (.istore 6, 2) := by decide +kernel
theorem dX8_turn_22 : decode cX8_turn 22 = .ok (.iload 6, 2) := by decide +kernel
theorem dX8_turn_24 : decode cX8_turn 24 = .ok (.aload_n 0, 1) := by decide +kernel
theorem dX8_turn_25 : decode cX8_turn 25 = .ok (.getfield 280, 3) := by decide +kernel
theorem dX8_turn_28 : decode cX8_turn 28 = .ok (.if_icmp .gt 60, 3) := by decide +kernel
theorem dX8_turn_31 : decode cX8_turn 31 = .ok (.iload 5, 2) := by decide +kernel
theorem dX8_turn_33 : decode cX8_turn 33 = .ok (.iload_n 1, 1) := by decide +kernel
theorem dX8_turn_34 : decode cX8_turn 34 = .ok (.if_icmp .eq 48, 3) := by decide +kernel
theorem dX8_turn_37 : decode cX8_turn 37 = .ok (.iload 6, 2) := by decide +kernel
theorem dX8_turn_39 : decode cX8_turn 39 = .ok (.iload_n 2, 1) := by decide +kernel
theorem dX8_turn_40 : decode cX8_turn 40 = .ok (.if_icmp .eq 42, 3) := by decide +kernel
theorem dX8_turn_43 : decode cX8_turn 43 = .ok (.aload_n 0, 1) := by decide +kernel
theorem dX8_turn_44 : decode cX8_turn 44 = .ok (.iload 5, 2) := by decide +kernel
theorem dX8_turn_46 : decode cX8_turn 46 = .ok (.iload 6, 2) := by decide +kernel
theorem dX8_turn_48 : decode cX8_turn 48 = .ok (.aload_n 0, 1) := by decide +kernel
theorem dX8_turn_49 : decode cX8_turn 49 = .ok (.iload 5, 2) := by decide +kernel
theorem dX8_turn_51 : decode cX8_turn 51 = .ok (.iload 6, 2) := by decide +kernel
theorem dX8_turn_53 : decode cX8_turn 53 = .ok (.invokevirtual 273, 3) := by decide +kernel
theorem dX8_turn_56 : decode cX8_turn 56 = .ok (.lload_n 3, 1) := by decide +kernel
theorem dX8_turn_57 : decode cX8_turn 57 = .ok (.lmul, 1) := by decide +kernel
theorem dX8_turn_58 : decode cX8_turn 58 = .ok (.aload_n 0, 1) := by decide +kernel
theorem dX8_turn_59 : decode cX8_turn 59 = .ok (.iload 5, 2) := by decide +kernel
theorem dX8_turn_61 : decode cX8_turn 61 = .ok (.iload_n 2, 1) := by decide +kernel
theorem dX8_turn_62 : decode cX8_turn 62 = .ok (.invokevirtual 273, 3) := by decide +kernel
theorem dX8_turn_65 : decode cX8_turn 65 = .ok (.aload_n 0, 1) := by decide +kernel
theorem dX8_turn_66 : decode cX8_turn 66 = .ok (.iload_n 1, 1) := by decide +kernel
theorem dX8_turn_67 : decode cX8_turn 67 = .ok (.iload 6, 2) := by decide +kernel
theorem dX8_turn_69 : decode cX8_turn 69 = .ok (.invokevirtual 273, 3) := by decide +kernel
theorem dX8_turn_72 : decode cX8_turn 72 = .ok (.lmul, 1) := by decide +kernel
theorem dX8_turn_73 : decode cX8_turn 73 = .ok (.lsub, 1) := by decide +kernel
theorem dX8_turn_74 : decode cX8_turn 74 = .ok (.aload_n 0, 1) := by decide +kernel
theorem dX8_turn_75 : decode cX8_turn 75 = .ok (.getfield 283, 3) := by decide +kernel
theorem dX8_turn_78 : decode cX8_turn 78 = .ok (.ldiv, 1) := by decide +kernel
theorem dX8_turn_79 : decode cX8_turn 79 = .ok (.invokevirtual 287, 3) := by decide +kernel
theorem dX8_turn_82 : decode cX8_turn 82 = .ok (.iinc 6 1, 3) := by decide +kernel
theorem dX8_turn_85 : decode cX8_turn 85 = .ok (.goto (-63), 3) := by decide +kernel
theorem dX8_turn_88 : decode cX8_turn 88 = .ok (.iinc 5 1, 3) := by decide +kernel
theorem dX8_turn_91 : decode cX8_turn 91 = .ok (.goto (-81), 3) := by decide +kernel
theorem dX8_turn_94 : decode cX8_turn 94 = .ok (.iconst 0, 1) := by decide +kernel
theorem dX8_turn_95 : decode cX8_turn 95 = .ok (.istore 5, 2) := by decide +kernel
theorem dX8_turn_97 : decode cX8_turn 97 = .ok (.iload 5, 2) := by decide +kernel
theorem dX8_turn_99 : decode cX8_turn 99 = .ok (.aload_n 0, 1) := by decide +kernel
theorem dX8_turn_100 : decode cX8_turn 100 = .ok (.getfield 277, 3) := by decide +kernel
theorem dX8_turn_103 : decode cX8_turn 103 = .ok (.if_icmp .gt 37, 3) := by decide +kernel
theorem dX8_turn_106 : decode cX8_turn 106 = .ok (.aload_n 0, 1) := by decide +kernel
theorem dX8_turn_107 : decode cX8_turn 107 = .ok (.iload 5, 2) := by decide +kernel
theorem dX8_turn_109 : decode cX8_turn 109 = .ok (.iload_n 2, 1) := by decide +kernel
theorem dX8_turn_110 : decode cX8_turn 110 = .ok (.iload 5, 2) := by decide +kernel
theorem dX8_turn_112 : decode cX8_turn 112 = .ok (.iload_n 1, 1) := by decide +kernel
theorem dX8_turn_113 : decode cX8_turn 113 = .ok (.if_icmp .ne 10, 3) := by decide +kernel
theorem dX8_turn_116 : decode cX8_turn 116 = .ok (.aload_n 0, 1) := by decide +kernel
theorem dX8_turn_117 : decode cX8_turn 117 = .ok (.getfield 283, 3) := by decide +kernel
theorem dX8_turn_120 : decode cX8_turn 120 = .ok (.goto 11, 3) := by decide +kernel
theorem dX8_turn_123 : decode cX8_turn 123 = .ok (.aload_n 0, 1) := by decide +kernel
theorem dX8_turn_124 : decode cX8_turn 124 = .ok (.iload 5, 2) := by decide +kernel
theorem dX8_turn_126 : decode cX8_turn 126 = .ok (.iload_n 2, 1) := by decide +kernel
theorem dX8_turn_127 : decode cX8_turn 127 = .ok (.invokevirtual 273, 3) := by decide +kernel
theorem dX8_turn_130 : decode cX8_turn 130 = .ok (.lneg, 1) := by decide +kernel
theorem dX8_turn_131 : decode cX8_turn 131 = .ok (.invokevirtual 287, 3) := by decide +kernel
theorem dX8_turn_134 : decode cX8_turn 134 = .ok (.iinc 5 1, 3) := by decide +kernel
theorem dX8_turn_137 : decode cX8_turn 137 = .ok (.goto (-40), 3) := by decide +kernel
theorem dX8_turn_140 : decode cX8_turn 140 = .ok (.aload_n 0, 1) := by decide +kernel
theorem dX8_turn_141 : decode cX8_turn 141 = .ok (.lload_n 3, 1) := by decide +kernel
theorem dX8_turn_142 : decode cX8_turn 142 = .ok (.putfield 283, 3) := by decide +kernel
theorem dX8_turn_145 : decode cX8_turn 145 = .ok (.lload_n 3, 1) := by decide +kernel
theorem dX8_turn_146 : decode cX8_turn 146 = .ok (.lconst 0, 1) := by decide +kernel
theorem dX8_turn_147 : decode cX8_turn 147 = .ok (.lcmp, 1) := by decide +kernel
theorem dX8_turn_148 : decode cX8_turn 148 = .ok (.ifCond .ge 48, 3) := by decide +kernel
theorem dX8_turn_151 : decode cX8_turn 151 = .ok (.aload_n 0, 1) := by decide +kernel
theorem dX8_turn_152 : decode cX8_turn 152 = .ok (.lload_n 3, 1) := by decide +kernel
theorem dX8_turn_153 : decode cX8_turn 153 = .ok (.lneg, 1) := by decide +kernel
theorem dX8_turn_154 : decode cX8_turn 154 = .ok (.putfield 283, 3) := by decide +kernel
theorem dX8_turn_157 : decode cX8_turn 157 = .ok (.iconst 0, 1) := by decide +kernel
theorem dX8_turn_158 : decode cX8_turn 158 = .ok (.istore 5, 2) := by decide +kernel
theorem dX8_turn_160 : decode cX8_turn 160 = .ok (.iload 5, 2) := by decide +kernel
theorem dX8_turn_162 : decode cX8_turn 162 = .ok (.bipush 8, 2) := by decide +kernel
theorem dX8_turn_164 : decode cX8_turn 164 = .ok (.aload_n 0, 1) := by decide +kernel
theorem dX8_turn_165 : decode cX8_turn 165 = .ok (.getfield 277, 3) := by decide +kernel
theorem dX8_turn_168 : decode cX8_turn 168 = .ok (.imul, 1) := by decide +kernel
theorem dX8_turn_169 : decode cX8_turn 169 = .ok (.bipush 8, 2) := by decide +kernel
theorem dX8_turn_171 : decode cX8_turn 171 = .ok (.iadd, 1) := by decide +kernel
theorem dX8_turn_172 : decode cX8_turn 172 = .ok (.if_icmp .ge 24, 3) := by decide +kernel
theorem dX8_turn_175 : decode cX8_turn 175 = .ok (.aload_n 0, 1) := by decide +kernel
theorem dX8_turn_176 : decode cX8_turn 176 = .ok (.getfield 65, 3) := by decide +kernel
theorem dX8_turn_179 : decode cX8_turn 179 = .ok (.iload 5, 2) := by decide +kernel
theorem dX8_turn_181 : decode cX8_turn 181 = .ok (.aload_n 0, 1) := by decide +kernel
theorem dX8_turn_182 : decode cX8_turn 182 = .ok (.getfield 65, 3) := by decide +kernel
theorem dX8_turn_185 : decode cX8_turn 185 = .ok (.iload 5, 2) := by decide +kernel
theorem dX8_turn_187 : decode cX8_turn 187 = .ok (.laload, 1) := by decide +kernel
theorem dX8_turn_188 : decode cX8_turn 188 = .ok (.lneg, 1) := by decide +kernel
theorem dX8_turn_189 : decode cX8_turn 189 = .ok (.lastore, 1) := by decide +kernel
theorem dX8_turn_190 : decode cX8_turn 190 = .ok (.iinc 5 1, 3) := by decide +kernel
theorem dX8_turn_193 : decode cX8_turn 193 = .ok (.goto (-33), 3) := by decide +kernel
theorem dX8_turn_196 : decode cX8_turn 196 = .ok (.aload_n 0, 1) := by decide +kernel
theorem dX8_turn_197 : decode cX8_turn 197 = .ok (.getfield 69, 3) := by decide +kernel
theorem dX8_turn_200 : decode cX8_turn 200 = .ok (.iload_n 1, 1) := by decide +kernel
theorem dX8_turn_201 : decode cX8_turn 201 = .ok (.iaload, 1) := by decide +kernel
theorem dX8_turn_202 : decode cX8_turn 202 = .ok (.istore 5, 2) := by decide +kernel
theorem dX8_turn_204 : decode cX8_turn 204 = .ok (.aload_n 0, 1) := by decide +kernel
theorem dX8_turn_205 : decode cX8_turn 205 = .ok (.getfield 69, 3) := by decide +kernel
theorem dX8_turn_208 : decode cX8_turn 208 = .ok (.iload_n 1, 1) := by decide +kernel
theorem dX8_turn_209 : decode cX8_turn 209 = .ok (.aload_n 0, 1) := by decide +kernel
theorem dX8_turn_210 : decode cX8_turn 210 = .ok (.getfield 72, 3) := by decide +kernel
theorem dX8_turn_213 : decode cX8_turn 213 = .ok (.iload_n 2, 1) := by decide +kernel
theorem dX8_turn_214 : decode cX8_turn 214 = .ok (.iaload, 1) := by decide +kernel
theorem dX8_turn_215 : decode cX8_turn 215 = .ok (.iastore, 1) := by decide +kernel
theorem dX8_turn_216 : decode cX8_turn 216 = .ok (.aload_n 0, 1) := by decide +kernel
theorem dX8_turn_217 : decode cX8_turn 217 = .ok (.getfield 72, 3) := by decide +kernel
theorem dX8_turn_220 : decode cX8_turn 220 = .ok (.iload_n 2, 1) := by decide +kernel
theorem dX8_turn_221 : decode cX8_turn 221 = .ok (.iload 5, 2) := by decide +kernel
theorem dX8_turn_223 : decode cX8_turn 223 = .ok (.iastore, 1) := by decide +kernel
theorem dX8_turn_224 : decode cX8_turn 224 = .ok (.return_, 1) := by decide +kernel
theorem dX8_leastRow_0 : decode cX8_leastRow 0 = .ok (.ldc 114, 2) := by decide +kernel
theorem dX8_leastRow_2 : decode cX8_leastRow 2 = .ok (.istore_n 1, 1) := by decide +kernel
theorem dX8_leastRow_3 : decode cX8_leastRow 3 = .ok (.iconst 0, 1) := by decide +kernel
theorem dX8_leastRow_4 : decode cX8_leastRow 4 = .ok (.istore_n 2, 1) := by decide +kernel
theorem dX8_leastRow_5 : decode cX8_leastRow 5 = .ok (.iload_n 2, 1) := by decide +kernel
theorem dX8_leastRow_6 : decode cX8_leastRow 6 = .ok (.aload_n 0, 1) := by decide +kernel
theorem dX8_leastRow_7 : decode cX8_leastRow 7 = .ok (.getfield 277, 3) := by decide +kernel
theorem dX8_leastRow_10 : decode cX8_leastRow 10 = .ok (.if_icmp .ge 50, 3) := by decide +kernel
theorem dX8_leastRow_13 : decode cX8_leastRow 13 = .ok (.aload_n 0, 1) := by decide +kernel
theorem dX8_leastRow_14 : decode cX8_leastRow 14 = .ok (.iload_n 2, 1) := by decide +kernel
theorem dX8_leastRow_15 : decode cX8_leastRow 15 = .ok (.aload_n 0, 1) := by decide +kernel
theorem dX8_leastRow_16 : decode cX8_leastRow 16 = .ok (.getfield 280, 3) := by decide +kernel
theorem dX8_leastRow_19 : decode cX8_leastRow 19 = .ok (.invokevirtual 273, 3) := by decide +kernel
theorem dX8_leastRow_22 : decode cX8_leastRow 22 = .ok (.lconst 0, 1) := by decide +kernel
theorem dX8_leastRow_23 : decode cX8_leastRow 23 = .ok (.lcmp, 1) := by decide +kernel
theorem dX8_leastRow_24 : decode cX8_leastRow 24 = .ok (.ifCond .ge 28, 3) := by decide +kernel
theorem dX8_leastRow_27 : decode cX8_leastRow 27 = .ok (.iload_n 1, 1) := by decide +kernel
theorem dX8_leastRow_28 : decode cX8_leastRow 28 = .ok (.ldc 114, 2) := by decide +kernel
theorem dX8_leastRow_30 : decode cX8_leastRow 30 = .ok (.if_icmp .eq 18, 3) := by decide +kernel
theorem dX8_leastRow_33 : decode cX8_leastRow 33 = .ok (.aload_n 0, 1) := by decide +kernel
theorem dX8_leastRow_34 : decode cX8_leastRow 34 = .ok (.getfield 69, 3) := by decide +kernel
theorem dX8_leastRow_37 : decode cX8_leastRow 37 = .ok (.iload_n 2, 1) := by decide +kernel
theorem dX8_leastRow_38 : decode cX8_leastRow 38 = .ok (.iaload, 1) := by decide +kernel
theorem dX8_leastRow_39 : decode cX8_leastRow 39 = .ok (.aload_n 0, 1) := by decide +kernel
theorem dX8_leastRow_40 : decode cX8_leastRow 40 = .ok (.getfield 69, 3) := by decide +kernel
theorem dX8_leastRow_43 : decode cX8_leastRow 43 = .ok (.iload_n 1, 1) := by decide +kernel
theorem dX8_leastRow_44 : decode cX8_leastRow 44 = .ok (.iaload, 1) := by decide +kernel
theorem dX8_leastRow_45 : decode cX8_leastRow 45 = .ok (.if_icmp .ge 7, 3) := by decide +kernel
theorem dX8_leastRow_48 : decode cX8_leastRow 48 = .ok (.iload_n 2, 1) := by decide +kernel
theorem dX8_leastRow_49 : decode cX8_leastRow 49 = .ok (.goto 4, 3) := by decide +kernel
theorem dX8_leastRow_52 : decode cX8_leastRow 52 = .ok (.iload_n 1, 1) := by decide +kernel
theorem dX8_leastRow_53 : decode cX8_leastRow 53 = .ok (.istore_n 1, 1) := by decide +kernel
theorem dX8_leastRow_54 : decode cX8_leastRow 54 = .ok (.iinc 2 1, 3) := by decide +kernel
theorem dX8_leastRow_57 : decode cX8_leastRow 57 = .ok (.goto (-52), 3) := by decide +kernel
theorem dX8_leastRow_60 : decode cX8_leastRow 60 = .ok (.iload_n 1, 1) := by decide +kernel
theorem dX8_leastRow_61 : decode cX8_leastRow 61 = .ok (.ireturn, 1) := by decide +kernel
theorem dX8_leastColumn_0 : decode cX8_leastColumn 0 = .ok (.ldc 114, 2) := by decide +kernel
theorem dX8_leastColumn_2 : decode cX8_leastColumn 2 = .ok (.istore_n 1, 1) := by decide +kernel
theorem dX8_leastColumn_3 : decode cX8_leastColumn 3 = .ok (.iconst 0, 1) := by decide +kernel
theorem dX8_leastColumn_4 : decode cX8_leastColumn 4 = .ok (.istore_n 2, 1) := by decide +kernel
theorem dX8_leastColumn_5 : decode cX8_leastColumn 5 = .ok (.iload_n 2, 1) := by decide +kernel
theorem dX8_leastColumn_6 : decode cX8_leastColumn 6 = .ok (.aload_n 0, 1) := by decide +kernel
theorem dX8_leastColumn_7 : decode cX8_leastColumn 7 = .ok (.getfield 280, 3) := by decide +kernel
theorem dX8_leastColumn_10 : decode cX8_leastColumn 10 = .ok (.if_icmp .ge 50, 3) := by decide +kernel
theorem dX8_leastColumn_13 : decode cX8_leastColumn 13 = .ok (.aload_n 0, 1) := by decide +kernel
theorem dX8_leastColumn_14 : decode cX8_leastColumn 14 = .ok (.aload_n 0, 1) := by decide +kernel
theorem dX8_leastColumn_15 : decode cX8_leastColumn 15 = .ok (.getfield 277, 3) := by decide +kernel
theorem dX8_leastColumn_18 : decode cX8_leastColumn 18 = .ok (.iload_n 2, 1) := by decide +kernel
theorem dX8_leastColumn_19 : decode cX8_leastColumn 19 = .ok (.invokevirtual 273, 3) := by decide +kernel
theorem dX8_leastColumn_22 : decode cX8_leastColumn 22 = .ok (.lconst 0, 1) := by decide +kernel
theorem dX8_leastColumn_23 : decode cX8_leastColumn 23 = .ok (.lcmp, 1) := by decide +kernel
theorem dX8_leastColumn_24 : decode cX8_leastColumn 24 = .ok (.ifCond .ge 28, 3) := by decide +kernel
theorem dX8_leastColumn_27 : decode cX8_leastColumn 27 = .ok (.iload_n 1, 1) := by decide +kernel
theorem dX8_leastColumn_28 : decode cX8_leastColumn 28 = .ok (.ldc 114, 2) := by decide +kernel
theorem dX8_leastColumn_30 : decode cX8_leastColumn 30 = .ok (.if_icmp .eq 18, 3) := by decide +kernel
theorem dX8_leastColumn_33 : decode cX8_leastColumn 33 = .ok (.aload_n 0, 1) := by decide +kernel
theorem dX8_leastColumn_34 : decode cX8_leastColumn 34 = .ok (.getfield 72, 3) := by decide +kernel
theorem dX8_leastColumn_37 : decode cX8_leastColumn 37 = .ok (.iload_n 2, 1) := by decide +kernel
theorem dX8_leastColumn_38 : decode cX8_leastColumn 38 = .ok (.iaload, 1) := by decide +kernel
theorem dX8_leastColumn_39 : decode cX8_leastColumn 39 = .ok (.aload_n 0, 1) := by decide +kernel
theorem dX8_leastColumn_40 : decode cX8_leastColumn 40 = .ok (.getfield 72, 3) := by decide +kernel
theorem dX8_leastColumn_43 : decode cX8_leastColumn 43 = .ok (.iload_n 1, 1) := by decide +kernel
theorem dX8_leastColumn_44 : decode cX8_leastColumn 44 = .ok (.iaload, 1) := by decide +kernel
theorem dX8_leastColumn_45 : decode cX8_leastColumn 45 = .ok (.if_icmp .ge 7, 3) := by decide +kernel
theorem dX8_leastColumn_48 : decode cX8_leastColumn 48 = .ok (.iload_n 2, 1) := by decide +kernel
theorem dX8_leastColumn_49 : decode cX8_leastColumn 49 = .ok (.goto 4, 3) := by decide +kernel
theorem dX8_leastColumn_52 : decode cX8_leastColumn 52 = .ok (.iload_n 1, 1) := by decide +kernel
theorem dX8_leastColumn_53 : decode cX8_leastColumn 53 = .ok (.istore_n 1, 1) := by decide +kernel
theorem dX8_leastColumn_54 : decode cX8_leastColumn 54 = .ok (.iinc 2 1, 3) := by decide +kernel
theorem dX8_leastColumn_57 : decode cX8_leastColumn 57 = .ok (.goto (-52), 3) := by decide +kernel
theorem dX8_leastColumn_60 : decode cX8_leastColumn 60 = .ok (.iload_n 1, 1) := by decide +kernel
theorem dX8_leastColumn_61 : decode cX8_leastColumn 61 = .ok (.ireturn, 1) := by decide +kernel
theorem dX8_isSolved_0 : decode cX8_isSolved 0 = .ok (.aload_n 0, 1) := by decide +kernel
theorem dX8_isSolved_1 : decode cX8_isSolved 1 = .ok (.invokevirtual 291, 3) := by decide +kernel
theorem dX8_isSolved_4 : decode cX8_isSolved 4 = .ok (.istore_n 1, 1) := by decide +kernel
theorem dX8_isSolved_5 : decode cX8_isSolved 5 = .ok (.aload_n 0, 1) := by decide +kernel
theorem dX8_isSolved_6 : decode cX8_isSolved 6 = .ok (.invokevirtual 294, 3) := by decide +kernel
theorem dX8_isSolved_9 : decode cX8_isSolved 9 = .ok (.istore_n 2, 1) := by decide +kernel
theorem dX8_isSolved_10 : decode cX8_isSolved 10 = .ok (.iload_n 1, 1) := by decide +kernel
theorem dX8_isSolved_11 : decode cX8_isSolved 11 = .ok (.ldc 114, 2) := by decide +kernel
theorem dX8_isSolved_13 : decode cX8_isSolved 13 = .ok (.if_icmp .ne 9, 3) := by decide +kernel
theorem dX8_isSolved_16 : decode cX8_isSolved 16 = .ok (.iload_n 2, 1) := by decide +kernel
theorem dX8_isSolved_17 : decode cX8_isSolved 17 = .ok (.ldc 114, 2) := by decide +kernel
theorem dX8_isSolved_19 : decode cX8_isSolved 19 = .ok (.if_icmp .eq 195, 3) := by decide +kernel
theorem dX8_isSolved_22 : decode cX8_isSolved 22 = .ok (.ldc 114, 2) := by decide +kernel
theorem dX8_isSolved_24 : decode cX8_isSolved 24 = .ok (.istore_n 3, 1) := by decide +kernel
theorem dX8_isSolved_25 : decode cX8_isSolved 25 = .ok (.iload_n 2, 1) := by decide +kernel
theorem dX8_isSolved_26 : decode cX8_isSolved 26 = .ok (.ldc 114, 2) := by decide +kernel
theorem dX8_isSolved_28 : decode cX8_isSolved 28 = .ok (.if_icmp .eq 24, 3) := by decide +kernel
theorem dX8_isSolved_31 : decode cX8_isSolved 31 = .ok (.iload_n 1, 1) := by decide +kernel
theorem dX8_isSolved_32 : decode cX8_isSolved 32 = .ok (.ldc 114, 2) := by decide +kernel
theorem dX8_isSolved_34 : decode cX8_isSolved 34 = .ok (.if_icmp .eq 94, 3) := by decide +kernel
theorem dX8_isSolved_37 : decode cX8_isSolved 37 = .ok (.aload_n 0, 1) := by decide +kernel
theorem dX8_isSolved_38 : decode cX8_isSolved 38 = .ok (.getfield 69, 3) := by decide +kernel
theorem dX8_isSolved_41 : decode cX8_isSolved 41 = .ok (.iload_n 1, 1) := by decide +kernel
theorem dX8_isSolved_42 : decode cX8_isSolved 42 = .ok (.iaload, 1) := by decide +kernel
theorem dX8_isSolved_43 : decode cX8_isSolved 43 = .ok (.aload_n 0, 1) := by decide +kernel
theorem dX8_isSolved_44 : decode cX8_isSolved 44 = .ok (.getfield 72, 3) := by decide +kernel
theorem dX8_isSolved_47 : decode cX8_isSolved 47 = .ok (.iload_n 2, 1) := by decide +kernel
theorem dX8_isSolved_48 : decode cX8_isSolved 48 = .ok (.iaload, 1) := by decide +kernel
theorem dX8_isSolved_49 : decode cX8_isSolved 49 = .ok (.if_icmp .ge 79, 3) := by decide +kernel
theorem dX8_isSolved_52 : decode cX8_isSolved 52 = .ok (.iconst 0, 1) := by decide +kernel
theorem dX8_isSolved_53 : decode cX8_isSolved 53 = .ok (.istore 4, 2) := by decide +kernel
theorem dX8_isSolved_55 : decode cX8_isSolved 55 = .ok (.iload 4, 2) := by decide +kernel
theorem dX8_isSolved_57 : decode cX8_isSolved 57 = .ok (.aload_n 0, 1) := by decide +kernel
theorem dX8_isSolved_58 : decode cX8_isSolved 58 = .ok (.getfield 280, 3) := by decide +kernel
theorem dX8_isSolved_61 : decode cX8_isSolved 61 = .ok (.if_icmp .ge 50, 3) := by decide +kernel
theorem dX8_isSolved_64 : decode cX8_isSolved 64 = .ok (.aload_n 0, 1) := by decide +kernel
theorem dX8_isSolved_65 : decode cX8_isSolved 65 = .ok (.iload_n 1, 1) := by decide +kernel
theorem dX8_isSolved_66 : decode cX8_isSolved 66 = .ok (.iload 4, 2) := by decide +kernel
theorem dX8_isSolved_68 : decode cX8_isSolved 68 = .ok (.invokevirtual 273, 3) := by decide +kernel
theorem dX8_isSolved_71 : decode cX8_isSolved 71 = .ok (.lconst 0, 1) := by decide +kernel
theorem dX8_isSolved_72 : decode cX8_isSolved 72 = .ok (.lcmp, 1) := by decide +kernel
theorem dX8_isSolved_73 : decode cX8_isSolved 73 = .ok (.ifCond .ge 30, 3) := by decide +kernel
theorem dX8_isSolved_76 : decode cX8_isSolved 76 = .ok (.iload_n 3, 1) := by decide +kernel
theorem dX8_isSolved_77 : decode cX8_isSolved 77 = .ok (.ldc 114, 2) := by decide +kernel
theorem dX8_isSolved_79 : decode cX8_isSolved 79 = .ok (.if_icmp .eq 19, 3) := by decide +kernel
theorem dX8_isSolved_82 : decode cX8_isSolved 82 = .ok (.aload_n 0, 1) := by decide +kernel
theorem dX8_isSolved_83 : decode cX8_isSolved 83 = .ok (.getfield 72, 3) := by decide +kernel
theorem dX8_isSolved_86 : decode cX8_isSolved 86 = .ok (.iload 4, 2) := by decide +kernel
theorem dX8_isSolved_88 : decode cX8_isSolved 88 = .ok (.iaload, 1) := by decide +kernel
theorem dX8_isSolved_89 : decode cX8_isSolved 89 = .ok (.aload_n 0, 1) := by decide +kernel
theorem dX8_isSolved_90 : decode cX8_isSolved 90 = .ok (.getfield 72, 3) := by decide +kernel
theorem dX8_isSolved_93 : decode cX8_isSolved 93 = .ok (.iload_n 3, 1) := by decide +kernel
theorem dX8_isSolved_94 : decode cX8_isSolved 94 = .ok (.iaload, 1) := by decide +kernel
theorem dX8_isSolved_95 : decode cX8_isSolved 95 = .ok (.if_icmp .ge 8, 3) := by decide +kernel
theorem dX8_isSolved_98 : decode cX8_isSolved 98 = .ok (.iload 4, 2) := by decide +kernel
theorem dX8_isSolved_100 : decode cX8_isSolved 100 = .ok (.goto 4, 3) := by decide +kernel
theorem dX8_isSolved_103 : decode cX8_isSolved 103 = .ok (.iload_n 3, 1) := by decide +kernel
theorem dX8_isSolved_104 : decode cX8_isSolved 104 = .ok (.istore_n 3, 1) := by decide +kernel
theorem dX8_isSolved_105 : decode cX8_isSolved 105 = .ok (.iinc 4 1, 3) := by decide +kernel
theorem dX8_isSolved_108 : decode cX8_isSolved 108 = .ok (.goto (-53), 3) := by decide +kernel
theorem dX8_isSolved_111 : decode cX8_isSolved 111 = .ok (.iload_n 3, 1) := by decide +kernel
theorem dX8_isSolved_112 : decode cX8_isSolved 112 = .ok (.ldc 114, 2) := by decide +kernel
theorem dX8_isSolved_114 : decode cX8_isSolved 114 = .ok (.if_icmp .ne 5, 3) := by decide +kernel
theorem dX8_isSolved_117 : decode cX8_isSolved 117 = .ok (.iconst 0, 1) := by decide +kernel
theorem dX8_isSolved_118 : decode cX8_isSolved 118 = .ok (.ireturn, 1) := by decide +kernel
theorem dX8_isSolved_119 : decode cX8_isSolved 119 = .ok (.aload_n 0, 1) := by decide +kernel
theorem dX8_isSolved_120 : decode cX8_isSolved 120 = .ok (.iload_n 1, 1) := by decide +kernel
theorem dX8_isSolved_121 : decode cX8_isSolved 121 = .ok (.iload_n 3, 1) := by decide +kernel
theorem dX8_isSolved_122 : decode cX8_isSolved 122 = .ok (.invokevirtual 297, 3) := by decide +kernel
theorem dX8_isSolved_125 : decode cX8_isSolved 125 = .ok (.goto 76, 3) := by decide +kernel
theorem dX8_isSolved_128 : decode cX8_isSolved 128 = .ok (.iconst 0, 1) := by decide +kernel
theorem dX8_isSolved_129 : decode cX8_isSolved 129 = .ok (.istore 4, 2) := by decide +kernel
theorem dX8_isSolved_131 : decode cX8_isSolved 131 = .ok (.iload 4, 2) := by decide +kernel
theorem dX8_isSolved_133 : decode cX8_isSolved 133 = .ok (.aload_n 0, 1) := by decide +kernel
theorem dX8_isSolved_134 : decode cX8_isSolved 134 = .ok (.getfield 277, 3) := by decide +kernel
theorem dX8_isSolved_137 : decode cX8_isSolved 137 = .ok (.if_icmp .ge 50, 3) := by decide +kernel
theorem dX8_isSolved_140 : decode cX8_isSolved 140 = .ok (.aload_n 0, 1) := by decide +kernel
theorem dX8_isSolved_141 : decode cX8_isSolved 141 = .ok (.iload 4, 2) := by decide +kernel
theorem dX8_isSolved_143 : decode cX8_isSolved 143 = .ok (.iload_n 2, 1) := by decide +kernel
theorem dX8_isSolved_144 : decode cX8_isSolved 144 = .ok (.invokevirtual 273, 3) := by decide +kernel
theorem dX8_isSolved_147 : decode cX8_isSolved 147 = .ok (.lconst 0, 1) := by decide +kernel
theorem dX8_isSolved_148 : decode cX8_isSolved 148 = .ok (.lcmp, 1) := by decide +kernel
theorem dX8_isSolved_149 : decode cX8_isSolved 149 = .ok (.ifCond .le 30, 3) := by decide +kernel
theorem dX8_isSolved_152 : decode cX8_isSolved 152 = .ok (.iload_n 3, 1) := by decide +kernel
theorem dX8_isSolved_153 : decode cX8_isSolved 153 = .ok (.ldc 114, 2) := by decide +kernel
theorem dX8_isSolved_155 : decode cX8_isSolved 155 = .ok (.if_icmp .eq 19, 3) := by decide +kernel
theorem dX8_isSolved_158 : decode cX8_isSolved 158 = .ok (.aload_n 0, 1) := by decide +kernel
theorem dX8_isSolved_159 : decode cX8_isSolved 159 = .ok (.getfield 69, 3) := by decide +kernel
theorem dX8_isSolved_162 : decode cX8_isSolved 162 = .ok (.iload 4, 2) := by decide +kernel
theorem dX8_isSolved_164 : decode cX8_isSolved 164 = .ok (.iaload, 1) := by decide +kernel
theorem dX8_isSolved_165 : decode cX8_isSolved 165 = .ok (.aload_n 0, 1) := by decide +kernel
theorem dX8_isSolved_166 : decode cX8_isSolved 166 = .ok (.getfield 69, 3) := by decide +kernel
theorem dX8_isSolved_169 : decode cX8_isSolved 169 = .ok (.iload_n 3, 1) := by decide +kernel
theorem dX8_isSolved_170 : decode cX8_isSolved 170 = .ok (.iaload, 1) := by decide +kernel
theorem dX8_isSolved_171 : decode cX8_isSolved 171 = .ok (.if_icmp .ge 8, 3) := by decide +kernel
theorem dX8_isSolved_174 : decode cX8_isSolved 174 = .ok (.iload 4, 2) := by decide +kernel
theorem dX8_isSolved_176 : decode cX8_isSolved 176 = .ok (.goto 4, 3) := by decide +kernel
theorem dX8_isSolved_179 : decode cX8_isSolved 179 = .ok (.iload_n 3, 1) := by decide +kernel
theorem dX8_isSolved_180 : decode cX8_isSolved 180 = .ok (.istore_n 3, 1) := by decide +kernel
theorem dX8_isSolved_181 : decode cX8_isSolved 181 = .ok (.iinc 4 1, 3) := by decide +kernel
theorem dX8_isSolved_184 : decode cX8_isSolved 184 = .ok (.goto (-53), 3) := by decide +kernel
theorem dX8_isSolved_187 : decode cX8_isSolved 187 = .ok (.iload_n 3, 1) := by decide +kernel
theorem dX8_isSolved_188 : decode cX8_isSolved 188 = .ok (.ldc 114, 2) := by decide +kernel
theorem dX8_isSolved_190 : decode cX8_isSolved 190 = .ok (.if_icmp .ne 5, 3) := by decide +kernel
theorem dX8_isSolved_193 : decode cX8_isSolved 193 = .ok (.iconst 0, 1) := by decide +kernel
theorem dX8_isSolved_194 : decode cX8_isSolved 194 = .ok (.ireturn, 1) := by decide +kernel
theorem dX8_isSolved_195 : decode cX8_isSolved 195 = .ok (.aload_n 0, 1) := by decide +kernel
theorem dX8_isSolved_196 : decode cX8_isSolved 196 = .ok (.iload_n 3, 1) := by decide +kernel
theorem dX8_isSolved_197 : decode cX8_isSolved 197 = .ok (.iload_n 2, 1) := by decide +kernel
theorem dX8_isSolved_198 : decode cX8_isSolved 198 = .ok (.invokevirtual 297, 3) := by decide +kernel
theorem dX8_isSolved_201 : decode cX8_isSolved 201 = .ok (.aload_n 0, 1) := by decide +kernel
theorem dX8_isSolved_202 : decode cX8_isSolved 202 = .ok (.invokevirtual 291, 3) := by decide +kernel
theorem dX8_isSolved_205 : decode cX8_isSolved 205 = .ok (.istore_n 1, 1) := by decide +kernel
theorem dX8_isSolved_206 : decode cX8_isSolved 206 = .ok (.aload_n 0, 1) := by decide +kernel
theorem dX8_isSolved_207 : decode cX8_isSolved 207 = .ok (.invokevirtual 294, 3) := by decide +kernel
theorem dX8_isSolved_210 : decode cX8_isSolved 210 = .ok (.istore_n 2, 1) := by decide +kernel
theorem dX8_isSolved_211 : decode cX8_isSolved 211 = .ok (.goto (-201), 3) := by decide +kernel
theorem dX8_isSolved_214 : decode cX8_isSolved 214 = .ok (.iconst 1, 1) := by decide +kernel
theorem dX8_isSolved_215 : decode cX8_isSolved 215 = .ok (.ireturn, 1) := by decide +kernel
theorem dX8_addRow_0 : decode cX8_addRow 0 = .ok (.iconst 0, 1) := by decide +kernel
theorem dX8_addRow_1 : decode cX8_addRow 1 = .ok (.istore 4, 2) := by decide +kernel
theorem dX8_addRow_3 : decode cX8_addRow 3 = .ok (.iload 4, 2) := by decide +kernel
theorem dX8_addRow_5 : decode cX8_addRow 5 = .ok (.aload_n 0, 1) := by decide +kernel
theorem dX8_addRow_6 : decode cX8_addRow 6 = .ok (.getfield 280, 3) := by decide +kernel
theorem dX8_addRow_9 : decode cX8_addRow 9 = .ok (.if_icmp .ge 42, 3) := by decide +kernel
theorem dX8_addRow_12 : decode cX8_addRow 12 = .ok (.aload_n 0, 1) := by decide +kernel
theorem dX8_addRow_13 : decode cX8_addRow 13 = .ok (.aload_n 0, 1) := by decide +kernel
theorem dX8_addRow_14 : decode cX8_addRow 14 = .ok (.getfield 277, 3) := by decide +kernel
theorem dX8_addRow_17 : decode cX8_addRow 17 = .ok (.iload 4, 2) := by decide +kernel
theorem dX8_addRow_19 : decode cX8_addRow 19 = .ok (.iload_n 1, 1) := by decide +kernel
theorem dX8_addRow_20 : decode cX8_addRow 20 = .ok (.ldc 114, 2) := by decide +kernel
theorem dX8_addRow_22 : decode cX8_addRow 22 = .ok (.if_icmp .eq 14, 3) := by decide +kernel
theorem dX8_addRow_25 : decode cX8_addRow 25 = .ok (.iload_n 1, 1) := by decide +kernel
theorem dX8_addRow_26 : decode cX8_addRow 26 = .ok (.iload 4, 2) := by decide +kernel
theorem dX8_addRow_28 : decode cX8_addRow 28 = .ok (.iconst 1, 1) := by decide +kernel
theorem dX8_addRow_29 : decode cX8_addRow 29 = .ok (.iadd, 1) := by decide +kernel
theorem dX8_addRow_30 : decode cX8_addRow 30 = .ok (.invokestatic 301, 3) := by decide +kernel
theorem dX8_addRow_33 : decode cX8_addRow 33 = .ok (.ifCond .eq 8, 3) := by decide +kernel
theorem dX8_addRow_36 : decode cX8_addRow 36 = .ok (.iload_n 2, 1) := by decide +kernel
theorem dX8_addRow_37 : decode cX8_addRow 37 = .ok (.i2l, 1) := by decide +kernel
theorem dX8_addRow_38 : decode cX8_addRow 38 = .ok (.goto 4, 3) := by decide +kernel
theorem dX8_addRow_41 : decode cX8_addRow 41 = .ok (.lconst 0, 1) := by decide +kernel
theorem dX8_addRow_42 : decode cX8_addRow 42 = .ok (.invokevirtual 287, 3) := by decide +kernel
theorem dX8_addRow_45 : decode cX8_addRow 45 = .ok (.iinc 4 1, 3) := by decide +kernel
theorem dX8_addRow_48 : decode cX8_addRow 48 = .ok (.goto (-45), 3) := by decide +kernel
theorem dX8_addRow_51 : decode cX8_addRow 51 = .ok (.aload_n 0, 1) := by decide +kernel
theorem dX8_addRow_52 : decode cX8_addRow 52 = .ok (.aload_n 0, 1) := by decide +kernel
theorem dX8_addRow_53 : decode cX8_addRow 53 = .ok (.getfield 277, 3) := by decide +kernel
theorem dX8_addRow_56 : decode cX8_addRow 56 = .ok (.aload_n 0, 1) := by decide +kernel
theorem dX8_addRow_57 : decode cX8_addRow 57 = .ok (.getfield 280, 3) := by decide +kernel
theorem dX8_addRow_60 : decode cX8_addRow 60 = .ok (.iload_n 2, 1) := by decide +kernel
theorem dX8_addRow_61 : decode cX8_addRow 61 = .ok (.i2l, 1) := by decide +kernel
theorem dX8_addRow_62 : decode cX8_addRow 62 = .ok (.iload_n 3, 1) := by decide +kernel
theorem dX8_addRow_63 : decode cX8_addRow 63 = .ok (.i2l, 1) := by decide +kernel
theorem dX8_addRow_64 : decode cX8_addRow 64 = .ok (.lmul, 1) := by decide +kernel
theorem dX8_addRow_65 : decode cX8_addRow 65 = .ok (.invokevirtual 287, 3) := by decide +kernel
theorem dX8_addRow_68 : decode cX8_addRow 68 = .ok (.aload_n 0, 1) := by decide +kernel
theorem dX8_addRow_69 : decode cX8_addRow 69 = .ok (.dup, 1) := by decide +kernel
theorem dX8_addRow_70 : decode cX8_addRow 70 = .ok (.getfield 277, 3) := by decide +kernel
theorem dX8_addRow_73 : decode cX8_addRow 73 = .ok (.iconst 1, 1) := by decide +kernel
theorem dX8_addRow_74 : decode cX8_addRow 74 = .ok (.iadd, 1) := by decide +kernel
theorem dX8_addRow_75 : decode cX8_addRow 75 = .ok (.putfield 277, 3) := by decide +kernel
theorem dX8_addRow_78 : decode cX8_addRow 78 = .ok (.return_, 1) := by decide +kernel
theorem dX8_find_0 : decode cX8_find 0 = .ok (.aload_n 0, 1) := by decide +kernel
theorem dX8_find_1 : decode cX8_find 1 = .ok (.iconst 0, 1) := by decide +kernel
theorem dX8_find_2 : decode cX8_find 2 = .ok (.putfield 277, 3) := by decide +kernel
theorem dX8_find_5 : decode cX8_find 5 = .ok (.aload_n 0, 1) := by decide +kernel
theorem dX8_find_6 : decode cX8_find 6 = .ok (.iconst 1, 1) := by decide +kernel
theorem dX8_find_7 : decode cX8_find 7 = .ok (.aload_n 0, 1) := by decide +kernel
theorem dX8_find_8 : decode cX8_find 8 = .ok (.getfield 270, 3) := by decide +kernel
theorem dX8_find_11 : decode cX8_find 11 = .ok (.ishl, 1) := by decide +kernel
theorem dX8_find_12 : decode cX8_find 12 = .ok (.iconst 1, 1) := by decide +kernel
theorem dX8_find_13 : decode cX8_find 13 = .ok (.isub, 1) := by decide +kernel
theorem dX8_find_14 : decode cX8_find 14 = .ok (.putfield 280, 3) := by decide +kernel
theorem dX8_find_17 : decode cX8_find 17 = .ok (.aload_n 0, 1) := by decide +kernel
theorem dX8_find_18 : decode cX8_find 18 = .ok (.lconst 1, 1) := by decide +kernel
theorem dX8_find_19 : decode cX8_find 19 = .ok (.putfield 283, 3) := by decide +kernel
theorem dX8_find_22 : decode cX8_find 22 = .ok (.aload_n 0, 1) := by decide +kernel
theorem dX8_find_23 : decode cX8_find 23 = .ok (.ldc 114, 2) := by decide +kernel
theorem dX8_find_25 : decode cX8_find 25 = .ok (.iconst 1, 1) := by decide +kernel
theorem dX8_find_26 : decode cX8_find 26 = .ok (.bipush 100, 2) := by decide +kernel
theorem dX8_find_28 : decode cX8_find 28 = .ok (.invokevirtual 304, 3) := by decide +kernel
theorem dX8_find_31 : decode cX8_find 31 = .ok (.iconst 0, 1) := by decide +kernel
theorem dX8_find_32 : decode cX8_find 32 = .ok (.istore 4, 2) := by decide +kernel
theorem dX8_find_34 : decode cX8_find 34 = .ok (.iload 4, 2) := by decide +kernel
theorem dX8_find_36 : decode cX8_find 36 = .ok (.bipush 6, 2) := by decide +kernel
theorem dX8_find_38 : decode cX8_find 38 = .ok (.if_icmp .ge 63, 3) := by decide +kernel
theorem dX8_find_41 : decode cX8_find 41 = .ok (.aload_n 0, 1) := by decide +kernel
theorem dX8_find_42 : decode cX8_find 42 = .ok (.getfield 56, 3) := by decide +kernel
theorem dX8_find_45 : decode cX8_find 45 = .ok (.iload 4, 2) := by decide +kernel
theorem dX8_find_47 : decode cX8_find 47 = .ok (.baload, 1) := by decide +kernel
theorem dX8_find_48 : decode cX8_find 48 = .ok (.ifCond .eq 47, 3) := by decide +kernel
theorem dX8_find_51 : decode cX8_find 51 = .ok (.aload_n 0, 1) := by decide +kernel
theorem dX8_find_52 : decode cX8_find 52 = .ok (.iload 4, 2) := by decide +kernel
theorem dX8_find_54 : decode cX8_find 54 = .ok (.iconst 1, 1) := by decide +kernel
theorem dX8_find_55 : decode cX8_find 55 = .ok (.aload_n 0, 1) := by decide +kernel
theorem dX8_find_56 : decode cX8_find 56 = .ok (.getfield 62, 3) := by decide +kernel
theorem dX8_find_59 : decode cX8_find 59 = .ok (.iload 4, 2) := by decide +kernel
theorem dX8_find_61 : decode cX8_find 61 = .ok (.iaload, 1) := by decide +kernel
theorem dX8_find_62 : decode cX8_find 62 = .ok (.invokevirtual 304, 3) := by decide +kernel
theorem dX8_find_65 : decode cX8_find 65 = .ok (.aload_n 0, 1) := by decide +kernel
theorem dX8_find_66 : decode cX8_find 66 = .ok (.iload 4, 2) := by decide +kernel
theorem dX8_find_68 : decode cX8_find 68 = .ok (.iconst (-1), 1) := by decide +kernel
theorem dX8_find_69 : decode cX8_find 69 = .ok (.iload 4, 2) := by decide +kernel
theorem dX8_find_71 : decode cX8_find 71 = .ok (.iload_n 3, 1) := by decide +kernel
theorem dX8_find_72 : decode cX8_find 72 = .ok (.if_icmp .ne 13, 3) := by decide +kernel
theorem dX8_find_75 : decode cX8_find 75 = .ok (.aload_n 0, 1) := by decide +kernel
theorem dX8_find_76 : decode cX8_find 76 = .ok (.getfield 62, 3) := by decide +kernel
theorem dX8_find_79 : decode cX8_find 79 = .ok (.iload 4, 2) := by decide +kernel
theorem dX8_find_81 : decode cX8_find 81 = .ok (.iaload, 1) := by decide +kernel
theorem dX8_find_82 : decode cX8_find 82 = .ok (.goto 10, 3) := by decide +kernel
theorem dX8_find_85 : decode cX8_find 85 = .ok (.aload_n 0, 1) := by decide +kernel
theorem dX8_find_86 : decode cX8_find 86 = .ok (.getfield 59, 3) := by decide +kernel
theorem dX8_find_89 : decode cX8_find 89 = .ok (.iload 4, 2) := by decide +kernel
theorem dX8_find_91 : decode cX8_find 91 = .ok (.iaload, 1) := by decide +kernel
theorem dX8_find_92 : decode cX8_find 92 = .ok (.invokevirtual 304, 3) := by decide +kernel
theorem dX8_find_95 : decode cX8_find 95 = .ok (.iinc 4 1, 3) := by decide +kernel
theorem dX8_find_98 : decode cX8_find 98 = .ok (.goto (-64), 3) := by decide +kernel
theorem dX8_find_101 : decode cX8_find 101 = .ok (.iload_n 1, 1) := by decide +kernel
theorem dX8_find_102 : decode cX8_find 102 = .ok (.iconst 1, 1) := by decide +kernel
theorem dX8_find_103 : decode cX8_find 103 = .ok (.iand, 1) := by decide +kernel
theorem dX8_find_104 : decode cX8_find 104 = .ok (.istore 4, 2) := by decide +kernel
theorem dX8_find_106 : decode cX8_find 106 = .ok (.iconst 0, 1) := by decide +kernel
theorem dX8_find_107 : decode cX8_find 107 = .ok (.istore 5, 2) := by decide +kernel
theorem dX8_find_109 : decode cX8_find 109 = .ok (.iload 5, 2) := by decide +kernel
theorem dX8_find_111 : decode cX8_find 111 = .ok (.aload_n 0, 1) := by decide +kernel
theorem dX8_find_112 : decode cX8_find 112 = .ok (.getfield 280, 3) := by decide +kernel
theorem dX8_find_115 : decode cX8_find 115 = .ok (.if_icmp .ge 43, 3) := by decide +kernel
theorem dX8_find_118 : decode cX8_find 118 = .ok (.aload_n 0, 1) := by decide +kernel
theorem dX8_find_119 : decode cX8_find 119 = .ok (.aload_n 0, 1) := by decide +kernel
theorem dX8_find_120 : decode cX8_find 120 = .ok (.getfield 277, 3) := by decide +kernel
theorem dX8_find_123 : decode cX8_find 123 = .ok (.iload 5, 2) := by decide +kernel
theorem dX8_find_125 : decode cX8_find 125 = .ok (.iload_n 2, 1) := by decide +kernel
theorem dX8_find_126 : decode cX8_find 126 = .ok (.ineg, 1) := by decide +kernel
theorem dX8_find_127 : decode cX8_find 127 = .ok (.iload_n 1, 1) := by decide +kernel
theorem dX8_find_128 : decode cX8_find 128 = .ok (.iload 5, 2) := by decide +kernel
theorem dX8_find_130 : decode cX8_find 130 = .ok (.iconst 1, 1) := by decide +kernel
theorem dX8_find_131 : decode cX8_find 131 = .ok (.iadd, 1) := by decide +kernel
theorem dX8_find_132 : decode cX8_find 132 = .ok (.ishr, 1) := by decide +kernel
theorem dX8_find_133 : decode cX8_find 133 = .ok (.iconst 1, 1) := by decide +kernel
theorem dX8_find_134 : decode cX8_find 134 = .ok (.iand, 1) := by decide +kernel
theorem dX8_find_135 : decode cX8_find 135 = .ok (.iload 4, 2) := by decide +kernel
theorem dX8_find_137 : decode cX8_find 137 = .ok (.isub, 1) := by decide +kernel
theorem dX8_find_138 : decode cX8_find 138 = .ok (.imul, 1) := by decide +kernel
theorem dX8_find_139 : decode cX8_find 139 = .ok (.i2l, 1) := by decide +kernel
theorem dX8_find_140 : decode cX8_find 140 = .ok (.invokevirtual 287, 3) := by decide +kernel
theorem dX8_find_143 : decode cX8_find 143 = .ok (.aload_n 0, 1) := by decide +kernel
theorem dX8_find_144 : decode cX8_find 144 = .ok (.getfield 72, 3) := by decide +kernel
theorem dX8_find_147 : decode cX8_find 147 = .ok (.iload 5, 2) := by decide +kernel
theorem dX8_find_149 : decode cX8_find 149 = .ok (.iload 5, 2) := by decide +kernel
theorem dX8_find_151 : decode cX8_find 151 = .ok (.iastore, 1) := by decide +kernel
theorem dX8_find_152 : decode cX8_find 152 = .ok (.iinc 5 1, 3) := by decide +kernel
theorem dX8_find_155 : decode cX8_find 155 = .ok (.goto (-46), 3) := by decide +kernel
theorem dX8_find_158 : decode cX8_find 158 = .ok (.aload_n 0, 1) := by decide +kernel
theorem dX8_find_159 : decode cX8_find 159 = .ok (.aload_n 0, 1) := by decide +kernel
theorem dX8_find_160 : decode cX8_find 160 = .ok (.getfield 277, 3) := by decide +kernel
theorem dX8_find_163 : decode cX8_find 163 = .ok (.aload_n 0, 1) := by decide +kernel
theorem dX8_find_164 : decode cX8_find 164 = .ok (.getfield 280, 3) := by decide +kernel
theorem dX8_find_167 : decode cX8_find 167 = .ok (.lconst 0, 1) := by decide +kernel
theorem dX8_find_168 : decode cX8_find 168 = .ok (.invokevirtual 287, 3) := by decide +kernel
theorem dX8_find_171 : decode cX8_find 171 = .ok (.iconst 0, 1) := by decide +kernel
theorem dX8_find_172 : decode cX8_find 172 = .ok (.istore 5, 2) := by decide +kernel
theorem dX8_find_174 : decode cX8_find 174 = .ok (.iload 5, 2) := by decide +kernel
theorem dX8_find_176 : decode cX8_find 176 = .ok (.aload_n 0, 1) := by decide +kernel
theorem dX8_find_177 : decode cX8_find 177 = .ok (.getfield 277, 3) := by decide +kernel
theorem dX8_find_180 : decode cX8_find 180 = .ok (.if_icmp .ge 23, 3) := by decide +kernel
theorem dX8_find_183 : decode cX8_find 183 = .ok (.aload_n 0, 1) := by decide +kernel
theorem dX8_find_184 : decode cX8_find 184 = .ok (.getfield 69, 3) := by decide +kernel
theorem dX8_find_187 : decode cX8_find 187 = .ok (.iload 5, 2) := by decide +kernel
theorem dX8_find_189 : decode cX8_find 189 = .ok (.aload_n 0, 1) := by decide +kernel
theorem dX8_find_190 : decode cX8_find 190 = .ok (.getfield 280, 3) := by decide +kernel
theorem dX8_find_193 : decode cX8_find 193 = .ok (.iload 5, 2) := by decide +kernel
theorem dX8_find_195 : decode cX8_find 195 = .ok (.iadd, 1) := by decide +kernel
theorem dX8_find_196 : decode cX8_find 196 = .ok (.iastore, 1) := by decide +kernel
theorem dX8_find_197 : decode cX8_find 197 = .ok (.iinc 5 1, 3) := by decide +kernel
theorem dX8_find_200 : decode cX8_find 200 = .ok (.goto (-26), 3) := by decide +kernel
theorem dX8_find_203 : decode cX8_find 203 = .ok (.aload_n 0, 1) := by decide +kernel
theorem dX8_find_204 : decode cX8_find 204 = .ok (.invokevirtual 308, 3) := by decide +kernel
theorem dX8_find_207 : decode cX8_find 207 = .ok (.ifCond .ne 5, 3) := by decide +kernel
theorem dX8_find_210 : decode cX8_find 210 = .ok (.iconst 0, 1) := by decide +kernel
theorem dX8_find_211 : decode cX8_find 211 = .ok (.ireturn, 1) := by decide +kernel
theorem dX8_find_212 : decode cX8_find 212 = .ok (.aload_n 0, 1) := by decide +kernel
theorem dX8_find_213 : decode cX8_find 213 = .ok (.ldc2_w 268, 3) := by decide +kernel
theorem dX8_find_216 : decode cX8_find 216 = .ok (.iload 4, 2) := by decide +kernel
theorem dX8_find_218 : decode cX8_find 218 = .ok (.i2l, 1) := by decide +kernel
theorem dX8_find_219 : decode cX8_find 219 = .ok (.lmul, 1) := by decide +kernel
theorem dX8_find_220 : decode cX8_find 220 = .ok (.aload_n 0, 1) := by decide +kernel
theorem dX8_find_221 : decode cX8_find 221 = .ok (.getfield 283, 3) := by decide +kernel
theorem dX8_find_224 : decode cX8_find 224 = .ok (.lmul, 1) := by decide +kernel
theorem dX8_find_225 : decode cX8_find 225 = .ok (.iload_n 2, 1) := by decide +kernel
theorem dX8_find_226 : decode cX8_find 226 = .ok (.i2l, 1) := by decide +kernel
theorem dX8_find_227 : decode cX8_find 227 = .ok (.aload_n 0, 1) := by decide +kernel
theorem dX8_find_228 : decode cX8_find 228 = .ok (.aload_n 0, 1) := by decide +kernel
theorem dX8_find_229 : decode cX8_find 229 = .ok (.getfield 277, 3) := by decide +kernel
theorem dX8_find_232 : decode cX8_find 232 = .ok (.aload_n 0, 1) := by decide +kernel
theorem dX8_find_233 : decode cX8_find 233 = .ok (.getfield 280, 3) := by decide +kernel
theorem dX8_find_236 : decode cX8_find 236 = .ok (.invokevirtual 273, 3) := by decide +kernel
theorem dX8_find_239 : decode cX8_find 239 = .ok (.lmul, 1) := by decide +kernel
theorem dX8_find_240 : decode cX8_find 240 = .ok (.ladd, 1) := by decide +kernel
theorem dX8_find_241 : decode cX8_find 241 = .ok (.putfield 312, 3) := by decide +kernel
theorem dX8_find_244 : decode cX8_find 244 = .ok (.aload_n 0, 1) := by decide +kernel
theorem dX8_find_245 : decode cX8_find 245 = .ok (.aload_n 0, 1) := by decide +kernel
theorem dX8_find_246 : decode cX8_find 246 = .ok (.getfield 283, 3) := by decide +kernel
theorem dX8_find_249 : decode cX8_find 249 = .ok (.putfield 315, 3) := by decide +kernel
theorem dX8_find_252 : decode cX8_find 252 = .ok (.iconst 1, 1) := by decide +kernel
theorem dX8_find_253 : decode cX8_find 253 = .ok (.ireturn, 1) := by decide +kernel
theorem dX8_worldsOf_0 : decode cX8_worldsOf 0 = .ok (.iconst 0, 1) := by decide +kernel
theorem dX8_worldsOf_1 : decode cX8_worldsOf 1 = .ok (.istore_n 2, 1) := by decide +kernel
theorem dX8_worldsOf_2 : decode cX8_worldsOf 2 = .ok (.iconst 0, 1) := by decide +kernel
theorem dX8_worldsOf_3 : decode cX8_worldsOf 3 = .ok (.istore_n 3, 1) := by decide +kernel
theorem dX8_worldsOf_4 : decode cX8_worldsOf 4 = .ok (.iload_n 3, 1) := by decide +kernel
theorem dX8_worldsOf_5 : decode cX8_worldsOf 5 = .ok (.aload_n 0, 1) := by decide +kernel
theorem dX8_worldsOf_6 : decode cX8_worldsOf 6 = .ok (.getfield 270, 3) := by decide +kernel
theorem dX8_worldsOf_9 : decode cX8_worldsOf 9 = .ok (.if_icmp .ge 20, 3) := by decide +kernel
theorem dX8_worldsOf_12 : decode cX8_worldsOf 12 = .ok (.iload_n 2, 1) := by decide +kernel
theorem dX8_worldsOf_13 : decode cX8_worldsOf 13 = .ok (.iconst 1, 1) := by decide +kernel
theorem dX8_worldsOf_14 : decode cX8_worldsOf 14 = .ok (.aload_n 0, 1) := by decide +kernel
theorem dX8_worldsOf_15 : decode cX8_worldsOf 15 = .ok (.getfield 53, 3) := by decide +kernel
theorem dX8_worldsOf_18 : decode cX8_worldsOf 18 = .ok (.iload_n 3, 1) := by decide +kernel
theorem dX8_worldsOf_19 : decode cX8_worldsOf 19 = .ok (.iaload, 1) := by decide +kernel
theorem dX8_worldsOf_20 : decode cX8_worldsOf 20 = .ok (.ishl, 1) := by decide +kernel
theorem dX8_worldsOf_21 : decode cX8_worldsOf 21 = .ok (.ior, 1) := by decide +kernel
theorem dX8_worldsOf_22 : decode cX8_worldsOf 22 = .ok (.istore_n 2, 1) := by decide +kernel
theorem dX8_worldsOf_23 : decode cX8_worldsOf 23 = .ok (.iinc 3 1, 3) := by decide +kernel
theorem dX8_worldsOf_26 : decode cX8_worldsOf 26 = .ok (.goto (-22), 3) := by decide +kernel
theorem dX8_worldsOf_29 : decode cX8_worldsOf 29 = .ok (.iconst 0, 1) := by decide +kernel
theorem dX8_worldsOf_30 : decode cX8_worldsOf 30 = .ok (.istore_n 3, 1) := by decide +kernel
theorem dX8_worldsOf_31 : decode cX8_worldsOf 31 = .ok (.iconst 0, 1) := by decide +kernel
theorem dX8_worldsOf_32 : decode cX8_worldsOf 32 = .ok (.istore 4, 2) := by decide +kernel
theorem dX8_worldsOf_34 : decode cX8_worldsOf 34 = .ok (.iload 4, 2) := by decide +kernel
theorem dX8_worldsOf_36 : decode cX8_worldsOf 36 = .ok (.iconst 1, 1) := by decide +kernel
theorem dX8_worldsOf_37 : decode cX8_worldsOf 37 = .ok (.aload_n 0, 1) := by decide +kernel
theorem dX8_worldsOf_38 : decode cX8_worldsOf 38 = .ok (.getfield 270, 3) := by decide +kernel
theorem dX8_worldsOf_41 : decode cX8_worldsOf 41 = .ok (.ishl, 1) := by decide +kernel
theorem dX8_worldsOf_42 : decode cX8_worldsOf 42 = .ok (.if_icmp .ge 93, 3) := by decide +kernel
theorem dX8_worldsOf_45 : decode cX8_worldsOf 45 = .ok (.aload_n 0, 1) := by decide +kernel
theorem dX8_worldsOf_46 : decode cX8_worldsOf 46 = .ok (.invokevirtual 225, 3) := by decide +kernel
theorem dX8_worldsOf_49 : decode cX8_worldsOf 49 = .ok (.iload_n 2, 1) := by decide +kernel
theorem dX8_worldsOf_50 : decode cX8_worldsOf 50 = .ok (.iconst (-1), 1) := by decide +kernel
theorem dX8_worldsOf_51 : decode cX8_worldsOf 51 = .ok (.ixor, 1) := by decide +kernel
theorem dX8_worldsOf_52 : decode cX8_worldsOf 52 = .ok (.iand, 1) := by decide +kernel
theorem dX8_worldsOf_53 : decode cX8_worldsOf 53 = .ok (.istore 5, 2) := by decide +kernel
theorem dX8_worldsOf_55 : decode cX8_worldsOf 55 = .ok (.iconst 0, 1) := by decide +kernel
theorem dX8_worldsOf_56 : decode cX8_worldsOf 56 = .ok (.istore 6, 2) := by decide +kernel
theorem dX8_worldsOf_58 : decode cX8_worldsOf 58 = .ok (.iload 6, 2) := by decide +kernel
theorem dX8_worldsOf_60 : decode cX8_worldsOf 60 = .ok (.aload_n 0, 1) := by decide +kernel
theorem dX8_worldsOf_61 : decode cX8_worldsOf 61 = .ok (.getfield 270, 3) := by decide +kernel
theorem dX8_worldsOf_64 : decode cX8_worldsOf 64 = .ok (.if_icmp .ge 38, 3) := by decide +kernel
theorem dX8_worldsOf_67 : decode cX8_worldsOf 67 = .ok (.iload 5, 2) := by decide +kernel
theorem dX8_worldsOf_69 : decode cX8_worldsOf 69 = .ok (.iload 4, 2) := by decide +kernel
theorem dX8_worldsOf_71 : decode cX8_worldsOf 71 = .ok (.iload 6, 2) := by decide +kernel
theorem dX8_worldsOf_73 : decode cX8_worldsOf 73 = .ok (.ishr, 1) := by decide +kernel
theorem dX8_worldsOf_74 : decode cX8_worldsOf 74 = .ok (.iconst 1, 1) := by decide +kernel
theorem dX8_worldsOf_75 : decode cX8_worldsOf 75 = .ok (.iand, 1) := by decide +kernel
theorem dX8_worldsOf_76 : decode cX8_worldsOf 76 = .ok (.iconst 1, 1) := by decide +kernel
theorem dX8_worldsOf_77 : decode cX8_worldsOf 77 = .ok (.if_icmp .ne 15, 3) := by decide +kernel
theorem dX8_worldsOf_80 : decode cX8_worldsOf 80 = .ok (.iconst 1, 1) := by decide +kernel
theorem dX8_worldsOf_81 : decode cX8_worldsOf 81 = .ok (.aload_n 0, 1) := by decide +kernel
theorem dX8_worldsOf_82 : decode cX8_worldsOf 82 = .ok (.getfield 53, 3) := by decide +kernel
theorem dX8_worldsOf_85 : decode cX8_worldsOf 85 = .ok (.iload 6, 2) := by decide +kernel
theorem dX8_worldsOf_87 : decode cX8_worldsOf 87 = .ok (.iaload, 1) := by decide +kernel
theorem dX8_worldsOf_88 : decode cX8_worldsOf 88 = .ok (.ishl, 1) := by decide +kernel
theorem dX8_worldsOf_89 : decode cX8_worldsOf 89 = .ok (.goto 4, 3) := by decide +kernel
theorem dX8_worldsOf_92 : decode cX8_worldsOf 92 = .ok (.iconst 0, 1) := by decide +kernel
theorem dX8_worldsOf_93 : decode cX8_worldsOf 93 = .ok (.ior, 1) := by decide +kernel
theorem dX8_worldsOf_94 : decode cX8_worldsOf 94 = .ok (.istore 5, 2) := by decide +kernel
theorem dX8_worldsOf_96 : decode cX8_worldsOf 96 = .ok (.iinc 6 1, 3) := by decide +kernel
theorem dX8_worldsOf_99 : decode cX8_worldsOf 99 = .ok (.goto (-41), 3) := by decide +kernel
theorem dX8_worldsOf_102 : decode cX8_worldsOf 102 = .ok (.iload_n 3, 1) := by decide +kernel
theorem dX8_worldsOf_103 : decode cX8_worldsOf 103 = .ok (.aload_n 0, 1) := by decide +kernel
theorem dX8_worldsOf_104 : decode cX8_worldsOf 104 = .ok (.iload 5, 2) := by decide +kernel
theorem dX8_worldsOf_106 : decode cX8_worldsOf 106 = .ok (.ldc 114, 2) := by decide +kernel
theorem dX8_worldsOf_108 : decode cX8_worldsOf 108 = .ok (.invokevirtual 228, 3) := by decide +kernel
theorem dX8_worldsOf_111 : decode cX8_worldsOf 111 = .ok (.iload_n 1, 1) := by decide +kernel
theorem dX8_worldsOf_112 : decode cX8_worldsOf 112 = .ok (.ishr, 1) := by decide +kernel
theorem dX8_worldsOf_113 : decode cX8_worldsOf 113 = .ok (.iconst 1, 1) := by decide +kernel
theorem dX8_worldsOf_114 : decode cX8_worldsOf 114 = .ok (.iand, 1) := by decide +kernel
theorem dX8_worldsOf_115 : decode cX8_worldsOf 115 = .ok (.iconst 1, 1) := by decide +kernel
theorem dX8_worldsOf_116 : decode cX8_worldsOf 116 = .ok (.if_icmp .ne 10, 3) := by decide +kernel
theorem dX8_worldsOf_119 : decode cX8_worldsOf 119 = .ok (.iconst 1, 1) := by decide +kernel
theorem dX8_worldsOf_120 : decode cX8_worldsOf 120 = .ok (.iload 4, 2) := by decide +kernel
theorem dX8_worldsOf_122 : decode cX8_worldsOf 122 = .ok (.ishl, 1) := by decide +kernel
theorem dX8_worldsOf_123 : decode cX8_worldsOf 123 = .ok (.goto 4, 3) := by decide +kernel
theorem dX8_worldsOf_126 : decode cX8_worldsOf 126 = .ok (.iconst 0, 1) := by decide +kernel
theorem dX8_worldsOf_127 : decode cX8_worldsOf 127 = .ok (.ior, 1) := by decide +kernel
theorem dX8_worldsOf_128 : decode cX8_worldsOf 128 = .ok (.istore_n 3, 1) := by decide +kernel
theorem dX8_worldsOf_129 : decode cX8_worldsOf 129 = .ok (.iinc 4 1, 3) := by decide +kernel
theorem dX8_worldsOf_132 : decode cX8_worldsOf 132 = .ok (.goto (-98), 3) := by decide +kernel
theorem dX8_worldsOf_135 : decode cX8_worldsOf 135 = .ok (.iload_n 3, 1) := by decide +kernel
theorem dX8_worldsOf_136 : decode cX8_worldsOf 136 = .ok (.ireturn, 1) := by decide +kernel
theorem dX8_agree_0 : decode cX8_agree 0 = .ok (.aload_n 0, 1) := by decide +kernel
theorem dX8_agree_1 : decode cX8_agree 1 = .ok (.iconst 0, 1) := by decide +kernel
theorem dX8_agree_2 : decode cX8_agree 2 = .ok (.putfield 78, 3) := by decide +kernel
theorem dX8_agree_5 : decode cX8_agree 5 = .ok (.aload_n 0, 1) := by decide +kernel
theorem dX8_agree_6 : decode cX8_agree 6 = .ok (.iconst 0, 1) := by decide +kernel
theorem dX8_agree_7 : decode cX8_agree 7 = .ok (.iconst 1, 1) := by decide +kernel
theorem dX8_agree_8 : decode cX8_agree 8 = .ok (.ldc 114, 2) := by decide +kernel
theorem dX8_agree_10 : decode cX8_agree 10 = .ok (.invokevirtual 318, 3) := by decide +kernel
theorem dX8_agree_13 : decode cX8_agree 13 = .ok (.ifCond .eq 7, 3) := by decide +kernel
theorem dX8_agree_16 : decode cX8_agree 16 = .ok (.iconst 1, 1) := by decide +kernel
theorem dX8_agree_17 : decode cX8_agree 17 = .ok (.goto 4, 3) := by decide +kernel
theorem dX8_agree_20 : decode cX8_agree 20 = .ok (.iconst 0, 1) := by decide +kernel
theorem dX8_agree_21 : decode cX8_agree 21 = .ok (.ireturn, 1) := by decide +kernel
theorem dX8_odds_0 : decode cX8_odds 0 = .ok (.aload_n 0, 1) := by decide +kernel
theorem dX8_odds_1 : decode cX8_odds 1 = .ok (.iconst 0, 1) := by decide +kernel
theorem dX8_odds_2 : decode cX8_odds 2 = .ok (.putfield 78, 3) := by decide +kernel
theorem dX8_odds_5 : decode cX8_odds 5 = .ok (.aload_n 0, 1) := by decide +kernel
theorem dX8_odds_6 : decode cX8_odds 6 = .ok (.iload_n 1, 1) := by decide +kernel
theorem dX8_odds_7 : decode cX8_odds 7 = .ok (.invokevirtual 244, 3) := by decide +kernel
theorem dX8_odds_10 : decode cX8_odds 10 = .ok (.ifCond .eq 15, 3) := by decide +kernel
theorem dX8_odds_13 : decode cX8_odds 13 = .ok (.iload_n 2, 1) := by decide +kernel
theorem dX8_odds_14 : decode cX8_odds 14 = .ok (.i2l, 1) := by decide +kernel
theorem dX8_odds_15 : decode cX8_odds 15 = .ok (.lconst 0, 1) := by decide +kernel
theorem dX8_odds_16 : decode cX8_odds 16 = .ok (.ldc2_w 322, 3) := by decide +kernel
theorem dX8_odds_19 : decode cX8_odds 19 = .ok (.invokestatic 88, 3) := by decide +kernel
theorem dX8_odds_22 : decode cX8_odds 22 = .ok (.ifCond .ne 6, 3) := by decide +kernel
theorem dX8_odds_25 : decode cX8_odds 25 = .ok (.ldc 98, 2) := by decide +kernel
theorem dX8_odds_27 : decode cX8_odds 27 = .ok (.ireturn, 1) := by decide +kernel
theorem dX8_odds_28 : decode cX8_odds 28 = .ok (.aload_n 0, 1) := by decide +kernel
theorem dX8_odds_29 : decode cX8_odds 29 = .ok (.aload_n 0, 1) := by decide +kernel
theorem dX8_odds_30 : decode cX8_odds 30 = .ok (.iload_n 1, 1) := by decide +kernel
theorem dX8_odds_31 : decode cX8_odds 31 = .ok (.invokevirtual 324, 3) := by decide +kernel
theorem dX8_odds_34 : decode cX8_odds 34 = .ok (.iload_n 2, 1) := by decide +kernel
theorem dX8_odds_35 : decode cX8_odds 35 = .ok (.iconst 2, 1) := by decide +kernel
theorem dX8_odds_36 : decode cX8_odds 36 = .ok (.if_icmp .ge 7, 3) := by decide +kernel
theorem dX8_odds_39 : decode cX8_odds 39 = .ok (.iconst (-1), 1) := by decide +kernel
theorem dX8_odds_40 : decode cX8_odds 40 = .ok (.goto 4, 3) := by decide +kernel
theorem dX8_odds_43 : decode cX8_odds 43 = .ok (.iconst 1, 1) := by decide +kernel
theorem dX8_odds_44 : decode cX8_odds 44 = .ok (.ldc 114, 2) := by decide +kernel
theorem dX8_odds_46 : decode cX8_odds 46 = .ok (.invokevirtual 318, 3) := by decide +kernel
theorem dX8_odds_49 : decode cX8_odds 49 = .ok (.ifCond .ne 6, 3) := by decide +kernel
theorem dX8_odds_52 : decode cX8_odds 52 = .ok (.ldc 247, 2) := by decide +kernel
theorem dX8_odds_54 : decode cX8_odds 54 = .ok (.ireturn, 1) := by decide +kernel
theorem dX8_odds_55 : decode cX8_odds 55 = .ok (.ldc2_w 268, 3) := by decide +kernel
theorem dX8_odds_58 : decode cX8_odds 58 = .ok (.aload_n 0, 1) := by decide +kernel
theorem dX8_odds_59 : decode cX8_odds 59 = .ok (.getfield 315, 3) := by decide +kernel
theorem dX8_odds_62 : decode cX8_odds 62 = .ok (.lmul, 1) := by decide +kernel
theorem dX8_odds_63 : decode cX8_odds 63 = .ok (.lstore_n 3, 1) := by decide +kernel
theorem dX8_odds_64 : decode cX8_odds 64 = .ok (.aload_n 0, 1) := by decide +kernel
theorem dX8_odds_65 : decode cX8_odds 65 = .ok (.getfield 312, 3) := by decide +kernel
theorem dX8_odds_68 : decode cX8_odds 68 = .ok (.lstore 5, 2) := by decide +kernel
theorem dX8_odds_70 : decode cX8_odds 70 = .ok (.lload_n 3, 1) := by decide +kernel
theorem dX8_odds_71 : decode cX8_odds 71 = .ok (.lstore 7, 2) := by decide +kernel
theorem dX8_odds_73 : decode cX8_odds 73 = .ok (.lload 7, 2) := by decide +kernel
theorem dX8_odds_75 : decode cX8_odds 75 = .ok (.lconst 0, 1) := by decide +kernel
theorem dX8_odds_76 : decode cX8_odds 76 = .ok (.lcmp, 1) := by decide +kernel
theorem dX8_odds_77 : decode cX8_odds 77 = .ok (.ifCond .eq 21, 3) := by decide +kernel
theorem dX8_odds_80 : decode cX8_odds 80 = .ok (.lload 5, 2) := by decide +kernel
theorem dX8_odds_82 : decode cX8_odds 82 = .ok (.lload 7, 2) := by decide +kernel
theorem dX8_odds_84 : decode cX8_odds 84 = .ok (.lrem, 1) := by decide +kernel
theorem dX8_odds_85 : decode cX8_odds 85 = .ok (.lstore 9, 2) := by decide +kernel
theorem dX8_odds_87 : decode cX8_odds 87 = .ok (.lload 7, 2) := by decide +kernel
theorem dX8_odds_89 : decode cX8_odds 89 = .ok (.lstore 5, 2) := by decide +kernel
theorem dX8_odds_91 : decode cX8_odds 91 = .ok (.lload 9, 2) := by decide +kernel
theorem dX8_odds_93 : decode cX8_odds 93 = .ok (.lstore 7, 2) := by decide +kernel
theorem dX8_odds_95 : decode cX8_odds 95 = .ok (.goto (-22), 3) := by decide +kernel
theorem dX8_odds_98 : decode cX8_odds 98 = .ok (.iload_n 2, 1) := by decide +kernel
theorem dX8_odds_99 : decode cX8_odds 99 = .ok (.iconst 2, 1) := by decide +kernel
theorem dX8_odds_100 : decode cX8_odds 100 = .ok (.irem, 1) := by decide +kernel
theorem dX8_odds_101 : decode cX8_odds 101 = .ok (.ifCond .ne 10, 3) := by decide +kernel
theorem dX8_odds_104 : decode cX8_odds 104 = .ok (.aload_n 0, 1) := by decide +kernel
theorem dX8_odds_105 : decode cX8_odds 105 = .ok (.getfield 312, 3) := by decide +kernel
theorem dX8_odds_108 : decode cX8_odds 108 = .ok (.goto 4, 3) := by decide +kernel
theorem dX8_odds_111 : decode cX8_odds 111 = .ok (.lload_n 3, 1) := by decide +kernel
theorem dX8_odds_112 : decode cX8_odds 112 = .ok (.lload 5, 2) := by decide +kernel
theorem dX8_odds_114 : decode cX8_odds 114 = .ok (.ldiv, 1) := by decide +kernel
theorem dX8_odds_115 : decode cX8_odds 115 = .ok (.l2i, 1) := by decide +kernel
theorem dX8_odds_116 : decode cX8_odds 116 = .ok (.ireturn, 1) := by decide +kernel
theorem dX8_raise_0 : decode cX8_raise 0 = .ok (.aload_n 0, 1) := by decide +kernel
theorem dX8_raise_1 : decode cX8_raise 1 = .ok (.iconst 0, 1) := by decide +kernel
theorem dX8_raise_2 : decode cX8_raise 2 = .ok (.putfield 78, 3) := by decide +kernel
theorem dX8_raise_5 : decode cX8_raise 5 = .ok (.aload_n 0, 1) := by decide +kernel
theorem dX8_raise_6 : decode cX8_raise 6 = .ok (.iload_n 1, 1) := by decide +kernel
theorem dX8_raise_7 : decode cX8_raise 7 = .ok (.invokevirtual 244, 3) := by decide +kernel
theorem dX8_raise_10 : decode cX8_raise 10 = .ok (.ifCond .ne 6, 3) := by decide +kernel
theorem dX8_raise_13 : decode cX8_raise 13 = .ok (.ldc 98, 2) := by decide +kernel
theorem dX8_raise_15 : decode cX8_raise 15 = .ok (.ireturn, 1) := by decide +kernel
theorem dX8_raise_16 : decode cX8_raise 16 = .ok (.aload_n 0, 1) := by decide +kernel
theorem dX8_raise_17 : decode cX8_raise 17 = .ok (.iload_n 1, 1) := by decide +kernel
theorem dX8_raise_18 : decode cX8_raise 18 = .ok (.invokevirtual 324, 3) := by decide +kernel
theorem dX8_raise_21 : decode cX8_raise 21 = .ok (.istore_n 2, 1) := by decide +kernel
theorem dX8_raise_22 : decode cX8_raise 22 = .ok (.aload_n 0, 1) := by decide +kernel
theorem dX8_raise_23 : decode cX8_raise 23 = .ok (.iload_n 2, 1) := by decide +kernel
theorem dX8_raise_24 : decode cX8_raise 24 = .ok (.iconst (-1), 1) := by decide +kernel
theorem dX8_raise_25 : decode cX8_raise 25 = .ok (.ldc 114, 2) := by decide +kernel
theorem dX8_raise_27 : decode cX8_raise 27 = .ok (.invokevirtual 318, 3) := by decide +kernel
theorem dX8_raise_30 : decode cX8_raise 30 = .ok (.ifCond .ne 6, 3) := by decide +kernel
theorem dX8_raise_33 : decode cX8_raise 33 = .ok (.ldc 247, 2) := by decide +kernel
theorem dX8_raise_35 : decode cX8_raise 35 = .ok (.ireturn, 1) := by decide +kernel
theorem dX8_raise_36 : decode cX8_raise 36 = .ok (.aload_n 0, 1) := by decide +kernel
theorem dX8_raise_37 : decode cX8_raise 37 = .ok (.getfield 312, 3) := by decide +kernel
theorem dX8_raise_40 : decode cX8_raise 40 = .ok (.lstore_n 3, 1) := by decide +kernel
theorem dX8_raise_41 : decode cX8_raise 41 = .ok (.aload_n 0, 1) := by decide +kernel
theorem dX8_raise_42 : decode cX8_raise 42 = .ok (.getfield 315, 3) := by decide +kernel
theorem dX8_raise_45 : decode cX8_raise 45 = .ok (.lstore 5, 2) := by decide +kernel
theorem dX8_raise_47 : decode cX8_raise 47 = .ok (.ldc 114, 2) := by decide +kernel
theorem dX8_raise_49 : decode cX8_raise 49 = .ok (.istore 7, 2) := by decide +kernel
theorem dX8_raise_51 : decode cX8_raise 51 = .ok (.iconst 0, 1) := by decide +kernel
theorem dX8_raise_52 : decode cX8_raise 52 = .ok (.istore 8, 2) := by decide +kernel
theorem dX8_raise_54 : decode cX8_raise 54 = .ok (.iload 8, 2) := by decide +kernel
theorem dX8_raise_56 : decode cX8_raise 56 = .ok (.aload_n 0, 1) := by decide +kernel
theorem dX8_raise_57 : decode cX8_raise 57 = .ok (.getfield 270, 3) := by decide +kernel
theorem dX8_raise_60 : decode cX8_raise 60 = .ok (.if_icmp .ge 57, 3) := by decide +kernel
theorem dX8_raise_63 : decode cX8_raise 63 = .ok (.aload_n 0, 1) := by decide +kernel
theorem dX8_raise_64 : decode cX8_raise 64 = .ok (.iload_n 2, 1) := by decide +kernel
theorem dX8_raise_65 : decode cX8_raise 65 = .ok (.iconst (-1), 1) := by decide +kernel
theorem dX8_raise_66 : decode cX8_raise 66 = .ok (.iload 8, 2) := by decide +kernel
theorem dX8_raise_68 : decode cX8_raise 68 = .ok (.invokevirtual 318, 3) := by decide +kernel
theorem dX8_raise_71 : decode cX8_raise 71 = .ok (.ifCond .eq 40, 3) := by decide +kernel
theorem dX8_raise_74 : decode cX8_raise 74 = .ok (.aload_n 0, 1) := by decide +kernel
theorem dX8_raise_75 : decode cX8_raise 75 = .ok (.getfield 312, 3) := by decide +kernel
theorem dX8_raise_78 : decode cX8_raise 78 = .ok (.lload 5, 2) := by decide +kernel
theorem dX8_raise_80 : decode cX8_raise 80 = .ok (.lmul, 1) := by decide +kernel
theorem dX8_raise_81 : decode cX8_raise 81 = .ok (.lload_n 3, 1) := by decide +kernel
theorem dX8_raise_82 : decode cX8_raise 82 = .ok (.aload_n 0, 1) := by decide +kernel
theorem dX8_raise_83 : decode cX8_raise 83 = .ok (.getfield 315, 3) := by decide +kernel
theorem dX8_raise_86 : decode cX8_raise 86 = .ok (.lmul, 1) := by decide +kernel
theorem dX8_raise_87 : decode cX8_raise 87 = .ok (.lcmp, 1) := by decide +kernel
theorem dX8_raise_88 : decode cX8_raise 88 = .ok (.ifCond .le 23, 3) := by decide +kernel
theorem dX8_raise_91 : decode cX8_raise 91 = .ok (.aload_n 0, 1) := by decide +kernel
theorem dX8_raise_92 : decode cX8_raise 92 = .ok (.getfield 53, 3) := by decide +kernel
theorem dX8_raise_95 : decode cX8_raise 95 = .ok (.iload 8, 2) := by decide +kernel
theorem dX8_raise_97 : decode cX8_raise 97 = .ok (.iaload, 1) := by decide +kernel
theorem dX8_raise_98 : decode cX8_raise 98 = .ok (.istore 7, 2) := by decide +kernel
theorem dX8_raise_100 : decode cX8_raise 100 = .ok (.aload_n 0, 1) := by decide +kernel
theorem dX8_raise_101 : decode cX8_raise 101 = .ok (.getfield 312, 3) := by decide +kernel
theorem dX8_raise_104 : decode cX8_raise 104 = .ok (.lstore_n 3, 1) := by decide +kernel
theorem dX8_raise_105 : decode cX8_raise 105 = .ok (.aload_n 0, 1) := by decide +kernel
theorem dX8_raise_106 : decode cX8_raise 106 = .ok (.getfield 315, 3) := by decide +kernel
theorem dX8_raise_109 : decode cX8_raise 109 = .ok (.lstore 5, 2) := by decide +kernel
theorem dX8_raise_111 : decode cX8_raise 111 = .ok (.iinc 8 1, 3) := by decide +kernel
theorem dX8_raise_114 : decode cX8_raise 114 = .ok (.goto (-60), 3) := by decide +kernel
theorem dX8_raise_117 : decode cX8_raise 117 = .ok (.iload 7, 2) := by decide +kernel
theorem dX8_raise_119 : decode cX8_raise 119 = .ok (.ireturn, 1) := by decide +kernel
theorem dX8_partsIn_0 : decode cX8_partsIn 0 = .ok (.iconst 0, 1) := by decide +kernel
theorem dX8_partsIn_1 : decode cX8_partsIn 1 = .ok (.istore_n 2, 1) := by decide +kernel
theorem dX8_partsIn_2 : decode cX8_partsIn 2 = .ok (.iconst 0, 1) := by decide +kernel
theorem dX8_partsIn_3 : decode cX8_partsIn 3 = .ok (.istore_n 3, 1) := by decide +kernel
theorem dX8_partsIn_4 : decode cX8_partsIn 4 = .ok (.iload_n 3, 1) := by decide +kernel
theorem dX8_partsIn_5 : decode cX8_partsIn 5 = .ok (.aload_n 0, 1) := by decide +kernel
theorem dX8_partsIn_6 : decode cX8_partsIn 6 = .ok (.getfield 188, 3) := by decide +kernel
theorem dX8_partsIn_9 : decode cX8_partsIn 9 = .ok (.if_icmp .ge 26, 3) := by decide +kernel
theorem dX8_partsIn_12 : decode cX8_partsIn 12 = .ok (.iload_n 2, 1) := by decide +kernel
theorem dX8_partsIn_13 : decode cX8_partsIn 13 = .ok (.aload_n 0, 1) := by decide +kernel
theorem dX8_partsIn_14 : decode cX8_partsIn 14 = .ok (.iload_n 3, 1) := by decide +kernel
theorem dX8_partsIn_15 : decode cX8_partsIn 15 = .ok (.iload_n 1, 1) := by decide +kernel
theorem dX8_partsIn_16 : decode cX8_partsIn 16 = .ok (.invokevirtual 181, 3) := by decide +kernel
theorem dX8_partsIn_19 : decode cX8_partsIn 19 = .ok (.ifCond .eq 7, 3) := by decide +kernel
theorem dX8_partsIn_22 : decode cX8_partsIn 22 = .ok (.iconst 1, 1) := by decide +kernel
theorem dX8_partsIn_23 : decode cX8_partsIn 23 = .ok (.goto 4, 3) := by decide +kernel
theorem dX8_partsIn_26 : decode cX8_partsIn 26 = .ok (.iconst 0, 1) := by decide +kernel
theorem dX8_partsIn_27 : decode cX8_partsIn 27 = .ok (.iadd, 1) := by decide +kernel
theorem dX8_partsIn_28 : decode cX8_partsIn 28 = .ok (.istore_n 2, 1) := by decide +kernel
theorem dX8_partsIn_29 : decode cX8_partsIn 29 = .ok (.iinc 3 1, 3) := by decide +kernel
theorem dX8_partsIn_32 : decode cX8_partsIn 32 = .ok (.goto (-28), 3) := by decide +kernel
theorem dX8_partsIn_35 : decode cX8_partsIn 35 = .ok (.iload_n 2, 1) := by decide +kernel
theorem dX8_partsIn_36 : decode cX8_partsIn 36 = .ok (.ireturn, 1) := by decide +kernel
theorem dX8_heldBy_0 : decode cX8_heldBy 0 = .ok (.iconst 0, 1) := by decide +kernel
theorem dX8_heldBy_1 : decode cX8_heldBy 1 = .ok (.istore_n 2, 1) := by decide +kernel
theorem dX8_heldBy_2 : decode cX8_heldBy 2 = .ok (.iconst 0, 1) := by decide +kernel
theorem dX8_heldBy_3 : decode cX8_heldBy 3 = .ok (.istore_n 3, 1) := by decide +kernel
theorem dX8_heldBy_4 : decode cX8_heldBy 4 = .ok (.iload_n 3, 1) := by decide +kernel
theorem dX8_heldBy_5 : decode cX8_heldBy 5 = .ok (.aload_n 0, 1) := by decide +kernel
theorem dX8_heldBy_6 : decode cX8_heldBy 6 = .ok (.getfield 188, 3) := by decide +kernel
theorem dX8_heldBy_9 : decode cX8_heldBy 9 = .ok (.if_icmp .ge 27, 3) := by decide +kernel
theorem dX8_heldBy_12 : decode cX8_heldBy 12 = .ok (.iload_n 2, 1) := by decide +kernel
theorem dX8_heldBy_13 : decode cX8_heldBy 13 = .ok (.aload_n 0, 1) := by decide +kernel
theorem dX8_heldBy_14 : decode cX8_heldBy 14 = .ok (.getfield 38, 3) := by decide +kernel
theorem dX8_heldBy_17 : decode cX8_heldBy 17 = .ok (.iload_n 3, 1) := by decide +kernel
theorem dX8_heldBy_18 : decode cX8_heldBy 18 = .ok (.iaload, 1) := by decide +kernel
theorem dX8_heldBy_19 : decode cX8_heldBy 19 = .ok (.iload_n 1, 1) := by decide +kernel
theorem dX8_heldBy_20 : decode cX8_heldBy 20 = .ok (.if_icmp .ne 7, 3) := by decide +kernel
theorem dX8_heldBy_23 : decode cX8_heldBy 23 = .ok (.iconst 1, 1) := by decide +kernel
theorem dX8_heldBy_24 : decode cX8_heldBy 24 = .ok (.goto 4, 3) := by decide +kernel
theorem dX8_heldBy_27 : decode cX8_heldBy 27 = .ok (.iconst 0, 1) := by decide +kernel
theorem dX8_heldBy_28 : decode cX8_heldBy 28 = .ok (.iadd, 1) := by decide +kernel
theorem dX8_heldBy_29 : decode cX8_heldBy 29 = .ok (.istore_n 2, 1) := by decide +kernel
theorem dX8_heldBy_30 : decode cX8_heldBy 30 = .ok (.iinc 3 1, 3) := by decide +kernel
theorem dX8_heldBy_33 : decode cX8_heldBy 33 = .ok (.goto (-29), 3) := by decide +kernel
theorem dX8_heldBy_36 : decode cX8_heldBy 36 = .ok (.iload_n 2, 1) := by decide +kernel
theorem dX8_heldBy_37 : decode cX8_heldBy 37 = .ok (.ireturn, 1) := by decide +kernel
theorem dX8_kindOf_0 : decode cX8_kindOf 0 = .ok (.aload_n 0, 1) := by decide +kernel
theorem dX8_kindOf_1 : decode cX8_kindOf 1 = .ok (.getfield 19, 3) := by decide +kernel
theorem dX8_kindOf_4 : decode cX8_kindOf 4 = .ok (.iload_n 1, 1) := by decide +kernel
theorem dX8_kindOf_5 : decode cX8_kindOf 5 = .ok (.iaload, 1) := by decide +kernel
theorem dX8_kindOf_6 : decode cX8_kindOf 6 = .ok (.iconst 2, 1) := by decide +kernel
theorem dX8_kindOf_7 : decode cX8_kindOf 7 = .ok (.if_icmp .ne 19, 3) := by decide +kernel
theorem dX8_kindOf_10 : decode cX8_kindOf 10 = .ok (.aload_n 0, 1) := by decide +kernel
theorem dX8_kindOf_11 : decode cX8_kindOf 11 = .ok (.iload_n 1, 1) := by decide +kernel
theorem dX8_kindOf_12 : decode cX8_kindOf 12 = .ok (.invokevirtual 327, 3) := by decide +kernel
theorem dX8_kindOf_15 : decode cX8_kindOf 15 = .ok (.ifCond .ne 7, 3) := by decide +kernel
theorem dX8_kindOf_18 : decode cX8_kindOf 18 = .ok (.iconst 4, 1) := by decide +kernel
theorem dX8_kindOf_19 : decode cX8_kindOf 19 = .ok (.goto 34, 3) := by decide +kernel
theorem dX8_kindOf_22 : decode cX8_kindOf 22 = .ok (.iconst 3, 1) := by decide +kernel
theorem dX8_kindOf_23 : decode cX8_kindOf 23 = .ok (.goto 30, 3) := by decide +kernel
theorem dX8_kindOf_26 : decode cX8_kindOf 26 = .ok (.aload_n 0, 1) := by decide +kernel
theorem dX8_kindOf_27 : decode cX8_kindOf 27 = .ok (.iload_n 1, 1) := by decide +kernel
theorem dX8_kindOf_28 : decode cX8_kindOf 28 = .ok (.invokevirtual 210, 3) := by decide +kernel
theorem dX8_kindOf_31 : decode cX8_kindOf 31 = .ok (.ifCond .ne 7, 3) := by decide +kernel
theorem dX8_kindOf_34 : decode cX8_kindOf 34 = .ok (.iconst 5, 1) := by decide +kernel
theorem dX8_kindOf_35 : decode cX8_kindOf 35 = .ok (.goto 18, 3) := by decide +kernel
theorem dX8_kindOf_38 : decode cX8_kindOf 38 = .ok (.aload_n 0, 1) := by decide +kernel
theorem dX8_kindOf_39 : decode cX8_kindOf 39 = .ok (.getfield 19, 3) := by decide +kernel
theorem dX8_kindOf_42 : decode cX8_kindOf 42 = .ok (.iload_n 1, 1) := by decide +kernel
theorem dX8_kindOf_43 : decode cX8_kindOf 43 = .ok (.iaload, 1) := by decide +kernel
theorem dX8_kindOf_44 : decode cX8_kindOf 44 = .ok (.iconst 1, 1) := by decide +kernel
theorem dX8_kindOf_45 : decode cX8_kindOf 45 = .ok (.if_icmp .ne 7, 3) := by decide +kernel
theorem dX8_kindOf_48 : decode cX8_kindOf 48 = .ok (.iconst 2, 1) := by decide +kernel
theorem dX8_kindOf_49 : decode cX8_kindOf 49 = .ok (.goto 4, 3) := by decide +kernel
theorem dX8_kindOf_52 : decode cX8_kindOf 52 = .ok (.iconst 1, 1) := by decide +kernel
theorem dX8_kindOf_53 : decode cX8_kindOf 53 = .ok (.ireturn, 1) := by decide +kernel
theorem dX8_isOf_0 : decode cX8_isOf 0 = .ok (.iload_n 1, 1) := by decide +kernel
theorem dX8_isOf_1 : decode cX8_isOf 1 = .ok (.ifCond .eq 33, 3) := by decide +kernel
theorem dX8_isOf_4 : decode cX8_isOf 4 = .ok (.iload_n 0, 1) := by decide +kernel
theorem dX8_isOf_5 : decode cX8_isOf 5 = .ok (.iload_n 1, 1) := by decide +kernel
theorem dX8_isOf_6 : decode cX8_isOf 6 = .ok (.if_icmp .eq 28, 3) := by decide +kernel
theorem dX8_isOf_9 : decode cX8_isOf 9 = .ok (.iload_n 1, 1) := by decide +kernel
theorem dX8_isOf_10 : decode cX8_isOf 10 = .ok (.iconst 1, 1) := by decide +kernel
theorem dX8_isOf_11 : decode cX8_isOf 11 = .ok (.if_icmp .ne 13, 3) := by decide +kernel
theorem dX8_isOf_14 : decode cX8_isOf 14 = .ok (.iload_n 0, 1) := by decide +kernel
theorem dX8_isOf_15 : decode cX8_isOf 15 = .ok (.iconst 2, 1) := by decide +kernel
theorem dX8_isOf_16 : decode cX8_isOf 16 = .ok (.if_icmp .eq 18, 3) := by decide +kernel
theorem dX8_isOf_19 : decode cX8_isOf 19 = .ok (.iload_n 0, 1) := by decide +kernel
theorem dX8_isOf_20 : decode cX8_isOf 20 = .ok (.iconst 5, 1) := by decide +kernel
theorem dX8_isOf_21 : decode cX8_isOf 21 = .ok (.if_icmp .eq 13, 3) := by decide +kernel
theorem dX8_isOf_24 : decode cX8_isOf 24 = .ok (.iload_n 1, 1) := by decide +kernel
theorem dX8_isOf_25 : decode cX8_isOf 25 = .ok (.iconst 3, 1) := by decide +kernel
theorem dX8_isOf_26 : decode cX8_isOf 26 = .ok (.if_icmp .ne 12, 3) := by decide +kernel
theorem dX8_isOf_29 : decode cX8_isOf 29 = .ok (.iload_n 0, 1) := by decide +kernel
theorem dX8_isOf_30 : decode cX8_isOf 30 = .ok (.iconst 4, 1) := by decide +kernel
theorem dX8_isOf_31 : decode cX8_isOf 31 = .ok (.if_icmp .ne 7, 3) := by decide +kernel
theorem dX8_isOf_34 : decode cX8_isOf 34 = .ok (.iconst 1, 1) := by decide +kernel
theorem dX8_isOf_35 : decode cX8_isOf 35 = .ok (.goto 4, 3) := by decide +kernel
theorem dX8_isOf_38 : decode cX8_isOf 38 = .ok (.iconst 0, 1) := by decide +kernel
theorem dX8_isOf_39 : decode cX8_isOf 39 = .ok (.ireturn, 1) := by decide +kernel
theorem dX8_kind_0 : decode cX8_kind 0 = .ok (.aload_n 0, 1) := by decide +kernel
theorem dX8_kind_1 : decode cX8_kind 1 = .ok (.iconst 0, 1) := by decide +kernel
theorem dX8_kind_2 : decode cX8_kind 2 = .ok (.putfield 78, 3) := by decide +kernel
theorem dX8_kind_5 : decode cX8_kind 5 = .ok (.aload_n 0, 1) := by decide +kernel
theorem dX8_kind_6 : decode cX8_kind 6 = .ok (.iload_n 1, 1) := by decide +kernel
theorem dX8_kind_7 : decode cX8_kind 7 = .ok (.invokevirtual 204, 3) := by decide +kernel
theorem dX8_kind_10 : decode cX8_kind 10 = .ok (.ifCond .eq 11, 3) := by decide +kernel
theorem dX8_kind_13 : decode cX8_kind 13 = .ok (.aload_n 0, 1) := by decide +kernel
theorem dX8_kind_14 : decode cX8_kind 14 = .ok (.iload_n 1, 1) := by decide +kernel
theorem dX8_kind_15 : decode cX8_kind 15 = .ok (.invokevirtual 330, 3) := by decide +kernel
theorem dX8_kind_18 : decode cX8_kind 18 = .ok (.goto 5, 3) := by decide +kernel
theorem dX8_kind_21 : decode cX8_kind 21 = .ok (.ldc 98, 2) := by decide +kernel
theorem dX8_kind_23 : decode cX8_kind 23 = .ok (.ireturn, 1) := by decide +kernel
theorem dX8_as_0 : decode cX8_as 0 = .ok (.aload_n 0, 1) := by decide +kernel
theorem dX8_as_1 : decode cX8_as 1 = .ok (.iconst 0, 1) := by decide +kernel
theorem dX8_as_2 : decode cX8_as 2 = .ok (.putfield 78, 3) := by decide +kernel
theorem dX8_as_5 : decode cX8_as 5 = .ok (.aload_n 0, 1) := by decide +kernel
theorem dX8_as_6 : decode cX8_as 6 = .ok (.iload_n 1, 1) := by decide +kernel
theorem dX8_as_7 : decode cX8_as 7 = .ok (.invokevirtual 204, 3) := by decide +kernel
theorem dX8_as_10 : decode cX8_as 10 = .ok (.ifCond .eq 15, 3) := by decide +kernel
theorem dX8_as_13 : decode cX8_as 13 = .ok (.iload_n 2, 1) := by decide +kernel
theorem dX8_as_14 : decode cX8_as 14 = .ok (.i2l, 1) := by decide +kernel
theorem dX8_as_15 : decode cX8_as 15 = .ok (.lconst 0, 1) := by decide +kernel
theorem dX8_as_16 : decode cX8_as 16 = .ok (.ldc2_w 254, 3) := by decide +kernel
theorem dX8_as_19 : decode cX8_as 19 = .ok (.invokestatic 88, 3) := by decide +kernel
theorem dX8_as_22 : decode cX8_as 22 = .ok (.ifCond .ne 6, 3) := by decide +kernel
theorem dX8_as_25 : decode cX8_as 25 = .ok (.ldc 98, 2) := by decide +kernel
theorem dX8_as_27 : decode cX8_as 27 = .ok (.ireturn, 1) := by decide +kernel
theorem dX8_as_28 : decode cX8_as 28 = .ok (.aload_n 0, 1) := by decide +kernel
theorem dX8_as_29 : decode cX8_as 29 = .ok (.iconst 0, 1) := by decide +kernel
theorem dX8_as_30 : decode cX8_as 30 = .ok (.putfield 82, 3) := by decide +kernel
theorem dX8_as_33 : decode cX8_as 33 = .ok (.aload_n 0, 1) := by decide +kernel
theorem dX8_as_34 : decode cX8_as 34 = .ok (.iload_n 1, 1) := by decide +kernel
theorem dX8_as_35 : decode cX8_as 35 = .ok (.invokevirtual 330, 3) := by decide +kernel
theorem dX8_as_38 : decode cX8_as 38 = .ok (.iload_n 2, 1) := by decide +kernel
theorem dX8_as_39 : decode cX8_as 39 = .ok (.invokestatic 333, 3) := by decide +kernel
theorem dX8_as_42 : decode cX8_as 42 = .ok (.ifCond .eq 7, 3) := by decide +kernel
theorem dX8_as_45 : decode cX8_as 45 = .ok (.iload_n 1, 1) := by decide +kernel
theorem dX8_as_46 : decode cX8_as 46 = .ok (.goto 8, 3) := by decide +kernel
theorem dX8_as_49 : decode cX8_as 49 = .ok (.aload_n 0, 1) := by decide +kernel
theorem dX8_as_50 : decode cX8_as 50 = .ok (.iconst 3, 1) := by decide +kernel
theorem dX8_as_51 : decode cX8_as 51 = .ok (.invokevirtual 99, 3) := by decide +kernel
theorem dX8_as_54 : decode cX8_as 54 = .ok (.ireturn, 1) := by decide +kernel
theorem dX8_began_0 : decode cX8_began 0 = .ok (.aload_n 0, 1) := by decide +kernel
theorem dX8_began_1 : decode cX8_began 1 = .ok (.getfield 336, 3) := by decide +kernel
theorem dX8_began_4 : decode cX8_began 4 = .ok (.bipush 16, 2) := by decide +kernel
theorem dX8_began_6 : decode cX8_began 6 = .ok (.if_icmp .ge 23, 3) := by decide +kernel
theorem dX8_began_9 : decode cX8_began 9 = .ok (.aload_n 0, 1) := by decide +kernel
theorem dX8_began_10 : decode cX8_began 10 = .ok (.getfield 75, 3) := by decide +kernel
theorem dX8_began_13 : decode cX8_began 13 = .ok (.aload_n 0, 1) := by decide +kernel
theorem dX8_began_14 : decode cX8_began 14 = .ok (.getfield 336, 3) := by decide +kernel
theorem dX8_began_17 : decode cX8_began 17 = .ok (.iload_n 1, 1) := by decide +kernel
theorem dX8_began_18 : decode cX8_began 18 = .ok (.iastore, 1) := by decide +kernel
theorem dX8_began_19 : decode cX8_began 19 = .ok (.aload_n 0, 1) := by decide +kernel
theorem dX8_began_20 : decode cX8_began 20 = .ok (.dup, 1) := by decide +kernel
theorem dX8_began_21 : decode cX8_began 21 = .ok (.getfield 336, 3) := by decide +kernel
theorem dX8_began_24 : decode cX8_began 24 = .ok (.iconst 1, 1) := by decide +kernel
theorem dX8_began_25 : decode cX8_began 25 = .ok (.iadd, 1) := by decide +kernel
theorem dX8_began_26 : decode cX8_began 26 = .ok (.putfield 336, 3) := by decide +kernel
theorem dX8_began_29 : decode cX8_began 29 = .ok (.return_, 1) := by decide +kernel
theorem dX8_markOf_0 : decode cX8_markOf 0 = .ok (.iload_n 2, 1) := by decide +kernel
theorem dX8_markOf_1 : decode cX8_markOf 1 = .ok (.iconst 5, 1) := by decide +kernel
theorem dX8_markOf_2 : decode cX8_markOf 2 = .ok (.if_icmp .eq 11, 3) := by decide +kernel
theorem dX8_markOf_5 : decode cX8_markOf 5 = .ok (.iload_n 2, 1) := by decide +kernel
theorem dX8_markOf_6 : decode cX8_markOf 6 = .ok (.iconst 3, 1) := by decide +kernel
theorem dX8_markOf_7 : decode cX8_markOf 7 = .ok (.invokestatic 333, 3) := by decide +kernel
theorem dX8_markOf_10 : decode cX8_markOf 10 = .ok (.ifCond .eq 19, 3) := by decide +kernel
theorem dX8_markOf_13 : decode cX8_markOf 13 = .ok (.aload_n 0, 1) := by decide +kernel
theorem dX8_markOf_14 : decode cX8_markOf 14 = .ok (.iload_n 2, 1) := by decide +kernel
theorem dX8_markOf_15 : decode cX8_markOf 15 = .ok (.iconst 5, 1) := by decide +kernel
theorem dX8_markOf_16 : decode cX8_markOf 16 = .ok (.if_icmp .ne 8, 3) := by decide +kernel
theorem dX8_markOf_19 : decode cX8_markOf 19 = .ok (.bipush 22, 2) := by decide +kernel
theorem dX8_markOf_21 : decode cX8_markOf 21 = .ok (.goto 5, 3) := by decide +kernel
theorem dX8_markOf_24 : decode cX8_markOf 24 = .ok (.bipush 21, 2) := by decide +kernel
theorem dX8_markOf_26 : decode cX8_markOf 26 = .ok (.invokevirtual 339, 3) := by decide +kernel
theorem dX8_markOf_29 : decode cX8_markOf 29 = .ok (.aload_n 0, 1) := by decide +kernel
theorem dX8_markOf_30 : decode cX8_markOf 30 = .ok (.bipush 20, 2) := by decide +kernel
theorem dX8_markOf_32 : decode cX8_markOf 32 = .ok (.invokevirtual 339, 3) := by decide +kernel
theorem dX8_markOf_35 : decode cX8_markOf 35 = .ok (.iload_n 1, 1) := by decide +kernel
theorem dX8_markOf_36 : decode cX8_markOf 36 = .ok (.iload_n 2, 1) := by decide +kernel
theorem dX8_markOf_37 : decode cX8_markOf 37 = .ok (.iconst 5, 1) := by decide +kernel
theorem dX8_markOf_38 : decode cX8_markOf 38 = .ok (.if_icmp .ne 10, 3) := by decide +kernel
theorem dX8_markOf_41 : decode cX8_markOf 41 = .ok (.aload_n 0, 1) := by decide +kernel
theorem dX8_markOf_42 : decode cX8_markOf 42 = .ok (.getfield 207, 3) := by decide +kernel
theorem dX8_markOf_45 : decode cX8_markOf 45 = .ok (.goto 29, 3) := by decide +kernel
theorem dX8_markOf_48 : decode cX8_markOf 48 = .ok (.iload_n 2, 1) := by decide +kernel
theorem dX8_markOf_49 : decode cX8_markOf 49 = .ok (.iconst 3, 1) := by decide +kernel
theorem dX8_markOf_50 : decode cX8_markOf 50 = .ok (.invokestatic 333, 3) := by decide +kernel
theorem dX8_markOf_53 : decode cX8_markOf 53 = .ok (.ifCond .eq 20, 3) := by decide +kernel
theorem dX8_markOf_56 : decode cX8_markOf 56 = .ok (.aload_n 0, 1) := by decide +kernel
theorem dX8_markOf_57 : decode cX8_markOf 57 = .ok (.invokevirtual 232, 3) := by decide +kernel
theorem dX8_markOf_60 : decode cX8_markOf 60 = .ok (.iload_n 1, 1) := by decide +kernel
theorem dX8_markOf_61 : decode cX8_markOf 61 = .ok (.ishr, 1) := by decide +kernel
theorem dX8_markOf_62 : decode cX8_markOf 62 = .ok (.iconst 1, 1) := by decide +kernel
theorem dX8_markOf_63 : decode cX8_markOf 63 = .ok (.iand, 1) := by decide +kernel
theorem dX8_markOf_64 : decode cX8_markOf 64 = .ok (.iconst 1, 1) := by decide +kernel
theorem dX8_markOf_65 : decode cX8_markOf 65 = .ok (.if_icmp .ne 8, 3) := by decide +kernel
theorem dX8_markOf_68 : decode cX8_markOf 68 = .ok (.bipush 100, 2) := by decide +kernel
theorem dX8_markOf_70 : decode cX8_markOf 70 = .ok (.goto 4, 3) := by decide +kernel
theorem dX8_markOf_73 : decode cX8_markOf 73 = .ok (.iconst 0, 1) := by decide +kernel
theorem dX8_markOf_74 : decode cX8_markOf 74 = .ok (.iadd, 1) := by decide +kernel
theorem dX8_markOf_75 : decode cX8_markOf 75 = .ok (.ireturn, 1) := by decide +kernel
theorem dX8_sizeOf_0 : decode cX8_sizeOf 0 = .ok (.iload_n 2, 1) := by decide +kernel
theorem dX8_sizeOf_1 : decode cX8_sizeOf 1 = .ok (.iconst 2, 1) := by decide +kernel
theorem dX8_sizeOf_2 : decode cX8_sizeOf 2 = .ok (.if_icmp .eq 13, 3) := by decide +kernel
theorem dX8_sizeOf_5 : decode cX8_sizeOf 5 = .ok (.iload_n 2, 1) := by decide +kernel
theorem dX8_sizeOf_6 : decode cX8_sizeOf 6 = .ok (.iconst 5, 1) := by decide +kernel
theorem dX8_sizeOf_7 : decode cX8_sizeOf 7 = .ok (.if_icmp .eq 8, 3) := by decide +kernel
theorem dX8_sizeOf_10 : decode cX8_sizeOf 10 = .ok (.iload_n 2, 1) := by decide +kernel
theorem dX8_sizeOf_11 : decode cX8_sizeOf 11 = .ok (.iconst 4, 1) := by decide +kernel
theorem dX8_sizeOf_12 : decode cX8_sizeOf 12 = .ok (.if_icmp .ne 29, 3) := by decide +kernel
theorem dX8_sizeOf_15 : decode cX8_sizeOf 15 = .ok (.aload_n 0, 1) := by decide +kernel
theorem dX8_sizeOf_16 : decode cX8_sizeOf 16 = .ok (.iload_n 2, 1) := by decide +kernel
theorem dX8_sizeOf_17 : decode cX8_sizeOf 17 = .ok (.iconst 2, 1) := by decide +kernel
theorem dX8_sizeOf_18 : decode cX8_sizeOf 18 = .ok (.if_icmp .ne 8, 3) := by decide +kernel
theorem dX8_sizeOf_21 : decode cX8_sizeOf 21 = .ok (.bipush 12, 2) := by decide +kernel
theorem dX8_sizeOf_23 : decode cX8_sizeOf 23 = .ok (.goto 15, 3) := by decide +kernel
theorem dX8_sizeOf_26 : decode cX8_sizeOf 26 = .ok (.iload_n 2, 1) := by decide +kernel
theorem dX8_sizeOf_27 : decode cX8_sizeOf 27 = .ok (.iconst 5, 1) := by decide +kernel
theorem dX8_sizeOf_28 : decode cX8_sizeOf 28 = .ok (.if_icmp .ne 8, 3) := by decide +kernel
theorem dX8_sizeOf_31 : decode cX8_sizeOf 31 = .ok (.bipush 15, 2) := by decide +kernel
theorem dX8_sizeOf_33 : decode cX8_sizeOf 33 = .ok (.goto 5, 3) := by decide +kernel
theorem dX8_sizeOf_36 : decode cX8_sizeOf 36 = .ok (.bipush 14, 2) := by decide +kernel
theorem dX8_sizeOf_38 : decode cX8_sizeOf 38 = .ok (.invokevirtual 339, 3) := by decide +kernel
theorem dX8_sizeOf_41 : decode cX8_sizeOf 41 = .ok (.aload_n 0, 1) := by decide +kernel
theorem dX8_sizeOf_42 : decode cX8_sizeOf 42 = .ok (.iload_n 2, 1) := by decide +kernel
theorem dX8_sizeOf_43 : decode cX8_sizeOf 43 = .ok (.iconst 1, 1) := by decide +kernel
theorem dX8_sizeOf_44 : decode cX8_sizeOf 44 = .ok (.invokestatic 333, 3) := by decide +kernel
theorem dX8_sizeOf_47 : decode cX8_sizeOf 47 = .ok (.ifCond .eq 8, 3) := by decide +kernel
theorem dX8_sizeOf_50 : decode cX8_sizeOf 50 = .ok (.bipush 11, 2) := by decide +kernel
theorem dX8_sizeOf_52 : decode cX8_sizeOf 52 = .ok (.goto 5, 3) := by decide +kernel
theorem dX8_sizeOf_55 : decode cX8_sizeOf 55 = .ok (.bipush 13, 2) := by decide +kernel
theorem dX8_sizeOf_57 : decode cX8_sizeOf 57 = .ok (.invokevirtual 339, 3) := by decide +kernel
theorem dX8_sizeOf_60 : decode cX8_sizeOf 60 = .ok (.aload_n 0, 1) := by decide +kernel
theorem dX8_sizeOf_61 : decode cX8_sizeOf 61 = .ok (.bipush 10, 2) := by decide +kernel
theorem dX8_sizeOf_63 : decode cX8_sizeOf 63 = .ok (.invokevirtual 339, 3) := by decide +kernel
theorem dX8_sizeOf_66 : decode cX8_sizeOf 66 = .ok (.aload_n 0, 1) := by decide +kernel
theorem dX8_sizeOf_67 : decode cX8_sizeOf 67 = .ok (.iload_n 1, 1) := by decide +kernel
theorem dX8_sizeOf_68 : decode cX8_sizeOf 68 = .ok (.invokevirtual 327, 3) := by decide +kernel
theorem dX8_sizeOf_71 : decode cX8_sizeOf 71 = .ok (.iload_n 2, 1) := by decide +kernel
theorem dX8_sizeOf_72 : decode cX8_sizeOf 72 = .ok (.iconst 1, 1) := by decide +kernel
theorem dX8_sizeOf_73 : decode cX8_sizeOf 73 = .ok (.invokestatic 333, 3) := by decide +kernel
theorem dX8_sizeOf_76 : decode cX8_sizeOf 76 = .ok (.ifCond .eq 12, 3) := by decide +kernel
theorem dX8_sizeOf_79 : decode cX8_sizeOf 79 = .ok (.aload_n 0, 1) := by decide +kernel
theorem dX8_sizeOf_80 : decode cX8_sizeOf 80 = .ok (.getfield 22, 3) := by decide +kernel
theorem dX8_sizeOf_83 : decode cX8_sizeOf 83 = .ok (.iload_n 1, 1) := by decide +kernel
theorem dX8_sizeOf_84 : decode cX8_sizeOf 84 = .ok (.iaload, 1) := by decide +kernel
theorem dX8_sizeOf_85 : decode cX8_sizeOf 85 = .ok (.goto 9, 3) := by decide +kernel
theorem dX8_sizeOf_88 : decode cX8_sizeOf 88 = .ok (.aload_n 0, 1) := by decide +kernel
theorem dX8_sizeOf_89 : decode cX8_sizeOf 89 = .ok (.iload_n 1, 1) := by decide +kernel
theorem dX8_sizeOf_90 : decode cX8_sizeOf 90 = .ok (.iload_n 2, 1) := by decide +kernel
theorem dX8_sizeOf_91 : decode cX8_sizeOf 91 = .ok (.invokevirtual 342, 3) := by decide +kernel
theorem dX8_sizeOf_94 : decode cX8_sizeOf 94 = .ok (.iadd, 1) := by decide +kernel
theorem dX8_sizeOf_95 : decode cX8_sizeOf 95 = .ok (.istore_n 3, 1) := by decide +kernel
theorem dX8_sizeOf_96 : decode cX8_sizeOf 96 = .ok (.iload_n 2, 1) := by decide +kernel
theorem dX8_sizeOf_97 : decode cX8_sizeOf 97 = .ok (.iconst 2, 1) := by decide +kernel
theorem dX8_sizeOf_98 : decode cX8_sizeOf 98 = .ok (.if_icmp .ne 9, 3) := by decide +kernel
theorem dX8_sizeOf_101 : decode cX8_sizeOf 101 = .ok (.iconst 2, 1) := by decide +kernel
theorem dX8_sizeOf_102 : decode cX8_sizeOf 102 = .ok (.iload_n 3, 1) := by decide +kernel
theorem dX8_sizeOf_103 : decode cX8_sizeOf 103 = .ok (.imul, 1) := by decide +kernel
theorem dX8_sizeOf_104 : decode cX8_sizeOf 104 = .ok (.goto 29, 3) := by decide +kernel
theorem dX8_sizeOf_107 : decode cX8_sizeOf 107 = .ok (.iload_n 2, 1) := by decide +kernel
theorem dX8_sizeOf_108 : decode cX8_sizeOf 108 = .ok (.iconst 5, 1) := by decide +kernel
theorem dX8_sizeOf_109 : decode cX8_sizeOf 109 = .ok (.if_icmp .ne 8, 3) := by decide +kernel
theorem dX8_sizeOf_112 : decode cX8_sizeOf 112 = .ok (.iload_n 3, 1) := by decide +kernel
theorem dX8_sizeOf_113 : decode cX8_sizeOf 113 = .ok (.ineg, 1) := by decide +kernel
theorem dX8_sizeOf_114 : decode cX8_sizeOf 114 = .ok (.goto 19, 3) := by decide +kernel
theorem dX8_sizeOf_117 : decode cX8_sizeOf 117 = .ok (.iload_n 2, 1) := by decide +kernel
theorem dX8_sizeOf_118 : decode cX8_sizeOf 118 = .ok (.iconst 4, 1) := by decide +kernel
theorem dX8_sizeOf_119 : decode cX8_sizeOf 119 = .ok (.if_icmp .ne 13, 3) := by decide +kernel
theorem dX8_sizeOf_122 : decode cX8_sizeOf 122 = .ok (.iload_n 3, 1) := by decide +kernel
theorem dX8_sizeOf_123 : decode cX8_sizeOf 123 = .ok (.aload_n 0, 1) := by decide +kernel
theorem dX8_sizeOf_124 : decode cX8_sizeOf 124 = .ok (.iload_n 1, 1) := by decide +kernel
theorem dX8_sizeOf_125 : decode cX8_sizeOf 125 = .ok (.invokevirtual 345, 3) := by decide +kernel
theorem dX8_sizeOf_128 : decode cX8_sizeOf 128 = .ok (.iadd, 1) := by decide +kernel
theorem dX8_sizeOf_129 : decode cX8_sizeOf 129 = .ok (.goto 4, 3) := by decide +kernel
theorem dX8_sizeOf_132 : decode cX8_sizeOf 132 = .ok (.iload_n 3, 1) := by decide +kernel
theorem dX8_sizeOf_133 : decode cX8_sizeOf 133 = .ok (.ireturn, 1) := by decide +kernel
theorem dX8_ask_0 : decode cX8_ask 0 = .ok (.aload_n 0, 1) := by decide +kernel
theorem dX8_ask_1 : decode cX8_ask 1 = .ok (.iconst 0, 1) := by decide +kernel
theorem dX8_ask_2 : decode cX8_ask 2 = .ok (.putfield 78, 3) := by decide +kernel
theorem dX8_ask_5 : decode cX8_ask 5 = .ok (.aload_n 0, 1) := by decide +kernel
theorem dX8_ask_6 : decode cX8_ask 6 = .ok (.iload_n 1, 1) := by decide +kernel
theorem dX8_ask_7 : decode cX8_ask 7 = .ok (.invokevirtual 204, 3) := by decide +kernel
theorem dX8_ask_10 : decode cX8_ask 10 = .ok (.ifCond .eq 13, 3) := by decide +kernel
theorem dX8_ask_13 : decode cX8_ask 13 = .ok (.iload_n 2, 1) := by decide +kernel
theorem dX8_ask_14 : decode cX8_ask 14 = .ok (.i2l, 1) := by decide +kernel
theorem dX8_ask_15 : decode cX8_ask 15 = .ok (.lconst 0, 1) := by decide +kernel
theorem dX8_ask_16 : decode cX8_ask 16 = .ok (.lconst 1, 1) := by decide +kernel
theorem dX8_ask_17 : decode cX8_ask 17 = .ok (.invokestatic 88, 3) := by decide +kernel
theorem dX8_ask_20 : decode cX8_ask 20 = .ok (.ifCond .ne 6, 3) := by decide +kernel
theorem dX8_ask_23 : decode cX8_ask 23 = .ok (.ldc 98, 2) := by decide +kernel
theorem dX8_ask_25 : decode cX8_ask 25 = .ok (.ireturn, 1) := by decide +kernel
theorem dX8_ask_26 : decode cX8_ask 26 = .ok (.aload_n 0, 1) := by decide +kernel
theorem dX8_ask_27 : decode cX8_ask 27 = .ok (.iconst 0, 1) := by decide +kernel
theorem dX8_ask_28 : decode cX8_ask 28 = .ok (.putfield 336, 3) := by decide +kernel
theorem dX8_ask_31 : decode cX8_ask 31 = .ok (.iload_n 2, 1) := by decide +kernel
theorem dX8_ask_32 : decode cX8_ask 32 = .ok (.ifCond .ne 16, 3) := by decide +kernel
theorem dX8_ask_35 : decode cX8_ask 35 = .ok (.aload_n 0, 1) := by decide +kernel
theorem dX8_ask_36 : decode cX8_ask 36 = .ok (.iload_n 1, 1) := by decide +kernel
theorem dX8_ask_37 : decode cX8_ask 37 = .ok (.aload_n 0, 1) := by decide +kernel
theorem dX8_ask_38 : decode cX8_ask 38 = .ok (.iload_n 1, 1) := by decide +kernel
theorem dX8_ask_39 : decode cX8_ask 39 = .ok (.invokevirtual 330, 3) := by decide +kernel
theorem dX8_ask_42 : decode cX8_ask 42 = .ok (.invokevirtual 348, 3) := by decide +kernel
theorem dX8_ask_45 : decode cX8_ask 45 = .ok (.goto 13, 3) := by decide +kernel
theorem dX8_ask_48 : decode cX8_ask 48 = .ok (.aload_n 0, 1) := by decide +kernel
theorem dX8_ask_49 : decode cX8_ask 49 = .ok (.iload_n 1, 1) := by decide +kernel
theorem dX8_ask_50 : decode cX8_ask 50 = .ok (.aload_n 0, 1) := by decide +kernel
theorem dX8_ask_51 : decode cX8_ask 51 = .ok (.iload_n 1, 1) := by decide +kernel
theorem dX8_ask_52 : decode cX8_ask 52 = .ok (.invokevirtual 330, 3) := by decide +kernel
theorem dX8_ask_55 : decode cX8_ask 55 = .ok (.invokevirtual 342, 3) := by decide +kernel
theorem dX8_ask_58 : decode cX8_ask 58 = .ok (.ireturn, 1) := by decide +kernel
theorem dX8_trace_0 : decode cX8_trace 0 = .ok (.aload_n 0, 1) := by decide +kernel
theorem dX8_trace_1 : decode cX8_trace 1 = .ok (.iconst 0, 1) := by decide +kernel
theorem dX8_trace_2 : decode cX8_trace 2 = .ok (.putfield 78, 3) := by decide +kernel
theorem dX8_trace_5 : decode cX8_trace 5 = .ok (.iload_n 1, 1) := by decide +kernel
theorem dX8_trace_6 : decode cX8_trace 6 = .ok (.i2l, 1) := by decide +kernel
theorem dX8_trace_7 : decode cX8_trace 7 = .ok (.lconst 0, 1) := by decide +kernel
theorem dX8_trace_8 : decode cX8_trace 8 = .ok (.aload_n 0, 1) := by decide +kernel
theorem dX8_trace_9 : decode cX8_trace 9 = .ok (.getfield 336, 3) := by decide +kernel
theorem dX8_trace_12 : decode cX8_trace 12 = .ok (.iconst 1, 1) := by decide +kernel
theorem dX8_trace_13 : decode cX8_trace 13 = .ok (.isub, 1) := by decide +kernel
theorem dX8_trace_14 : decode cX8_trace 14 = .ok (.i2l, 1) := by decide +kernel
theorem dX8_trace_15 : decode cX8_trace 15 = .ok (.invokestatic 88, 3) := by decide +kernel
theorem dX8_trace_18 : decode cX8_trace 18 = .ok (.ifCond .eq 12, 3) := by decide +kernel
theorem dX8_trace_21 : decode cX8_trace 21 = .ok (.aload_n 0, 1) := by decide +kernel
theorem dX8_trace_22 : decode cX8_trace 22 = .ok (.getfield 75, 3) := by decide +kernel
theorem dX8_trace_25 : decode cX8_trace 25 = .ok (.iload_n 1, 1) := by decide +kernel
theorem dX8_trace_26 : decode cX8_trace 26 = .ok (.iaload, 1) := by decide +kernel
theorem dX8_trace_27 : decode cX8_trace 27 = .ok (.goto 5, 3) := by decide +kernel
theorem dX8_trace_30 : decode cX8_trace 30 = .ok (.ldc 114, 2) := by decide +kernel
theorem dX8_trace_32 : decode cX8_trace 32 = .ok (.ireturn, 1) := by decide +kernel
theorem dX8_count_0 : decode cX8_count 0 = .ok (.aload_n 0, 1) := by decide +kernel
theorem dX8_count_1 : decode cX8_count 1 = .ok (.iconst 0, 1) := by decide +kernel
theorem dX8_count_2 : decode cX8_count 2 = .ok (.putfield 78, 3) := by decide +kernel
theorem dX8_count_5 : decode cX8_count 5 = .ok (.iconst 0, 1) := by decide +kernel
theorem dX8_count_6 : decode cX8_count 6 = .ok (.istore_n 2, 1) := by decide +kernel
theorem dX8_count_7 : decode cX8_count 7 = .ok (.iload_n 1, 1) := by decide +kernel
theorem dX8_count_8 : decode cX8_count 8 = .ok (.tableswitch 170 0 7 #[48, 81, 86, 94, 99, 125, 160, 165], 48) := by decide +kernel
theorem dX8_count_56 : decode cX8_count 56 = .ok (.iconst 0, 1) := by decide +kernel
theorem dX8_count_57 : decode cX8_count 57 = .ok (.istore_n 3, 1) := by decide +kernel
theorem dX8_count_58 : decode cX8_count 58 = .ok (.iload_n 3, 1) := by decide +kernel
theorem dX8_count_59 : decode cX8_count 59 = .ok (.bipush 8, 2) := by decide +kernel
theorem dX8_count_61 : decode cX8_count 61 = .ok (.if_icmp .ge 26, 3) := by decide +kernel
theorem dX8_count_64 : decode cX8_count 64 = .ok (.iload_n 2, 1) := by decide +kernel
theorem dX8_count_65 : decode cX8_count 65 = .ok (.aload_n 0, 1) := by decide +kernel
theorem dX8_count_66 : decode cX8_count 66 = .ok (.getfield 7, 3) := by decide +kernel
theorem dX8_count_69 : decode cX8_count 69 = .ok (.iload_n 3, 1) := by decide +kernel
theorem dX8_count_70 : decode cX8_count 70 = .ok (.iaload, 1) := by decide +kernel
theorem dX8_count_71 : decode cX8_count 71 = .ok (.ifCond .lt 7, 3) := by decide +kernel
theorem dX8_count_74 : decode cX8_count 74 = .ok (.iconst 1, 1) := by decide +kernel
theorem dX8_count_75 : decode cX8_count 75 = .ok (.goto 4, 3) := by decide +kernel
theorem dX8_count_78 : decode cX8_count 78 = .ok (.iconst 0, 1) := by decide +kernel
theorem dX8_count_79 : decode cX8_count 79 = .ok (.iadd, 1) := by decide +kernel
theorem dX8_count_80 : decode cX8_count 80 = .ok (.istore_n 2, 1) := by decide +kernel
theorem dX8_count_81 : decode cX8_count 81 = .ok (.iinc 3 1, 3) := by decide +kernel
theorem dX8_count_84 : decode cX8_count 84 = .ok (.goto (-26), 3) := by decide +kernel
theorem dX8_count_87 : decode cX8_count 87 = .ok (.iload_n 2, 1) := by decide +kernel
theorem dX8_count_88 : decode cX8_count 88 = .ok (.ireturn, 1) := by decide +kernel
theorem dX8_count_89 : decode cX8_count 89 = .ok (.aload_n 0, 1) := by decide +kernel
theorem dX8_count_90 : decode cX8_count 90 = .ok (.getfield 185, 3) := by decide +kernel
theorem dX8_count_93 : decode cX8_count 93 = .ok (.ireturn, 1) := by decide +kernel
theorem dX8_count_94 : decode cX8_count 94 = .ok (.aload_n 0, 1) := by decide +kernel
theorem dX8_count_95 : decode cX8_count 95 = .ok (.invokevirtual 235, 3) := by decide +kernel
theorem dX8_count_98 : decode cX8_count 98 = .ok (.invokestatic 251, 3) := by decide +kernel
theorem dX8_count_101 : decode cX8_count 101 = .ok (.ireturn, 1) := by decide +kernel
theorem dX8_count_102 : decode cX8_count 102 = .ok (.aload_n 0, 1) := by decide +kernel
theorem dX8_count_103 : decode cX8_count 103 = .ok (.getfield 188, 3) := by decide +kernel
theorem dX8_count_106 : decode cX8_count 106 = .ok (.ireturn, 1) := by decide +kernel
theorem dX8_count_107 : decode cX8_count 107 = .ok (.iconst 0, 1) := by decide +kernel
theorem dX8_count_108 : decode cX8_count 108 = .ok (.istore_n 3, 1) := by decide +kernel
theorem dX8_count_109 : decode cX8_count 109 = .ok (.iload_n 3, 1) := by decide +kernel
theorem dX8_count_110 : decode cX8_count 110 = .ok (.aload_n 0, 1) := by decide +kernel
theorem dX8_count_111 : decode cX8_count 111 = .ok (.getfield 188, 3) := by decide +kernel
theorem dX8_count_114 : decode cX8_count 114 = .ok (.if_icmp .ge 17, 3) := by decide +kernel
theorem dX8_count_117 : decode cX8_count 117 = .ok (.iload_n 2, 1) := by decide +kernel
theorem dX8_count_118 : decode cX8_count 118 = .ok (.aload_n 0, 1) := by decide +kernel
theorem dX8_count_119 : decode cX8_count 119 = .ok (.iload_n 3, 1) := by decide +kernel
theorem dX8_count_120 : decode cX8_count 120 = .ok (.invokevirtual 219, 3) := by decide +kernel
theorem dX8_count_123 : decode cX8_count 123 = .ok (.iadd, 1) := by decide +kernel
theorem dX8_count_124 : decode cX8_count 124 = .ok (.istore_n 2, 1) := by decide +kernel
theorem dX8_count_125 : decode cX8_count 125 = .ok (.iinc 3 1, 3) := by decide +kernel
theorem dX8_count_128 : decode cX8_count 128 = .ok (.goto (-19), 3) := by decide +kernel
theorem dX8_count_131 : decode cX8_count 131 = .ok (.iload_n 2, 1) := by decide +kernel
theorem dX8_count_132 : decode cX8_count 132 = .ok (.ireturn, 1) := by decide +kernel
theorem dX8_count_133 : decode cX8_count 133 = .ok (.iconst 0, 1) := by decide +kernel
theorem dX8_count_134 : decode cX8_count 134 = .ok (.istore_n 3, 1) := by decide +kernel
theorem dX8_count_135 : decode cX8_count 135 = .ok (.iload_n 3, 1) := by decide +kernel
theorem dX8_count_136 : decode cX8_count 136 = .ok (.aload_n 0, 1) := by decide +kernel
theorem dX8_count_137 : decode cX8_count 137 = .ok (.getfield 185, 3) := by decide +kernel
theorem dX8_count_140 : decode cX8_count 140 = .ok (.if_icmp .ge 26, 3) := by decide +kernel
theorem dX8_count_143 : decode cX8_count 143 = .ok (.iload_n 2, 1) := by decide +kernel
theorem dX8_count_144 : decode cX8_count 144 = .ok (.aload_n 0, 1) := by decide +kernel
theorem dX8_count_145 : decode cX8_count 145 = .ok (.iload_n 3, 1) := by decide +kernel
theorem dX8_count_146 : decode cX8_count 146 = .ok (.invokevirtual 330, 3) := by decide +kernel
theorem dX8_count_149 : decode cX8_count 149 = .ok (.iconst 5, 1) := by decide +kernel
theorem dX8_count_150 : decode cX8_count 150 = .ok (.if_icmp .ne 7, 3) := by decide +kernel
theorem dX8_count_153 : decode cX8_count 153 = .ok (.iconst 1, 1) := by decide +kernel
theorem dX8_count_154 : decode cX8_count 154 = .ok (.goto 4, 3) := by decide +kernel
theorem dX8_count_157 : decode cX8_count 157 = .ok (.iconst 0, 1) := by decide +kernel
theorem dX8_count_158 : decode cX8_count 158 = .ok (.iadd, 1) := by decide +kernel
theorem dX8_count_159 : decode cX8_count 159 = .ok (.istore_n 2, 1) := by decide +kernel
theorem dX8_count_160 : decode cX8_count 160 = .ok (.iinc 3 1, 3) := by decide +kernel
theorem dX8_count_163 : decode cX8_count 163 = .ok (.goto (-28), 3) := by decide +kernel
theorem dX8_count_166 : decode cX8_count 166 = .ok (.iload_n 2, 1) := by decide +kernel
theorem dX8_count_167 : decode cX8_count 167 = .ok (.ireturn, 1) := by decide +kernel
theorem dX8_count_168 : decode cX8_count 168 = .ok (.aload_n 0, 1) := by decide +kernel
theorem dX8_count_169 : decode cX8_count 169 = .ok (.getfield 270, 3) := by decide +kernel
theorem dX8_count_172 : decode cX8_count 172 = .ok (.ireturn, 1) := by decide +kernel
theorem dX8_count_173 : decode cX8_count 173 = .ok (.aload_n 0, 1) := by decide +kernel
theorem dX8_count_174 : decode cX8_count 174 = .ok (.getfield 105, 3) := by decide +kernel
theorem dX8_count_177 : decode cX8_count 177 = .ok (.ireturn, 1) := by decide +kernel
theorem dX8_count_178 : decode cX8_count 178 = .ok (.ldc 98, 2) := by decide +kernel
theorem dX8_count_180 : decode cX8_count 180 = .ok (.ireturn, 1) := by decide +kernel
theorem dX8_status_0 : decode cX8_status 0 = .ok (.aload_n 0, 1) := by decide +kernel
theorem dX8_status_1 : decode cX8_status 1 = .ok (.iconst 0, 1) := by decide +kernel
theorem dX8_status_2 : decode cX8_status 2 = .ok (.putfield 78, 3) := by decide +kernel
theorem dX8_status_5 : decode cX8_status 5 = .ok (.aload_n 0, 1) := by decide +kernel
theorem dX8_status_6 : decode cX8_status 6 = .ok (.getfield 82, 3) := by decide +kernel
theorem dX8_status_9 : decode cX8_status 9 = .ok (.ireturn, 1) := by decide +kernel
theorem dJ6_bitCount_0f7a4_0 : decode cJ6_bitCount_0f7a4 0 = .ok (.iload_n 0, 1) := by decide +kernel
theorem dJ6_bitCount_0f7a4_1 : decode cJ6_bitCount_0f7a4 1 = .ok (.iload_n 0, 1) := by decide +kernel
theorem dJ6_bitCount_0f7a4_2 : decode cJ6_bitCount_0f7a4 2 = .ok (.iconst 1, 1) := by decide +kernel
theorem dJ6_bitCount_0f7a4_3 : decode cJ6_bitCount_0f7a4 3 = .ok (.iushr, 1) := by decide +kernel
theorem dJ6_bitCount_0f7a4_4 : decode cJ6_bitCount_0f7a4 4 = .ok (.ldc_w 265, 3) := by decide +kernel
theorem dJ6_bitCount_0f7a4_7 : decode cJ6_bitCount_0f7a4 7 = .ok (.iand, 1) := by decide +kernel
theorem dJ6_bitCount_0f7a4_8 : decode cJ6_bitCount_0f7a4 8 = .ok (.isub, 1) := by decide +kernel
theorem dJ6_bitCount_0f7a4_9 : decode cJ6_bitCount_0f7a4 9 = .ok (.istore_n 0, 1) := by decide +kernel
theorem dJ6_bitCount_0f7a4_10 : decode cJ6_bitCount_0f7a4 10 = .ok (.iload_n 0, 1) := by decide +kernel
theorem dJ6_bitCount_0f7a4_11 : decode cJ6_bitCount_0f7a4 11 = .ok (.ldc_w 266, 3) := by decide +kernel
theorem dJ6_bitCount_0f7a4_14 : decode cJ6_bitCount_0f7a4 14 = .ok (.iand, 1) := by decide +kernel
theorem dJ6_bitCount_0f7a4_15 : decode cJ6_bitCount_0f7a4 15 = .ok (.iload_n 0, 1) := by decide +kernel
theorem dJ6_bitCount_0f7a4_16 : decode cJ6_bitCount_0f7a4 16 = .ok (.iconst 2, 1) := by decide +kernel
theorem dJ6_bitCount_0f7a4_17 : decode cJ6_bitCount_0f7a4 17 = .ok (.iushr, 1) := by decide +kernel
theorem dJ6_bitCount_0f7a4_18 : decode cJ6_bitCount_0f7a4 18 = .ok (.ldc_w 266, 3) := by decide +kernel
theorem dJ6_bitCount_0f7a4_21 : decode cJ6_bitCount_0f7a4 21 = .ok (.iand, 1) := by decide +kernel
theorem dJ6_bitCount_0f7a4_22 : decode cJ6_bitCount_0f7a4 22 = .ok (.iadd, 1) := by decide +kernel
theorem dJ6_bitCount_0f7a4_23 : decode cJ6_bitCount_0f7a4 23 = .ok (.istore_n 0, 1) := by decide +kernel
theorem dJ6_bitCount_0f7a4_24 : decode cJ6_bitCount_0f7a4 24 = .ok (.iload_n 0, 1) := by decide +kernel
theorem dJ6_bitCount_0f7a4_25 : decode cJ6_bitCount_0f7a4 25 = .ok (.iload_n 0, 1) := by decide +kernel
theorem dJ6_bitCount_0f7a4_26 : decode cJ6_bitCount_0f7a4 26 = .ok (.iconst 4, 1) := by decide +kernel
theorem dJ6_bitCount_0f7a4_27 : decode cJ6_bitCount_0f7a4 27 = .ok (.iushr, 1) := by decide +kernel
theorem dJ6_bitCount_0f7a4_28 : decode cJ6_bitCount_0f7a4 28 = .ok (.iadd, 1) := by decide +kernel
theorem dJ6_bitCount_0f7a4_29 : decode cJ6_bitCount_0f7a4 29 = .ok (.ldc_w 267, 3) := by decide +kernel
theorem dJ6_bitCount_0f7a4_32 : decode cJ6_bitCount_0f7a4 32 = .ok (.iand, 1) := by decide +kernel
theorem dJ6_bitCount_0f7a4_33 : decode cJ6_bitCount_0f7a4 33 = .ok (.istore_n 0, 1) := by decide +kernel
theorem dJ6_bitCount_0f7a4_34 : decode cJ6_bitCount_0f7a4 34 = .ok (.iload_n 0, 1) := by decide +kernel
theorem dJ6_bitCount_0f7a4_35 : decode cJ6_bitCount_0f7a4 35 = .ok (.iload_n 0, 1) := by decide +kernel
theorem dJ6_bitCount_0f7a4_36 : decode cJ6_bitCount_0f7a4 36 = .ok (.bipush 8, 2) := by decide +kernel
theorem dJ6_bitCount_0f7a4_38 : decode cJ6_bitCount_0f7a4 38 = .ok (.iushr, 1) := by decide +kernel
theorem dJ6_bitCount_0f7a4_39 : decode cJ6_bitCount_0f7a4 39 = .ok (.iadd, 1) := by decide +kernel
theorem dJ6_bitCount_0f7a4_40 : decode cJ6_bitCount_0f7a4 40 = .ok (.istore_n 0, 1) := by decide +kernel
theorem dJ6_bitCount_0f7a4_41 : decode cJ6_bitCount_0f7a4 41 = .ok (.iload_n 0, 1) := by decide +kernel
theorem dJ6_bitCount_0f7a4_42 : decode cJ6_bitCount_0f7a4 42 = .ok (.iload_n 0, 1) := by decide +kernel
theorem dJ6_bitCount_0f7a4_43 : decode cJ6_bitCount_0f7a4 43 = .ok (.bipush 16, 2) := by decide +kernel
theorem dJ6_bitCount_0f7a4_45 : decode cJ6_bitCount_0f7a4 45 = .ok (.iushr, 1) := by decide +kernel
theorem dJ6_bitCount_0f7a4_46 : decode cJ6_bitCount_0f7a4 46 = .ok (.iadd, 1) := by decide +kernel
theorem dJ6_bitCount_0f7a4_47 : decode cJ6_bitCount_0f7a4 47 = .ok (.istore_n 0, 1) := by decide +kernel
theorem dJ6_bitCount_0f7a4_48 : decode cJ6_bitCount_0f7a4 48 = .ok (.iload_n 0, 1) := by decide +kernel
theorem dJ6_bitCount_0f7a4_49 : decode cJ6_bitCount_0f7a4 49 = .ok (.bipush 63, 2) := by decide +kernel
theorem dJ6_bitCount_0f7a4_51 : decode cJ6_bitCount_0f7a4 51 = .ok (.iand, 1) := by decide +kernel
theorem dJ6_bitCount_0f7a4_52 : decode cJ6_bitCount_0f7a4 52 = .ok (.ireturn, 1) := by decide +kernel
theorem dJ9_min_7cf53_0 : decode cJ9_min_7cf53 0 = .ok (.iload_n 0, 1) := by decide +kernel
theorem dJ9_min_7cf53_1 : decode cJ9_min_7cf53 1 = .ok (.iload_n 1, 1) := by decide +kernel
theorem dJ9_min_7cf53_2 : decode cJ9_min_7cf53 2 = .ok (.if_icmp .gt 7, 3) := by decide +kernel
theorem dJ9_min_7cf53_5 : decode cJ9_min_7cf53 5 = .ok (.iload_n 0, 1) := by decide +kernel
theorem dJ9_min_7cf53_6 : decode cJ9_min_7cf53 6 = .ok (.goto 4, 3) := by decide +kernel
theorem dJ9_min_7cf53_9 : decode cJ9_min_7cf53 9 = .ok (.iload_n 1, 1) := by decide +kernel
theorem dJ9_min_7cf53_10 : decode cJ9_min_7cf53 10 = .ok (.ireturn, 1) := by decide +kernel
theorem dJ0_length_8abf5_0 : decode cJ0_length_8abf5 0 = .ok (.aload_n 0, 1) := by decide +kernel
theorem dJ0_length_8abf5_1 : decode cJ0_length_8abf5 1 = .ok (.getfield 9, 3) := by decide +kernel
theorem dJ0_length_8abf5_4 : decode cJ0_length_8abf5 4 = .ok (.arraylength, 1) := by decide +kernel
theorem dJ0_length_8abf5_5 : decode cJ0_length_8abf5 5 = .ok (.aload_n 0, 1) := by decide +kernel
theorem dJ0_length_8abf5_6 : decode cJ0_length_8abf5 6 = .ok (.invokevirtual 335, 3) := by decide +kernel
theorem dJ0_length_8abf5_9 : decode cJ0_length_8abf5 9 = .ok (.ishr, 1) := by decide +kernel
theorem dJ0_length_8abf5_10 : decode cJ0_length_8abf5 10 = .ok (.ireturn, 1) := by decide +kernel
theorem dJ0_charAt_5068e_0 : decode cJ0_charAt_5068e 0 = .ok (.aload_n 0, 1) := by decide +kernel
theorem dJ0_charAt_5068e_1 : decode cJ0_charAt_5068e 1 = .ok (.invokevirtual 492, 3) := by decide +kernel
theorem dJ0_charAt_5068e_4 : decode cJ0_charAt_5068e 4 = .ok (.ifCond .eq 12, 3) := by decide +kernel
theorem dJ0_charAt_5068e_7 : decode cJ0_charAt_5068e 7 = .ok (.aload_n 0, 1) := by decide +kernel
theorem dJ0_charAt_5068e_8 : decode cJ0_charAt_5068e 8 = .ok (.getfield 9, 3) := by decide +kernel
theorem dJ0_charAt_5068e_11 : decode cJ0_charAt_5068e 11 = .ok (.iload_n 1, 1) := by decide +kernel
theorem dJ0_charAt_5068e_12 : decode cJ0_charAt_5068e 12 = .ok (.invokestatic 495, 3) := by decide +kernel
theorem dJ0_charAt_5068e_15 : decode cJ0_charAt_5068e 15 = .ok (.ireturn, 1) := by decide +kernel
theorem dJ0_charAt_5068e_16 : decode cJ0_charAt_5068e 16 = .ok (.aload_n 0, 1) := by decide +kernel
theorem dJ0_charAt_5068e_17 : decode cJ0_charAt_5068e 17 = .ok (.getfield 9, 3) := by decide +kernel
theorem dJ0_charAt_5068e_20 : decode cJ0_charAt_5068e 20 = .ok (.iload_n 1, 1) := by decide +kernel
theorem dJ0_charAt_5068e_21 : decode cJ0_charAt_5068e 21 = .ok (.invokestatic 498, 3) := by decide +kernel
theorem dJ0_charAt_5068e_24 : decode cJ0_charAt_5068e 24 = .ok (.ireturn, 1) := by decide +kernel
theorem dJ0_coder_7d493_0 : decode cJ0_coder_7d493 0 = .ok (.getstatic 38, 3) := by decide +kernel
theorem dJ0_coder_7d493_3 : decode cJ0_coder_7d493 3 = .ok (.ifCond .eq 10, 3) := by decide +kernel
theorem dJ0_coder_7d493_6 : decode cJ0_coder_7d493 6 = .ok (.aload_n 0, 1) := by decide +kernel
theorem dJ0_coder_7d493_7 : decode cJ0_coder_7d493 7 = .ok (.getfield 15, 3) := by decide +kernel
theorem dJ0_coder_7d493_10 : decode cJ0_coder_7d493 10 = .ok (.goto 4, 3) := by decide +kernel
theorem dJ0_coder_7d493_13 : decode cJ0_coder_7d493 13 = .ok (.iconst 1, 1) := by decide +kernel
theorem dJ0_coder_7d493_14 : decode cJ0_coder_7d493 14 = .ok (.ireturn, 1) := by decide +kernel
theorem dJ0_isLatin1_aae02_0 : decode cJ0_isLatin1_aae02 0 = .ok (.getstatic 38, 3) := by decide +kernel
theorem dJ0_isLatin1_aae02_3 : decode cJ0_isLatin1_aae02 3 = .ok (.ifCond .eq 14, 3) := by decide +kernel
theorem dJ0_isLatin1_aae02_6 : decode cJ0_isLatin1_aae02 6 = .ok (.aload_n 0, 1) := by decide +kernel
theorem dJ0_isLatin1_aae02_7 : decode cJ0_isLatin1_aae02 7 = .ok (.getfield 15, 3) := by decide +kernel
theorem dJ0_isLatin1_aae02_10 : decode cJ0_isLatin1_aae02 10 = .ok (.ifCond .ne 7, 3) := by decide +kernel
theorem dJ0_isLatin1_aae02_13 : decode cJ0_isLatin1_aae02 13 = .ok (.iconst 1, 1) := by decide +kernel
theorem dJ0_isLatin1_aae02_14 : decode cJ0_isLatin1_aae02 14 = .ok (.goto 4, 3) := by decide +kernel
theorem dJ0_isLatin1_aae02_17 : decode cJ0_isLatin1_aae02 17 = .ok (.iconst 0, 1) := by decide +kernel
theorem dJ0_isLatin1_aae02_18 : decode cJ0_isLatin1_aae02 18 = .ok (.ireturn, 1) := by decide +kernel
theorem dJ0_checkIndex_df160_0 : decode cJ0_checkIndex_df160 0 = .ok (.iload_n 0, 1) := by decide +kernel
theorem dJ0_checkIndex_df160_1 : decode cJ0_checkIndex_df160 1 = .ok (.iload_n 1, 1) := by decide +kernel
theorem dJ0_checkIndex_df160_2 : decode cJ0_checkIndex_df160 2 = .ok (.getstatic 1053, 3) := by decide +kernel
theorem dJ0_checkIndex_df160_5 : decode cJ0_checkIndex_df160 5 = .ok (.invokestatic 1059, 3) := by decide +kernel
theorem dJ0_checkIndex_df160_8 : decode cJ0_checkIndex_df160 8 = .ok (.pop, 1) := by decide +kernel
theorem dJ0_checkIndex_df160_9 : decode cJ0_checkIndex_df160 9 = .ok (.return_, 1) := by decide +kernel
theorem dJ1_charAt_3b067_0 : decode cJ1_charAt_3b067 0 = .ok (.iload_n 1, 1) := by decide +kernel
theorem dJ1_charAt_3b067_1 : decode cJ1_charAt_3b067 1 = .ok (.aload_n 0, 1) := by decide +kernel
theorem dJ1_charAt_3b067_2 : decode cJ1_charAt_3b067 2 = .ok (.arraylength, 1) := by decide +kernel
theorem dJ1_charAt_3b067_3 : decode cJ1_charAt_3b067 3 = .ok (.invokestatic 9, 3) := by decide +kernel
theorem dJ1_charAt_3b067_6 : decode cJ1_charAt_3b067 6 = .ok (.aload_n 0, 1) := by decide +kernel
theorem dJ1_charAt_3b067_7 : decode cJ1_charAt_3b067 7 = .ok (.iload_n 1, 1) := by decide +kernel
theorem dJ1_charAt_3b067_8 : decode cJ1_charAt_3b067 8 = .ok (.baload, 1) := by decide +kernel
theorem dJ1_charAt_3b067_9 : decode cJ1_charAt_3b067 9 = .ok (.sipush 255, 3) := by decide +kernel
theorem dJ1_charAt_3b067_12 : decode cJ1_charAt_3b067 12 = .ok (.iand, 1) := by decide +kernel
theorem dJ1_charAt_3b067_13 : decode cJ1_charAt_3b067 13 = .ok (.i2c, 1) := by decide +kernel
theorem dJ1_charAt_3b067_14 : decode cJ1_charAt_3b067 14 = .ok (.ireturn, 1) := by decide +kernel
theorem dJ2_getChar_3b067_0 : decode cJ2_getChar_3b067 0 = .ok (.getstatic 44, 3) := by decide +kernel
theorem dJ2_getChar_3b067_3 : decode cJ2_getChar_3b067 3 = .ok (.ifCond .ne 25, 3) := by decide +kernel
theorem dJ2_getChar_3b067_6 : decode cJ2_getChar_3b067 6 = .ok (.iload_n 1, 1) := by decide +kernel
theorem dJ2_getChar_3b067_7 : decode cJ2_getChar_3b067 7 = .ok (.ifCond .lt 11, 3) := by decide +kernel
theorem dJ2_getChar_3b067_10 : decode cJ2_getChar_3b067 10 = .ok (.iload_n 1, 1) := by decide +kernel
theorem dJ2_getChar_3b067_11 : decode cJ2_getChar_3b067 11 = .ok (.aload_n 0, 1) := by decide +kernel
theorem dJ2_getChar_3b067_12 : decode cJ2_getChar_3b067 12 = .ok (.invokestatic 48, 3) := by decide +kernel
theorem dJ2_getChar_3b067_15 : decode cJ2_getChar_3b067 15 = .ok (.if_icmp .lt 13, 3) := by decide +kernel
theorem dJ2_getChar_3b067_18 : decode cJ2_getChar_3b067 18 = .ok (.new 52, 3) := by decide +kernel
theorem dJ2_getChar_3b067_21 : decode cJ2_getChar_3b067 21 = .ok (.dup, 1) := by decide +kernel
theorem dJ2_getChar_3b067_22 : decode cJ2_getChar_3b067 22 = .ok (.ldc 54, 2) := by decide +kernel
theorem dJ2_getChar_3b067_24 : decode cJ2_getChar_3b067 24 = .ok (.invokespecial 56, 3) := by decide +kernel
theorem dJ2_getChar_3b067_27 : decode cJ2_getChar_3b067 27 = .ok (.athrow, 1) := by decide +kernel
theorem dJ2_getChar_3b067_28 : decode cJ2_getChar_3b067 28 = .ok (.iload_n 1, 1) := by decide +kernel
theorem dJ2_getChar_3b067_29 : decode cJ2_getChar_3b067 29 = .ok (.iconst 1, 1) := by decide +kernel
theorem dJ2_getChar_3b067_30 : decode cJ2_getChar_3b067 30 = .ok (.ishl, 1) := by decide +kernel
theorem dJ2_getChar_3b067_31 : decode cJ2_getChar_3b067 31 = .ok (.istore_n 1, 1) := by decide +kernel
theorem dJ2_getChar_3b067_32 : decode cJ2_getChar_3b067 32 = .ok (.aload_n 0, 1) := by decide +kernel
theorem dJ2_getChar_3b067_33 : decode cJ2_getChar_3b067 33 = .ok (.iload_n 1, 1) := by decide +kernel
theorem dJ2_getChar_3b067_34 : decode cJ2_getChar_3b067 34 = .ok (.iinc 1 1, 3) := by decide +kernel
theorem dJ2_getChar_3b067_37 : decode cJ2_getChar_3b067 37 = .ok (.baload, 1) := by decide +kernel
theorem dJ2_getChar_3b067_38 : decode cJ2_getChar_3b067 38 = .ok (.sipush 255, 3) := by decide +kernel
theorem dJ2_getChar_3b067_41 : decode cJ2_getChar_3b067 41 = .ok (.iand, 1) := by decide +kernel
theorem dJ2_getChar_3b067_42 : decode cJ2_getChar_3b067 42 = .ok (.getstatic 59, 3) := by decide +kernel
theorem dJ2_getChar_3b067_45 : decode cJ2_getChar_3b067 45 = .ok (.ishl, 1) := by decide +kernel
theorem dJ2_getChar_3b067_46 : decode cJ2_getChar_3b067 46 = .ok (.aload_n 0, 1) := by decide +kernel
theorem dJ2_getChar_3b067_47 : decode cJ2_getChar_3b067 47 = .ok (.iload_n 1, 1) := by decide +kernel
theorem dJ2_getChar_3b067_48 : decode cJ2_getChar_3b067 48 = .ok (.baload, 1) := by decide +kernel
theorem dJ2_getChar_3b067_49 : decode cJ2_getChar_3b067 49 = .ok (.sipush 255, 3) := by decide +kernel
theorem dJ2_getChar_3b067_52 : decode cJ2_getChar_3b067 52 = .ok (.iand, 1) := by decide +kernel
theorem dJ2_getChar_3b067_53 : decode cJ2_getChar_3b067 53 = .ok (.getstatic 63, 3) := by decide +kernel
theorem dJ2_getChar_3b067_56 : decode cJ2_getChar_3b067 56 = .ok (.ishl, 1) := by decide +kernel
theorem dJ2_getChar_3b067_57 : decode cJ2_getChar_3b067 57 = .ok (.ior, 1) := by decide +kernel
theorem dJ2_getChar_3b067_58 : decode cJ2_getChar_3b067 58 = .ok (.i2c, 1) := by decide +kernel
theorem dJ2_getChar_3b067_59 : decode cJ2_getChar_3b067 59 = .ok (.ireturn, 1) := by decide +kernel
theorem dJ2_length_9d52b_0 : decode cJ2_length_9d52b 0 = .ok (.aload_n 0, 1) := by decide +kernel
theorem dJ2_length_9d52b_1 : decode cJ2_length_9d52b 1 = .ok (.arraylength, 1) := by decide +kernel
theorem dJ2_length_9d52b_2 : decode cJ2_length_9d52b 2 = .ok (.iconst 1, 1) := by decide +kernel
theorem dJ2_length_9d52b_3 : decode cJ2_length_9d52b 3 = .ok (.ishr, 1) := by decide +kernel
theorem dJ2_length_9d52b_4 : decode cJ2_length_9d52b 4 = .ok (.ireturn, 1) := by decide +kernel
theorem dJ2_charAt_3b067_0 : decode cJ2_charAt_3b067 0 = .ok (.iload_n 1, 1) := by decide +kernel
theorem dJ2_charAt_3b067_1 : decode cJ2_charAt_3b067 1 = .ok (.aload_n 0, 1) := by decide +kernel
theorem dJ2_charAt_3b067_2 : decode cJ2_charAt_3b067 2 = .ok (.invokestatic 67, 3) := by decide +kernel
theorem dJ2_charAt_3b067_5 : decode cJ2_charAt_3b067 5 = .ok (.aload_n 0, 1) := by decide +kernel
theorem dJ2_charAt_3b067_6 : decode cJ2_charAt_3b067 6 = .ok (.iload_n 1, 1) := by decide +kernel
theorem dJ2_charAt_3b067_7 : decode cJ2_charAt_3b067 7 = .ok (.invokestatic 71, 3) := by decide +kernel
theorem dJ2_charAt_3b067_10 : decode cJ2_charAt_3b067 10 = .ok (.ireturn, 1) := by decide +kernel
theorem dJ2_checkIndex_2214a_0 : decode cJ2_checkIndex_2214a 0 = .ok (.iload_n 0, 1) := by decide +kernel
theorem dJ2_checkIndex_2214a_1 : decode cJ2_checkIndex_2214a 1 = .ok (.aload_n 1, 1) := by decide +kernel
theorem dJ2_checkIndex_2214a_2 : decode cJ2_checkIndex_2214a 2 = .ok (.invokestatic 48, 3) := by decide +kernel
theorem dJ2_checkIndex_2214a_5 : decode cJ2_checkIndex_2214a 5 = .ok (.invokestatic 414, 3) := by decide +kernel
theorem dJ2_checkIndex_2214a_8 : decode cJ2_checkIndex_2214a 8 = .ok (.return_, 1) := by decide +kernel
theorem dJ3_checkIndex_8e157_0 : decode cJ3_checkIndex_8e157 0 = .ok (.iload_n 0, 1) := by decide +kernel
theorem dJ3_checkIndex_8e157_1 : decode cJ3_checkIndex_8e157 1 = .ok (.ifCond .lt 8, 3) := by decide +kernel
theorem dJ3_checkIndex_8e157_4 : decode cJ3_checkIndex_8e157 4 = .ok (.iload_n 0, 1) := by decide +kernel
theorem dJ3_checkIndex_8e157_5 : decode cJ3_checkIndex_8e157 5 = .ok (.iload_n 1, 1) := by decide +kernel
theorem dJ3_checkIndex_8e157_6 : decode cJ3_checkIndex_8e157 6 = .ok (.if_icmp .lt 10, 3) := by decide +kernel
theorem dJ3_checkIndex_8e157_9 : decode cJ3_checkIndex_8e157 9 = .ok (.aload_n 2, 1) := by decide +kernel
theorem dJ3_checkIndex_8e157_10 : decode cJ3_checkIndex_8e157 10 = .ok (.iload_n 0, 1) := by decide +kernel
theorem dJ3_checkIndex_8e157_11 : decode cJ3_checkIndex_8e157 11 = .ok (.iload_n 1, 1) := by decide +kernel
theorem dJ3_checkIndex_8e157_12 : decode cJ3_checkIndex_8e157 12 = .ok (.invokestatic 95, 3) := by decide +kernel
theorem dJ3_checkIndex_8e157_15 : decode cJ3_checkIndex_8e157 15 = .ok (.athrow, 1) := by decide +kernel
theorem dJ3_checkIndex_8e157_16 : decode cJ3_checkIndex_8e157 16 = .ok (.iload_n 0, 1) := by decide +kernel
theorem dJ3_checkIndex_8e157_17 : decode cJ3_checkIndex_8e157 17 = .ok (.ireturn, 1) := by decide +kernel
theorem dL_law_0 : decode cL_law 0 = .ok (.new 7, 3) := by decide +kernel
theorem dL_law_3 : decode cL_law 3 = .ok (.dup, 1) := by decide +kernel
theorem dL_law_4 : decode cL_law 4 = .ok (.invokespecial 9, 3) := by decide +kernel
theorem dL_law_7 : decode cL_law 7 = .ok (.astore_n 1, 1) := by decide +kernel
theorem dL_law_8 : decode cL_law 8 = .ok (.new 10, 3) := by decide +kernel
theorem dL_law_11 : decode cL_law 11 = .ok (.dup, 1) := by decide +kernel
theorem dL_law_12 : decode cL_law 12 = .ok (.invokespecial 12, 3) := by decide +kernel
theorem dL_law_15 : decode cL_law 15 = .ok (.astore_n 2, 1) := by decide +kernel
theorem dL_law_16 : decode cL_law 16 = .ok (.iconst 0, 1) := by decide +kernel
theorem dL_law_17 : decode cL_law 17 = .ok (.istore_n 3, 1) := by decide +kernel
theorem dL_law_18 : decode cL_law 18 = .ok (.iload_n 3, 1) := by decide +kernel
theorem dL_law_19 : decode cL_law 19 = .ok (.aload_n 0, 1) := by decide +kernel
theorem dL_law_20 : decode cL_law 20 = .ok (.arraylength, 1) := by decide +kernel
theorem dL_law_21 : decode cL_law 21 = .ok (.bipush 6, 2) := by decide +kernel
theorem dL_law_23 : decode cL_law 23 = .ok (.isub, 1) := by decide +kernel
theorem dL_law_24 : decode cL_law 24 = .ok (.if_icmp .gt 1097, 3) := by decide +kernel
theorem dL_law_27 : decode cL_law 27 = .ok (.aload_n 0, 1) := by decide +kernel
theorem dL_law_28 : decode cL_law 28 = .ok (.iload_n 3, 1) := by decide +kernel
theorem dL_law_29 : decode cL_law 29 = .ok (.iaload, 1) := by decide +kernel
theorem dL_law_30 : decode cL_law 30 = .ok (.bipush 31, 2) := by decide +kernel
theorem dL_law_32 : decode cL_law 32 = .ok (.iand, 1) := by decide +kernel
theorem dL_law_33 : decode cL_law 33 = .ok (.tableswitch 1082 0 30 #[139, 182, 225, 288, 311, 374, 387, 400, 433, 466, 499, 542, 565, 608, 641, 664, 687, 710, 743, 756, 799, 852, 865, 878, 911, 934, 957, 990, 1023, 1046, 1069], 139) := by decide +kernel
theorem dL_law_172 : decode cL_law 172 = .ok (.aload_n 1, 1) := by decide +kernel
theorem dL_law_173 : decode cL_law 173 = .ok (.aload_n 0, 1) := by decide +kernel
theorem dL_law_174 : decode cL_law 174 = .ok (.iload_n 3, 1) := by decide +kernel
theorem dL_law_175 : decode cL_law 175 = .ok (.iconst 1, 1) := by decide +kernel
theorem dL_law_176 : decode cL_law 176 = .ok (.iadd, 1) := by decide +kernel
theorem dL_law_177 : decode cL_law 177 = .ok (.iaload, 1) := by decide +kernel
theorem dL_law_178 : decode cL_law 178 = .ok (.aload_n 0, 1) := by decide +kernel
theorem dL_law_179 : decode cL_law 179 = .ok (.iload_n 3, 1) := by decide +kernel
theorem dL_law_180 : decode cL_law 180 = .ok (.iconst 2, 1) := by decide +kernel
theorem dL_law_181 : decode cL_law 181 = .ok (.iadd, 1) := by decide +kernel
theorem dL_law_182 : decode cL_law 182 = .ok (.iaload, 1) := by decide +kernel
theorem dL_law_183 : decode cL_law 183 = .ok (.aload_n 0, 1) := by decide +kernel
theorem dL_law_184 : decode cL_law 184 = .ok (.iload_n 3, 1) := by decide +kernel
theorem dL_law_185 : decode cL_law 185 = .ok (.iconst 3, 1) := by decide +kernel
theorem dL_law_186 : decode cL_law 186 = .ok (.iadd, 1) := by decide +kernel
theorem dL_law_187 : decode cL_law 187 = .ok (.iaload, 1) := by decide +kernel
theorem dL_law_188 : decode cL_law 188 = .ok (.invokevirtual 13, 3) := by decide +kernel
theorem dL_law_191 : decode cL_law 191 = .ok (.aload_n 2, 1) := by decide +kernel
theorem dL_law_192 : decode cL_law 192 = .ok (.aload_n 0, 1) := by decide +kernel
theorem dL_law_193 : decode cL_law 193 = .ok (.iload_n 3, 1) := by decide +kernel
theorem dL_law_194 : decode cL_law 194 = .ok (.iconst 1, 1) := by decide +kernel
theorem dL_law_195 : decode cL_law 195 = .ok (.iadd, 1) := by decide +kernel
theorem dL_law_196 : decode cL_law 196 = .ok (.iaload, 1) := by decide +kernel
theorem dL_law_197 : decode cL_law 197 = .ok (.aload_n 0, 1) := by decide +kernel
theorem dL_law_198 : decode cL_law 198 = .ok (.iload_n 3, 1) := by decide +kernel
theorem dL_law_199 : decode cL_law 199 = .ok (.iconst 2, 1) := by decide +kernel
theorem dL_law_200 : decode cL_law 200 = .ok (.iadd, 1) := by decide +kernel
theorem dL_law_201 : decode cL_law 201 = .ok (.iaload, 1) := by decide +kernel
theorem dL_law_202 : decode cL_law 202 = .ok (.aload_n 0, 1) := by decide +kernel
theorem dL_law_203 : decode cL_law 203 = .ok (.iload_n 3, 1) := by decide +kernel
theorem dL_law_204 : decode cL_law 204 = .ok (.iconst 3, 1) := by decide +kernel
theorem dL_law_205 : decode cL_law 205 = .ok (.iadd, 1) := by decide +kernel
theorem dL_law_206 : decode cL_law 206 = .ok (.iaload, 1) := by decide +kernel
theorem dL_law_207 : decode cL_law 207 = .ok (.invokevirtual 17, 3) := by decide +kernel
theorem dL_law_210 : decode cL_law 210 = .ok (.if_icmp .eq 905, 3) := by decide +kernel
theorem dL_law_213 : decode cL_law 213 = .ok (.iconst 0, 1) := by decide +kernel
theorem dL_law_214 : decode cL_law 214 = .ok (.ireturn, 1) := by decide +kernel
theorem dL_law_215 : decode cL_law 215 = .ok (.aload_n 1, 1) := by decide +kernel
theorem dL_law_216 : decode cL_law 216 = .ok (.aload_n 0, 1) := by decide +kernel
theorem dL_law_217 : decode cL_law 217 = .ok (.iload_n 3, 1) := by decide +kernel
theorem dL_law_218 : decode cL_law 218 = .ok (.iconst 1, 1) := by decide +kernel
theorem dL_law_219 : decode cL_law 219 = .ok (.iadd, 1) := by decide +kernel
theorem dL_law_220 : decode cL_law 220 = .ok (.iaload, 1) := by decide +kernel
theorem dL_law_221 : decode cL_law 221 = .ok (.aload_n 0, 1) := by decide +kernel
theorem dL_law_222 : decode cL_law 222 = .ok (.iload_n 3, 1) := by decide +kernel
theorem dL_law_223 : decode cL_law 223 = .ok (.iconst 2, 1) := by decide +kernel
theorem dL_law_224 : decode cL_law 224 = .ok (.iadd, 1) := by decide +kernel
theorem dL_law_225 : decode cL_law 225 = .ok (.iaload, 1) := by decide +kernel
theorem dL_law_226 : decode cL_law 226 = .ok (.aload_n 0, 1) := by decide +kernel
theorem dL_law_227 : decode cL_law 227 = .ok (.iload_n 3, 1) := by decide +kernel
theorem dL_law_228 : decode cL_law 228 = .ok (.iconst 3, 1) := by decide +kernel
theorem dL_law_229 : decode cL_law 229 = .ok (.iadd, 1) := by decide +kernel
theorem dL_law_230 : decode cL_law 230 = .ok (.iaload, 1) := by decide +kernel
theorem dL_law_231 : decode cL_law 231 = .ok (.invokevirtual 18, 3) := by decide +kernel
theorem dL_law_234 : decode cL_law 234 = .ok (.aload_n 2, 1) := by decide +kernel
theorem dL_law_235 : decode cL_law 235 = .ok (.aload_n 0, 1) := by decide +kernel
theorem dL_law_236 : decode cL_law 236 = .ok (.iload_n 3, 1) := by decide +kernel
theorem dL_law_237 : decode cL_law 237 = .ok (.iconst 1, 1) := by decide +kernel
theorem dL_law_238 : decode cL_law 238 = .ok (.iadd, 1) := by decide +kernel
theorem dL_law_239 : decode cL_law 239 = .ok (.iaload, 1) := by decide +kernel
theorem dL_law_240 : decode cL_law 240 = .ok (.aload_n 0, 1) := by decide +kernel
theorem dL_law_241 : decode cL_law 241 = .ok (.iload_n 3, 1) := by decide +kernel
theorem dL_law_242 : decode cL_law 242 = .ok (.iconst 2, 1) := by decide +kernel
theorem dL_law_243 : decode cL_law 243 = .ok (.iadd, 1) := by decide +kernel
theorem dL_law_244 : decode cL_law 244 = .ok (.iaload, 1) := by decide +kernel
theorem dL_law_245 : decode cL_law 245 = .ok (.aload_n 0, 1) := by decide +kernel
theorem dL_law_246 : decode cL_law 246 = .ok (.iload_n 3, 1) := by decide +kernel
theorem dL_law_247 : decode cL_law 247 = .ok (.iconst 3, 1) := by decide +kernel
theorem dL_law_248 : decode cL_law 248 = .ok (.iadd, 1) := by decide +kernel
theorem dL_law_249 : decode cL_law 249 = .ok (.iaload, 1) := by decide +kernel
theorem dL_law_250 : decode cL_law 250 = .ok (.invokevirtual 21, 3) := by decide +kernel
theorem dL_law_253 : decode cL_law 253 = .ok (.if_icmp .eq 862, 3) := by decide +kernel
theorem dL_law_256 : decode cL_law 256 = .ok (.iconst 0, 1) := by decide +kernel
theorem dL_law_257 : decode cL_law 257 = .ok (.ireturn, 1) := by decide +kernel
theorem dL_law_258 : decode cL_law 258 = .ok (.aload_n 1, 1) := by decide +kernel
theorem dL_law_259 : decode cL_law 259 = .ok (.aload_n 0, 1) := by decide +kernel
theorem dL_law_260 : decode cL_law 260 = .ok (.iload_n 3, 1) := by decide +kernel
theorem dL_law_261 : decode cL_law 261 = .ok (.iconst 1, 1) := by decide +kernel
theorem dL_law_262 : decode cL_law 262 = .ok (.iadd, 1) := by decide +kernel
theorem dL_law_263 : decode cL_law 263 = .ok (.iaload, 1) := by decide +kernel
theorem dL_law_264 : decode cL_law 264 = .ok (.aload_n 0, 1) := by decide +kernel
theorem dL_law_265 : decode cL_law 265 = .ok (.iload_n 3, 1) := by decide +kernel
theorem dL_law_266 : decode cL_law 266 = .ok (.iconst 2, 1) := by decide +kernel
theorem dL_law_267 : decode cL_law 267 = .ok (.iadd, 1) := by decide +kernel
theorem dL_law_268 : decode cL_law 268 = .ok (.iaload, 1) := by decide +kernel
theorem dL_law_269 : decode cL_law 269 = .ok (.aload_n 0, 1) := by decide +kernel
theorem dL_law_270 : decode cL_law 270 = .ok (.iload_n 3, 1) := by decide +kernel
theorem dL_law_271 : decode cL_law 271 = .ok (.iconst 3, 1) := by decide +kernel
theorem dL_law_272 : decode cL_law 272 = .ok (.iadd, 1) := by decide +kernel
theorem dL_law_273 : decode cL_law 273 = .ok (.iaload, 1) := by decide +kernel
theorem dL_law_274 : decode cL_law 274 = .ok (.aload_n 0, 1) := by decide +kernel
theorem dL_law_275 : decode cL_law 275 = .ok (.iload_n 3, 1) := by decide +kernel
theorem dL_law_276 : decode cL_law 276 = .ok (.iconst 4, 1) := by decide +kernel
theorem dL_law_277 : decode cL_law 277 = .ok (.iadd, 1) := by decide +kernel
theorem dL_law_278 : decode cL_law 278 = .ok (.iaload, 1) := by decide +kernel
theorem dL_law_279 : decode cL_law 279 = .ok (.aload_n 0, 1) := by decide +kernel
theorem dL_law_280 : decode cL_law 280 = .ok (.iload_n 3, 1) := by decide +kernel
theorem dL_law_281 : decode cL_law 281 = .ok (.iconst 5, 1) := by decide +kernel
theorem dL_law_282 : decode cL_law 282 = .ok (.iadd, 1) := by decide +kernel
theorem dL_law_283 : decode cL_law 283 = .ok (.iaload, 1) := by decide +kernel
theorem dL_law_284 : decode cL_law 284 = .ok (.invokevirtual 22, 3) := by decide +kernel
theorem dL_law_287 : decode cL_law 287 = .ok (.aload_n 2, 1) := by decide +kernel
theorem dL_law_288 : decode cL_law 288 = .ok (.aload_n 0, 1) := by decide +kernel
theorem dL_law_289 : decode cL_law 289 = .ok (.iload_n 3, 1) := by decide +kernel
theorem dL_law_290 : decode cL_law 290 = .ok (.iconst 1, 1) := by decide +kernel
theorem dL_law_291 : decode cL_law 291 = .ok (.iadd, 1) := by decide +kernel
theorem dL_law_292 : decode cL_law 292 = .ok (.iaload, 1) := by decide +kernel
theorem dL_law_293 : decode cL_law 293 = .ok (.aload_n 0, 1) := by decide +kernel
theorem dL_law_294 : decode cL_law 294 = .ok (.iload_n 3, 1) := by decide +kernel
theorem dL_law_295 : decode cL_law 295 = .ok (.iconst 2, 1) := by decide +kernel
theorem dL_law_296 : decode cL_law 296 = .ok (.iadd, 1) := by decide +kernel
theorem dL_law_297 : decode cL_law 297 = .ok (.iaload, 1) := by decide +kernel
theorem dL_law_298 : decode cL_law 298 = .ok (.aload_n 0, 1) := by decide +kernel
theorem dL_law_299 : decode cL_law 299 = .ok (.iload_n 3, 1) := by decide +kernel
theorem dL_law_300 : decode cL_law 300 = .ok (.iconst 3, 1) := by decide +kernel
theorem dL_law_301 : decode cL_law 301 = .ok (.iadd, 1) := by decide +kernel
theorem dL_law_302 : decode cL_law 302 = .ok (.iaload, 1) := by decide +kernel
theorem dL_law_303 : decode cL_law 303 = .ok (.aload_n 0, 1) := by decide +kernel
theorem dL_law_304 : decode cL_law 304 = .ok (.iload_n 3, 1) := by decide +kernel
theorem dL_law_305 : decode cL_law 305 = .ok (.iconst 4, 1) := by decide +kernel
theorem dL_law_306 : decode cL_law 306 = .ok (.iadd, 1) := by decide +kernel
theorem dL_law_307 : decode cL_law 307 = .ok (.iaload, 1) := by decide +kernel
theorem dL_law_308 : decode cL_law 308 = .ok (.aload_n 0, 1) := by decide +kernel
theorem dL_law_309 : decode cL_law 309 = .ok (.iload_n 3, 1) := by decide +kernel
theorem dL_law_310 : decode cL_law 310 = .ok (.iconst 5, 1) := by decide +kernel
theorem dL_law_311 : decode cL_law 311 = .ok (.iadd, 1) := by decide +kernel
theorem dL_law_312 : decode cL_law 312 = .ok (.iaload, 1) := by decide +kernel
theorem dL_law_313 : decode cL_law 313 = .ok (.invokevirtual 26, 3) := by decide +kernel
theorem dL_law_316 : decode cL_law 316 = .ok (.if_icmp .eq 799, 3) := by decide +kernel
theorem dL_law_319 : decode cL_law 319 = .ok (.iconst 0, 1) := by decide +kernel
theorem dL_law_320 : decode cL_law 320 = .ok (.ireturn, 1) := by decide +kernel
theorem dL_law_321 : decode cL_law 321 = .ok (.aload_n 1, 1) := by decide +kernel
theorem dL_law_322 : decode cL_law 322 = .ok (.aload_n 0, 1) := by decide +kernel
theorem dL_law_323 : decode cL_law 323 = .ok (.iload_n 3, 1) := by decide +kernel
theorem dL_law_324 : decode cL_law 324 = .ok (.iconst 1, 1) := by decide +kernel
theorem dL_law_325 : decode cL_law 325 = .ok (.iadd, 1) := by decide +kernel
theorem dL_law_326 : decode cL_law 326 = .ok (.iaload, 1) := by decide +kernel
theorem dL_law_327 : decode cL_law 327 = .ok (.invokevirtual 27, 3) := by decide +kernel
theorem dL_law_330 : decode cL_law 330 = .ok (.aload_n 2, 1) := by decide +kernel
theorem dL_law_331 : decode cL_law 331 = .ok (.aload_n 0, 1) := by decide +kernel
theorem dL_law_332 : decode cL_law 332 = .ok (.iload_n 3, 1) := by decide +kernel
theorem dL_law_333 : decode cL_law 333 = .ok (.iconst 1, 1) := by decide +kernel
theorem dL_law_334 : decode cL_law 334 = .ok (.iadd, 1) := by decide +kernel
theorem dL_law_335 : decode cL_law 335 = .ok (.iaload, 1) := by decide +kernel
theorem dL_law_336 : decode cL_law 336 = .ok (.invokevirtual 31, 3) := by decide +kernel
theorem dL_law_339 : decode cL_law 339 = .ok (.if_icmp .eq 776, 3) := by decide +kernel
theorem dL_law_342 : decode cL_law 342 = .ok (.iconst 0, 1) := by decide +kernel
theorem dL_law_343 : decode cL_law 343 = .ok (.ireturn, 1) := by decide +kernel
theorem dL_law_344 : decode cL_law 344 = .ok (.aload_n 1, 1) := by decide +kernel
theorem dL_law_345 : decode cL_law 345 = .ok (.aload_n 0, 1) := by decide +kernel
theorem dL_law_346 : decode cL_law 346 = .ok (.iload_n 3, 1) := by decide +kernel
theorem dL_law_347 : decode cL_law 347 = .ok (.iconst 1, 1) := by decide +kernel
theorem dL_law_348 : decode cL_law 348 = .ok (.iadd, 1) := by decide +kernel
theorem dL_law_349 : decode cL_law 349 = .ok (.iaload, 1) := by decide +kernel
theorem dL_law_350 : decode cL_law 350 = .ok (.i2l, 1) := by decide +kernel
theorem dL_law_351 : decode cL_law 351 = .ok (.bipush 32, 2) := by decide +kernel
theorem dL_law_353 : decode cL_law 353 = .ok (.lshl, 1) := by decide +kernel
theorem dL_law_354 : decode cL_law 354 = .ok (.aload_n 0, 1) := by decide +kernel
theorem dL_law_355 : decode cL_law 355 = .ok (.iload_n 3, 1) := by decide +kernel
theorem dL_law_356 : decode cL_law 356 = .ok (.iconst 2, 1) := by decide +kernel
theorem dL_law_357 : decode cL_law 357 = .ok (.iadd, 1) := by decide +kernel
theorem dL_law_358 : decode cL_law 358 = .ok (.iaload, 1) := by decide +kernel
theorem dL_law_359 : decode cL_law 359 = .ok (.i2l, 1) := by decide +kernel
theorem dL_law_360 : decode cL_law 360 = .ok (.ldc2_w 32, 3) := by decide +kernel
theorem dL_law_363 : decode cL_law 363 = .ok (.land, 1) := by decide +kernel
theorem dL_law_364 : decode cL_law 364 = .ok (.lor, 1) := by decide +kernel
theorem dL_law_365 : decode cL_law 365 = .ok (.aload_n 0, 1) := by decide +kernel
theorem dL_law_366 : decode cL_law 366 = .ok (.iload_n 3, 1) := by decide +kernel
theorem dL_law_367 : decode cL_law 367 = .ok (.iconst 3, 1) := by decide +kernel
theorem dL_law_368 : decode cL_law 368 = .ok (.iadd, 1) := by decide +kernel
theorem dL_law_369 : decode cL_law 369 = .ok (.iaload, 1) := by decide +kernel
theorem dL_law_370 : decode cL_law 370 = .ok (.invokevirtual 34, 3) := by decide +kernel
theorem dL_law_373 : decode cL_law 373 = .ok (.aload_n 2, 1) := by decide +kernel
theorem dL_law_374 : decode cL_law 374 = .ok (.aload_n 0, 1) := by decide +kernel
theorem dL_law_375 : decode cL_law 375 = .ok (.iload_n 3, 1) := by decide +kernel
theorem dL_law_376 : decode cL_law 376 = .ok (.iconst 1, 1) := by decide +kernel
theorem dL_law_377 : decode cL_law 377 = .ok (.iadd, 1) := by decide +kernel
theorem dL_law_378 : decode cL_law 378 = .ok (.iaload, 1) := by decide +kernel
theorem dL_law_379 : decode cL_law 379 = .ok (.i2l, 1) := by decide +kernel
theorem dL_law_380 : decode cL_law 380 = .ok (.bipush 32, 2) := by decide +kernel
theorem dL_law_382 : decode cL_law 382 = .ok (.lshl, 1) := by decide +kernel
theorem dL_law_383 : decode cL_law 383 = .ok (.aload_n 0, 1) := by decide +kernel
theorem dL_law_384 : decode cL_law 384 = .ok (.iload_n 3, 1) := by decide +kernel
theorem dL_law_385 : decode cL_law 385 = .ok (.iconst 2, 1) := by decide +kernel
theorem dL_law_386 : decode cL_law 386 = .ok (.iadd, 1) := by decide +kernel
theorem dL_law_387 : decode cL_law 387 = .ok (.iaload, 1) := by decide +kernel
theorem dL_law_388 : decode cL_law 388 = .ok (.i2l, 1) := by decide +kernel
theorem dL_law_389 : decode cL_law 389 = .ok (.ldc2_w 32, 3) := by decide +kernel
theorem dL_law_392 : decode cL_law 392 = .ok (.land, 1) := by decide +kernel
theorem dL_law_393 : decode cL_law 393 = .ok (.lor, 1) := by decide +kernel
theorem dL_law_394 : decode cL_law 394 = .ok (.aload_n 0, 1) := by decide +kernel
theorem dL_law_395 : decode cL_law 395 = .ok (.iload_n 3, 1) := by decide +kernel
theorem dL_law_396 : decode cL_law 396 = .ok (.iconst 3, 1) := by decide +kernel
theorem dL_law_397 : decode cL_law 397 = .ok (.iadd, 1) := by decide +kernel
theorem dL_law_398 : decode cL_law 398 = .ok (.iaload, 1) := by decide +kernel
theorem dL_law_399 : decode cL_law 399 = .ok (.invokevirtual 38, 3) := by decide +kernel
theorem dL_law_402 : decode cL_law 402 = .ok (.if_icmp .eq 713, 3) := by decide +kernel
theorem dL_law_405 : decode cL_law 405 = .ok (.iconst 0, 1) := by decide +kernel
theorem dL_law_406 : decode cL_law 406 = .ok (.ireturn, 1) := by decide +kernel
theorem dL_law_407 : decode cL_law 407 = .ok (.aload_n 1, 1) := by decide +kernel
theorem dL_law_408 : decode cL_law 408 = .ok (.invokevirtual 39, 3) := by decide +kernel
theorem dL_law_411 : decode cL_law 411 = .ok (.aload_n 2, 1) := by decide +kernel
theorem dL_law_412 : decode cL_law 412 = .ok (.invokevirtual 43, 3) := by decide +kernel
theorem dL_law_415 : decode cL_law 415 = .ok (.if_icmp .eq 700, 3) := by decide +kernel
theorem dL_law_418 : decode cL_law 418 = .ok (.iconst 0, 1) := by decide +kernel
theorem dL_law_419 : decode cL_law 419 = .ok (.ireturn, 1) := by decide +kernel
theorem dL_law_420 : decode cL_law 420 = .ok (.aload_n 1, 1) := by decide +kernel
theorem dL_law_421 : decode cL_law 421 = .ok (.invokevirtual 44, 3) := by decide +kernel
theorem dL_law_424 : decode cL_law 424 = .ok (.aload_n 2, 1) := by decide +kernel
theorem dL_law_425 : decode cL_law 425 = .ok (.invokevirtual 47, 3) := by decide +kernel
theorem dL_law_428 : decode cL_law 428 = .ok (.if_icmp .eq 687, 3) := by decide +kernel
theorem dL_law_431 : decode cL_law 431 = .ok (.iconst 0, 1) := by decide +kernel
theorem dL_law_432 : decode cL_law 432 = .ok (.ireturn, 1) := by decide +kernel
theorem dL_law_433 : decode cL_law 433 = .ok (.aload_n 1, 1) := by decide +kernel
theorem dL_law_434 : decode cL_law 434 = .ok (.aload_n 0, 1) := by decide +kernel
theorem dL_law_435 : decode cL_law 435 = .ok (.iload_n 3, 1) := by decide +kernel
theorem dL_law_436 : decode cL_law 436 = .ok (.iconst 1, 1) := by decide +kernel
theorem dL_law_437 : decode cL_law 437 = .ok (.iadd, 1) := by decide +kernel
theorem dL_law_438 : decode cL_law 438 = .ok (.iaload, 1) := by decide +kernel
theorem dL_law_439 : decode cL_law 439 = .ok (.aload_n 0, 1) := by decide +kernel
theorem dL_law_440 : decode cL_law 440 = .ok (.iload_n 3, 1) := by decide +kernel
theorem dL_law_441 : decode cL_law 441 = .ok (.iconst 2, 1) := by decide +kernel
theorem dL_law_442 : decode cL_law 442 = .ok (.iadd, 1) := by decide +kernel
theorem dL_law_443 : decode cL_law 443 = .ok (.iaload, 1) := by decide +kernel
theorem dL_law_444 : decode cL_law 444 = .ok (.invokevirtual 48, 3) := by decide +kernel
theorem dL_law_447 : decode cL_law 447 = .ok (.aload_n 2, 1) := by decide +kernel
theorem dL_law_448 : decode cL_law 448 = .ok (.aload_n 0, 1) := by decide +kernel
theorem dL_law_449 : decode cL_law 449 = .ok (.iload_n 3, 1) := by decide +kernel
theorem dL_law_450 : decode cL_law 450 = .ok (.iconst 1, 1) := by decide +kernel
theorem dL_law_451 : decode cL_law 451 = .ok (.iadd, 1) := by decide +kernel
theorem dL_law_452 : decode cL_law 452 = .ok (.iaload, 1) := by decide +kernel
theorem dL_law_453 : decode cL_law 453 = .ok (.aload_n 0, 1) := by decide +kernel
theorem dL_law_454 : decode cL_law 454 = .ok (.iload_n 3, 1) := by decide +kernel
theorem dL_law_455 : decode cL_law 455 = .ok (.iconst 2, 1) := by decide +kernel
theorem dL_law_456 : decode cL_law 456 = .ok (.iadd, 1) := by decide +kernel
theorem dL_law_457 : decode cL_law 457 = .ok (.iaload, 1) := by decide +kernel
theorem dL_law_458 : decode cL_law 458 = .ok (.invokevirtual 52, 3) := by decide +kernel
theorem dL_law_461 : decode cL_law 461 = .ok (.if_icmp .eq 654, 3) := by decide +kernel
theorem dL_law_464 : decode cL_law 464 = .ok (.iconst 0, 1) := by decide +kernel
theorem dL_law_465 : decode cL_law 465 = .ok (.ireturn, 1) := by decide +kernel
theorem dL_law_466 : decode cL_law 466 = .ok (.aload_n 1, 1) := by decide +kernel
theorem dL_law_467 : decode cL_law 467 = .ok (.aload_n 0, 1) := by decide +kernel
theorem dL_law_468 : decode cL_law 468 = .ok (.iload_n 3, 1) := by decide +kernel
theorem dL_law_469 : decode cL_law 469 = .ok (.iconst 1, 1) := by decide +kernel
theorem dL_law_470 : decode cL_law 470 = .ok (.iadd, 1) := by decide +kernel
theorem dL_law_471 : decode cL_law 471 = .ok (.iaload, 1) := by decide +kernel
theorem dL_law_472 : decode cL_law 472 = .ok (.aload_n 0, 1) := by decide +kernel
theorem dL_law_473 : decode cL_law 473 = .ok (.iload_n 3, 1) := by decide +kernel
theorem dL_law_474 : decode cL_law 474 = .ok (.iconst 2, 1) := by decide +kernel
theorem dL_law_475 : decode cL_law 475 = .ok (.iadd, 1) := by decide +kernel
theorem dL_law_476 : decode cL_law 476 = .ok (.iaload, 1) := by decide +kernel
theorem dL_law_477 : decode cL_law 477 = .ok (.invokevirtual 53, 3) := by decide +kernel
theorem dL_law_480 : decode cL_law 480 = .ok (.aload_n 2, 1) := by decide +kernel
theorem dL_law_481 : decode cL_law 481 = .ok (.aload_n 0, 1) := by decide +kernel
theorem dL_law_482 : decode cL_law 482 = .ok (.iload_n 3, 1) := by decide +kernel
theorem dL_law_483 : decode cL_law 483 = .ok (.iconst 1, 1) := by decide +kernel
theorem dL_law_484 : decode cL_law 484 = .ok (.iadd, 1) := by decide +kernel
theorem dL_law_485 : decode cL_law 485 = .ok (.iaload, 1) := by decide +kernel
theorem dL_law_486 : decode cL_law 486 = .ok (.aload_n 0, 1) := by decide +kernel
theorem dL_law_487 : decode cL_law 487 = .ok (.iload_n 3, 1) := by decide +kernel
theorem dL_law_488 : decode cL_law 488 = .ok (.iconst 2, 1) := by decide +kernel
theorem dL_law_489 : decode cL_law 489 = .ok (.iadd, 1) := by decide +kernel
theorem dL_law_490 : decode cL_law 490 = .ok (.iaload, 1) := by decide +kernel
theorem dL_law_491 : decode cL_law 491 = .ok (.invokevirtual 56, 3) := by decide +kernel
theorem dL_law_494 : decode cL_law 494 = .ok (.if_icmp .eq 621, 3) := by decide +kernel
theorem dL_law_497 : decode cL_law 497 = .ok (.iconst 0, 1) := by decide +kernel
theorem dL_law_498 : decode cL_law 498 = .ok (.ireturn, 1) := by decide +kernel
theorem dL_law_499 : decode cL_law 499 = .ok (.aload_n 1, 1) := by decide +kernel
theorem dL_law_500 : decode cL_law 500 = .ok (.aload_n 0, 1) := by decide +kernel
theorem dL_law_501 : decode cL_law 501 = .ok (.iload_n 3, 1) := by decide +kernel
theorem dL_law_502 : decode cL_law 502 = .ok (.iconst 1, 1) := by decide +kernel
theorem dL_law_503 : decode cL_law 503 = .ok (.iadd, 1) := by decide +kernel
theorem dL_law_504 : decode cL_law 504 = .ok (.iaload, 1) := by decide +kernel
theorem dL_law_505 : decode cL_law 505 = .ok (.aload_n 0, 1) := by decide +kernel
theorem dL_law_506 : decode cL_law 506 = .ok (.iload_n 3, 1) := by decide +kernel
theorem dL_law_507 : decode cL_law 507 = .ok (.iconst 2, 1) := by decide +kernel
theorem dL_law_508 : decode cL_law 508 = .ok (.iadd, 1) := by decide +kernel
theorem dL_law_509 : decode cL_law 509 = .ok (.iaload, 1) := by decide +kernel
theorem dL_law_510 : decode cL_law 510 = .ok (.invokevirtual 57, 3) := by decide +kernel
theorem dL_law_513 : decode cL_law 513 = .ok (.aload_n 2, 1) := by decide +kernel
theorem dL_law_514 : decode cL_law 514 = .ok (.aload_n 0, 1) := by decide +kernel
theorem dL_law_515 : decode cL_law 515 = .ok (.iload_n 3, 1) := by decide +kernel
theorem dL_law_516 : decode cL_law 516 = .ok (.iconst 1, 1) := by decide +kernel
theorem dL_law_517 : decode cL_law 517 = .ok (.iadd, 1) := by decide +kernel
theorem dL_law_518 : decode cL_law 518 = .ok (.iaload, 1) := by decide +kernel
theorem dL_law_519 : decode cL_law 519 = .ok (.aload_n 0, 1) := by decide +kernel
theorem dL_law_520 : decode cL_law 520 = .ok (.iload_n 3, 1) := by decide +kernel
theorem dL_law_521 : decode cL_law 521 = .ok (.iconst 2, 1) := by decide +kernel
theorem dL_law_522 : decode cL_law 522 = .ok (.iadd, 1) := by decide +kernel
theorem dL_law_523 : decode cL_law 523 = .ok (.iaload, 1) := by decide +kernel
theorem dL_law_524 : decode cL_law 524 = .ok (.invokevirtual 60, 3) := by decide +kernel
theorem dL_law_527 : decode cL_law 527 = .ok (.if_icmp .eq 588, 3) := by decide +kernel
theorem dL_law_530 : decode cL_law 530 = .ok (.iconst 0, 1) := by decide +kernel
theorem dL_law_531 : decode cL_law 531 = .ok (.ireturn, 1) := by decide +kernel
theorem dL_law_532 : decode cL_law 532 = .ok (.aload_n 1, 1) := by decide +kernel
theorem dL_law_533 : decode cL_law 533 = .ok (.aload_n 0, 1) := by decide +kernel
theorem dL_law_534 : decode cL_law 534 = .ok (.iload_n 3, 1) := by decide +kernel
theorem dL_law_535 : decode cL_law 535 = .ok (.iconst 1, 1) := by decide +kernel
theorem dL_law_536 : decode cL_law 536 = .ok (.iadd, 1) := by decide +kernel
theorem dL_law_537 : decode cL_law 537 = .ok (.iaload, 1) := by decide +kernel
theorem dL_law_538 : decode cL_law 538 = .ok (.aload_n 0, 1) := by decide +kernel
theorem dL_law_539 : decode cL_law 539 = .ok (.iload_n 3, 1) := by decide +kernel
theorem dL_law_540 : decode cL_law 540 = .ok (.iconst 2, 1) := by decide +kernel
theorem dL_law_541 : decode cL_law 541 = .ok (.iadd, 1) := by decide +kernel
theorem dL_law_542 : decode cL_law 542 = .ok (.iaload, 1) := by decide +kernel
theorem dL_law_543 : decode cL_law 543 = .ok (.aload_n 0, 1) := by decide +kernel
theorem dL_law_544 : decode cL_law 544 = .ok (.iload_n 3, 1) := by decide +kernel
theorem dL_law_545 : decode cL_law 545 = .ok (.iconst 3, 1) := by decide +kernel
theorem dL_law_546 : decode cL_law 546 = .ok (.iadd, 1) := by decide +kernel
theorem dL_law_547 : decode cL_law 547 = .ok (.iaload, 1) := by decide +kernel
theorem dL_law_548 : decode cL_law 548 = .ok (.invokevirtual 61, 3) := by decide +kernel
theorem dL_law_551 : decode cL_law 551 = .ok (.aload_n 2, 1) := by decide +kernel
theorem dL_law_552 : decode cL_law 552 = .ok (.aload_n 0, 1) := by decide +kernel
theorem dL_law_553 : decode cL_law 553 = .ok (.iload_n 3, 1) := by decide +kernel
theorem dL_law_554 : decode cL_law 554 = .ok (.iconst 1, 1) := by decide +kernel
theorem dL_law_555 : decode cL_law 555 = .ok (.iadd, 1) := by decide +kernel
theorem dL_law_556 : decode cL_law 556 = .ok (.iaload, 1) := by decide +kernel
theorem dL_law_557 : decode cL_law 557 = .ok (.aload_n 0, 1) := by decide +kernel
theorem dL_law_558 : decode cL_law 558 = .ok (.iload_n 3, 1) := by decide +kernel
theorem dL_law_559 : decode cL_law 559 = .ok (.iconst 2, 1) := by decide +kernel
theorem dL_law_560 : decode cL_law 560 = .ok (.iadd, 1) := by decide +kernel
theorem dL_law_561 : decode cL_law 561 = .ok (.iaload, 1) := by decide +kernel
theorem dL_law_562 : decode cL_law 562 = .ok (.aload_n 0, 1) := by decide +kernel
theorem dL_law_563 : decode cL_law 563 = .ok (.iload_n 3, 1) := by decide +kernel
theorem dL_law_564 : decode cL_law 564 = .ok (.iconst 3, 1) := by decide +kernel
theorem dL_law_565 : decode cL_law 565 = .ok (.iadd, 1) := by decide +kernel
theorem dL_law_566 : decode cL_law 566 = .ok (.iaload, 1) := by decide +kernel
theorem dL_law_567 : decode cL_law 567 = .ok (.invokevirtual 64, 3) := by decide +kernel
theorem dL_law_570 : decode cL_law 570 = .ok (.if_icmp .eq 545, 3) := by decide +kernel
theorem dL_law_573 : decode cL_law 573 = .ok (.iconst 0, 1) := by decide +kernel
theorem dL_law_574 : decode cL_law 574 = .ok (.ireturn, 1) := by decide +kernel
theorem dL_law_575 : decode cL_law 575 = .ok (.aload_n 1, 1) := by decide +kernel
theorem dL_law_576 : decode cL_law 576 = .ok (.aload_n 0, 1) := by decide +kernel
theorem dL_law_577 : decode cL_law 577 = .ok (.iload_n 3, 1) := by decide +kernel
theorem dL_law_578 : decode cL_law 578 = .ok (.iconst 1, 1) := by decide +kernel
theorem dL_law_579 : decode cL_law 579 = .ok (.iadd, 1) := by decide +kernel
theorem dL_law_580 : decode cL_law 580 = .ok (.iaload, 1) := by decide +kernel
theorem dL_law_581 : decode cL_law 581 = .ok (.invokevirtual 65, 3) := by decide +kernel
theorem dL_law_584 : decode cL_law 584 = .ok (.aload_n 2, 1) := by decide +kernel
theorem dL_law_585 : decode cL_law 585 = .ok (.aload_n 0, 1) := by decide +kernel
theorem dL_law_586 : decode cL_law 586 = .ok (.iload_n 3, 1) := by decide +kernel
theorem dL_law_587 : decode cL_law 587 = .ok (.iconst 1, 1) := by decide +kernel
theorem dL_law_588 : decode cL_law 588 = .ok (.iadd, 1) := by decide +kernel
theorem dL_law_589 : decode cL_law 589 = .ok (.iaload, 1) := by decide +kernel
theorem dL_law_590 : decode cL_law 590 = .ok (.invokevirtual 68, 3) := by decide +kernel
theorem dL_law_593 : decode cL_law 593 = .ok (.if_icmp .eq 522, 3) := by decide +kernel
theorem dL_law_596 : decode cL_law 596 = .ok (.iconst 0, 1) := by decide +kernel
theorem dL_law_597 : decode cL_law 597 = .ok (.ireturn, 1) := by decide +kernel
theorem dL_law_598 : decode cL_law 598 = .ok (.aload_n 1, 1) := by decide +kernel
theorem dL_law_599 : decode cL_law 599 = .ok (.aload_n 0, 1) := by decide +kernel
theorem dL_law_600 : decode cL_law 600 = .ok (.iload_n 3, 1) := by decide +kernel
theorem dL_law_601 : decode cL_law 601 = .ok (.iconst 1, 1) := by decide +kernel
theorem dL_law_602 : decode cL_law 602 = .ok (.iadd, 1) := by decide +kernel
theorem dL_law_603 : decode cL_law 603 = .ok (.iaload, 1) := by decide +kernel
theorem dL_law_604 : decode cL_law 604 = .ok (.aload_n 0, 1) := by decide +kernel
theorem dL_law_605 : decode cL_law 605 = .ok (.iload_n 3, 1) := by decide +kernel
theorem dL_law_606 : decode cL_law 606 = .ok (.iconst 2, 1) := by decide +kernel
theorem dL_law_607 : decode cL_law 607 = .ok (.iadd, 1) := by decide +kernel
theorem dL_law_608 : decode cL_law 608 = .ok (.iaload, 1) := by decide +kernel
theorem dL_law_609 : decode cL_law 609 = .ok (.aload_n 0, 1) := by decide +kernel
theorem dL_law_610 : decode cL_law 610 = .ok (.iload_n 3, 1) := by decide +kernel
theorem dL_law_611 : decode cL_law 611 = .ok (.iconst 3, 1) := by decide +kernel
theorem dL_law_612 : decode cL_law 612 = .ok (.iadd, 1) := by decide +kernel
theorem dL_law_613 : decode cL_law 613 = .ok (.iaload, 1) := by decide +kernel
theorem dL_law_614 : decode cL_law 614 = .ok (.invokevirtual 69, 3) := by decide +kernel
theorem dL_law_617 : decode cL_law 617 = .ok (.aload_n 2, 1) := by decide +kernel
theorem dL_law_618 : decode cL_law 618 = .ok (.aload_n 0, 1) := by decide +kernel
theorem dL_law_619 : decode cL_law 619 = .ok (.iload_n 3, 1) := by decide +kernel
theorem dL_law_620 : decode cL_law 620 = .ok (.iconst 1, 1) := by decide +kernel
theorem dL_law_621 : decode cL_law 621 = .ok (.iadd, 1) := by decide +kernel
theorem dL_law_622 : decode cL_law 622 = .ok (.iaload, 1) := by decide +kernel
theorem dL_law_623 : decode cL_law 623 = .ok (.aload_n 0, 1) := by decide +kernel
theorem dL_law_624 : decode cL_law 624 = .ok (.iload_n 3, 1) := by decide +kernel
theorem dL_law_625 : decode cL_law 625 = .ok (.iconst 2, 1) := by decide +kernel
theorem dL_law_626 : decode cL_law 626 = .ok (.iadd, 1) := by decide +kernel
theorem dL_law_627 : decode cL_law 627 = .ok (.iaload, 1) := by decide +kernel
theorem dL_law_628 : decode cL_law 628 = .ok (.aload_n 0, 1) := by decide +kernel
theorem dL_law_629 : decode cL_law 629 = .ok (.iload_n 3, 1) := by decide +kernel
theorem dL_law_630 : decode cL_law 630 = .ok (.iconst 3, 1) := by decide +kernel
theorem dL_law_631 : decode cL_law 631 = .ok (.iadd, 1) := by decide +kernel
theorem dL_law_632 : decode cL_law 632 = .ok (.iaload, 1) := by decide +kernel
theorem dL_law_633 : decode cL_law 633 = .ok (.invokevirtual 72, 3) := by decide +kernel
theorem dL_law_636 : decode cL_law 636 = .ok (.if_icmp .eq 479, 3) := by decide +kernel
theorem dL_law_639 : decode cL_law 639 = .ok (.iconst 0, 1) := by decide +kernel
theorem dL_law_640 : decode cL_law 640 = .ok (.ireturn, 1) := by decide +kernel
theorem dL_law_641 : decode cL_law 641 = .ok (.aload_n 1, 1) := by decide +kernel
theorem dL_law_642 : decode cL_law 642 = .ok (.aload_n 0, 1) := by decide +kernel
theorem dL_law_643 : decode cL_law 643 = .ok (.iload_n 3, 1) := by decide +kernel
theorem dL_law_644 : decode cL_law 644 = .ok (.iconst 1, 1) := by decide +kernel
theorem dL_law_645 : decode cL_law 645 = .ok (.iadd, 1) := by decide +kernel
theorem dL_law_646 : decode cL_law 646 = .ok (.iaload, 1) := by decide +kernel
theorem dL_law_647 : decode cL_law 647 = .ok (.aload_n 0, 1) := by decide +kernel
theorem dL_law_648 : decode cL_law 648 = .ok (.iload_n 3, 1) := by decide +kernel
theorem dL_law_649 : decode cL_law 649 = .ok (.iconst 2, 1) := by decide +kernel
theorem dL_law_650 : decode cL_law 650 = .ok (.iadd, 1) := by decide +kernel
theorem dL_law_651 : decode cL_law 651 = .ok (.iaload, 1) := by decide +kernel
theorem dL_law_652 : decode cL_law 652 = .ok (.invokevirtual 73, 3) := by decide +kernel
theorem dL_law_655 : decode cL_law 655 = .ok (.aload_n 2, 1) := by decide +kernel
theorem dL_law_656 : decode cL_law 656 = .ok (.aload_n 0, 1) := by decide +kernel
theorem dL_law_657 : decode cL_law 657 = .ok (.iload_n 3, 1) := by decide +kernel
theorem dL_law_658 : decode cL_law 658 = .ok (.iconst 1, 1) := by decide +kernel
theorem dL_law_659 : decode cL_law 659 = .ok (.iadd, 1) := by decide +kernel
theorem dL_law_660 : decode cL_law 660 = .ok (.iaload, 1) := by decide +kernel
theorem dL_law_661 : decode cL_law 661 = .ok (.aload_n 0, 1) := by decide +kernel
theorem dL_law_662 : decode cL_law 662 = .ok (.iload_n 3, 1) := by decide +kernel
theorem dL_law_663 : decode cL_law 663 = .ok (.iconst 2, 1) := by decide +kernel
theorem dL_law_664 : decode cL_law 664 = .ok (.iadd, 1) := by decide +kernel
theorem dL_law_665 : decode cL_law 665 = .ok (.iaload, 1) := by decide +kernel
theorem dL_law_666 : decode cL_law 666 = .ok (.invokevirtual 76, 3) := by decide +kernel
theorem dL_law_669 : decode cL_law 669 = .ok (.if_icmp .eq 446, 3) := by decide +kernel
theorem dL_law_672 : decode cL_law 672 = .ok (.iconst 0, 1) := by decide +kernel
theorem dL_law_673 : decode cL_law 673 = .ok (.ireturn, 1) := by decide +kernel
theorem dL_law_674 : decode cL_law 674 = .ok (.aload_n 1, 1) := by decide +kernel
theorem dL_law_675 : decode cL_law 675 = .ok (.aload_n 0, 1) := by decide +kernel
theorem dL_law_676 : decode cL_law 676 = .ok (.iload_n 3, 1) := by decide +kernel
theorem dL_law_677 : decode cL_law 677 = .ok (.iconst 1, 1) := by decide +kernel
theorem dL_law_678 : decode cL_law 678 = .ok (.iadd, 1) := by decide +kernel
theorem dL_law_679 : decode cL_law 679 = .ok (.iaload, 1) := by decide +kernel
theorem dL_law_680 : decode cL_law 680 = .ok (.invokevirtual 77, 3) := by decide +kernel
theorem dL_law_683 : decode cL_law 683 = .ok (.aload_n 2, 1) := by decide +kernel
theorem dL_law_684 : decode cL_law 684 = .ok (.aload_n 0, 1) := by decide +kernel
theorem dL_law_685 : decode cL_law 685 = .ok (.iload_n 3, 1) := by decide +kernel
theorem dL_law_686 : decode cL_law 686 = .ok (.iconst 1, 1) := by decide +kernel
theorem dL_law_687 : decode cL_law 687 = .ok (.iadd, 1) := by decide +kernel
theorem dL_law_688 : decode cL_law 688 = .ok (.iaload, 1) := by decide +kernel
theorem dL_law_689 : decode cL_law 689 = .ok (.invokevirtual 80, 3) := by decide +kernel
theorem dL_law_692 : decode cL_law 692 = .ok (.if_icmp .eq 423, 3) := by decide +kernel
theorem dL_law_695 : decode cL_law 695 = .ok (.iconst 0, 1) := by decide +kernel
theorem dL_law_696 : decode cL_law 696 = .ok (.ireturn, 1) := by decide +kernel
theorem dL_law_697 : decode cL_law 697 = .ok (.aload_n 1, 1) := by decide +kernel
theorem dL_law_698 : decode cL_law 698 = .ok (.aload_n 0, 1) := by decide +kernel
theorem dL_law_699 : decode cL_law 699 = .ok (.iload_n 3, 1) := by decide +kernel
theorem dL_law_700 : decode cL_law 700 = .ok (.iconst 1, 1) := by decide +kernel
theorem dL_law_701 : decode cL_law 701 = .ok (.iadd, 1) := by decide +kernel
theorem dL_law_702 : decode cL_law 702 = .ok (.iaload, 1) := by decide +kernel
theorem dL_law_703 : decode cL_law 703 = .ok (.invokevirtual 81, 3) := by decide +kernel
theorem dL_law_706 : decode cL_law 706 = .ok (.aload_n 2, 1) := by decide +kernel
theorem dL_law_707 : decode cL_law 707 = .ok (.aload_n 0, 1) := by decide +kernel
theorem dL_law_708 : decode cL_law 708 = .ok (.iload_n 3, 1) := by decide +kernel
theorem dL_law_709 : decode cL_law 709 = .ok (.iconst 1, 1) := by decide +kernel
theorem dL_law_710 : decode cL_law 710 = .ok (.iadd, 1) := by decide +kernel
theorem dL_law_711 : decode cL_law 711 = .ok (.iaload, 1) := by decide +kernel
theorem dL_law_712 : decode cL_law 712 = .ok (.invokevirtual 84, 3) := by decide +kernel
theorem dL_law_715 : decode cL_law 715 = .ok (.if_icmp .eq 400, 3) := by decide +kernel
theorem dL_law_718 : decode cL_law 718 = .ok (.iconst 0, 1) := by decide +kernel
theorem dL_law_719 : decode cL_law 719 = .ok (.ireturn, 1) := by decide +kernel
theorem dL_law_720 : decode cL_law 720 = .ok (.aload_n 1, 1) := by decide +kernel
theorem dL_law_721 : decode cL_law 721 = .ok (.aload_n 0, 1) := by decide +kernel
theorem dL_law_722 : decode cL_law 722 = .ok (.iload_n 3, 1) := by decide +kernel
theorem dL_law_723 : decode cL_law 723 = .ok (.iconst 1, 1) := by decide +kernel
theorem dL_law_724 : decode cL_law 724 = .ok (.iadd, 1) := by decide +kernel
theorem dL_law_725 : decode cL_law 725 = .ok (.iaload, 1) := by decide +kernel
theorem dL_law_726 : decode cL_law 726 = .ok (.invokevirtual 85, 3) := by decide +kernel
theorem dL_law_729 : decode cL_law 729 = .ok (.aload_n 2, 1) := by decide +kernel
theorem dL_law_730 : decode cL_law 730 = .ok (.aload_n 0, 1) := by decide +kernel
theorem dL_law_731 : decode cL_law 731 = .ok (.iload_n 3, 1) := by decide +kernel
theorem dL_law_732 : decode cL_law 732 = .ok (.iconst 1, 1) := by decide +kernel
theorem dL_law_733 : decode cL_law 733 = .ok (.iadd, 1) := by decide +kernel
theorem dL_law_734 : decode cL_law 734 = .ok (.iaload, 1) := by decide +kernel
theorem dL_law_735 : decode cL_law 735 = .ok (.invokevirtual 88, 3) := by decide +kernel
theorem dL_law_738 : decode cL_law 738 = .ok (.if_icmp .eq 377, 3) := by decide +kernel
theorem dL_law_741 : decode cL_law 741 = .ok (.iconst 0, 1) := by decide +kernel
theorem dL_law_742 : decode cL_law 742 = .ok (.ireturn, 1) := by decide +kernel
theorem dL_law_743 : decode cL_law 743 = .ok (.aload_n 1, 1) := by decide +kernel
theorem dL_law_744 : decode cL_law 744 = .ok (.aload_n 0, 1) := by decide +kernel
theorem dL_law_745 : decode cL_law 745 = .ok (.iload_n 3, 1) := by decide +kernel
theorem dL_law_746 : decode cL_law 746 = .ok (.iconst 1, 1) := by decide +kernel
theorem dL_law_747 : decode cL_law 747 = .ok (.iadd, 1) := by decide +kernel
theorem dL_law_748 : decode cL_law 748 = .ok (.iaload, 1) := by decide +kernel
theorem dL_law_749 : decode cL_law 749 = .ok (.aload_n 0, 1) := by decide +kernel
theorem dL_law_750 : decode cL_law 750 = .ok (.iload_n 3, 1) := by decide +kernel
theorem dL_law_751 : decode cL_law 751 = .ok (.iconst 2, 1) := by decide +kernel
theorem dL_law_752 : decode cL_law 752 = .ok (.iadd, 1) := by decide +kernel
theorem dL_law_753 : decode cL_law 753 = .ok (.iaload, 1) := by decide +kernel
theorem dL_law_754 : decode cL_law 754 = .ok (.invokevirtual 89, 3) := by decide +kernel
theorem dL_law_757 : decode cL_law 757 = .ok (.aload_n 2, 1) := by decide +kernel
theorem dL_law_758 : decode cL_law 758 = .ok (.aload_n 0, 1) := by decide +kernel
theorem dL_law_759 : decode cL_law 759 = .ok (.iload_n 3, 1) := by decide +kernel
theorem dL_law_760 : decode cL_law 760 = .ok (.iconst 1, 1) := by decide +kernel
theorem dL_law_761 : decode cL_law 761 = .ok (.iadd, 1) := by decide +kernel
theorem dL_law_762 : decode cL_law 762 = .ok (.iaload, 1) := by decide +kernel
theorem dL_law_763 : decode cL_law 763 = .ok (.aload_n 0, 1) := by decide +kernel
theorem dL_law_764 : decode cL_law 764 = .ok (.iload_n 3, 1) := by decide +kernel
theorem dL_law_765 : decode cL_law 765 = .ok (.iconst 2, 1) := by decide +kernel
theorem dL_law_766 : decode cL_law 766 = .ok (.iadd, 1) := by decide +kernel
theorem dL_law_767 : decode cL_law 767 = .ok (.iaload, 1) := by decide +kernel
theorem dL_law_768 : decode cL_law 768 = .ok (.invokevirtual 92, 3) := by decide +kernel
theorem dL_law_771 : decode cL_law 771 = .ok (.if_icmp .eq 344, 3) := by decide +kernel
theorem dL_law_774 : decode cL_law 774 = .ok (.iconst 0, 1) := by decide +kernel
theorem dL_law_775 : decode cL_law 775 = .ok (.ireturn, 1) := by decide +kernel
theorem dL_law_776 : decode cL_law 776 = .ok (.aload_n 1, 1) := by decide +kernel
theorem dL_law_777 : decode cL_law 777 = .ok (.invokevirtual 93, 3) := by decide +kernel
theorem dL_law_780 : decode cL_law 780 = .ok (.aload_n 2, 1) := by decide +kernel
theorem dL_law_781 : decode cL_law 781 = .ok (.invokevirtual 96, 3) := by decide +kernel
theorem dL_law_784 : decode cL_law 784 = .ok (.if_icmp .eq 331, 3) := by decide +kernel
theorem dL_law_787 : decode cL_law 787 = .ok (.iconst 0, 1) := by decide +kernel
theorem dL_law_788 : decode cL_law 788 = .ok (.ireturn, 1) := by decide +kernel
theorem dL_law_789 : decode cL_law 789 = .ok (.aload_n 1, 1) := by decide +kernel
theorem dL_law_790 : decode cL_law 790 = .ok (.aload_n 0, 1) := by decide +kernel
theorem dL_law_791 : decode cL_law 791 = .ok (.iload_n 3, 1) := by decide +kernel
theorem dL_law_792 : decode cL_law 792 = .ok (.iconst 1, 1) := by decide +kernel
theorem dL_law_793 : decode cL_law 793 = .ok (.iadd, 1) := by decide +kernel
theorem dL_law_794 : decode cL_law 794 = .ok (.iaload, 1) := by decide +kernel
theorem dL_law_795 : decode cL_law 795 = .ok (.aload_n 0, 1) := by decide +kernel
theorem dL_law_796 : decode cL_law 796 = .ok (.iload_n 3, 1) := by decide +kernel
theorem dL_law_797 : decode cL_law 797 = .ok (.iconst 2, 1) := by decide +kernel
theorem dL_law_798 : decode cL_law 798 = .ok (.iadd, 1) := by decide +kernel
theorem dL_law_799 : decode cL_law 799 = .ok (.iaload, 1) := by decide +kernel
theorem dL_law_800 : decode cL_law 800 = .ok (.aload_n 0, 1) := by decide +kernel
theorem dL_law_801 : decode cL_law 801 = .ok (.iload_n 3, 1) := by decide +kernel
theorem dL_law_802 : decode cL_law 802 = .ok (.iconst 3, 1) := by decide +kernel
theorem dL_law_803 : decode cL_law 803 = .ok (.iadd, 1) := by decide +kernel
theorem dL_law_804 : decode cL_law 804 = .ok (.iaload, 1) := by decide +kernel
theorem dL_law_805 : decode cL_law 805 = .ok (.invokevirtual 97, 3) := by decide +kernel
theorem dL_law_808 : decode cL_law 808 = .ok (.aload_n 2, 1) := by decide +kernel
theorem dL_law_809 : decode cL_law 809 = .ok (.aload_n 0, 1) := by decide +kernel
theorem dL_law_810 : decode cL_law 810 = .ok (.iload_n 3, 1) := by decide +kernel
theorem dL_law_811 : decode cL_law 811 = .ok (.iconst 1, 1) := by decide +kernel
theorem dL_law_812 : decode cL_law 812 = .ok (.iadd, 1) := by decide +kernel
theorem dL_law_813 : decode cL_law 813 = .ok (.iaload, 1) := by decide +kernel
theorem dL_law_814 : decode cL_law 814 = .ok (.aload_n 0, 1) := by decide +kernel
theorem dL_law_815 : decode cL_law 815 = .ok (.iload_n 3, 1) := by decide +kernel
theorem dL_law_816 : decode cL_law 816 = .ok (.iconst 2, 1) := by decide +kernel
theorem dL_law_817 : decode cL_law 817 = .ok (.iadd, 1) := by decide +kernel
theorem dL_law_818 : decode cL_law 818 = .ok (.iaload, 1) := by decide +kernel
theorem dL_law_819 : decode cL_law 819 = .ok (.aload_n 0, 1) := by decide +kernel
theorem dL_law_820 : decode cL_law 820 = .ok (.iload_n 3, 1) := by decide +kernel
theorem dL_law_821 : decode cL_law 821 = .ok (.iconst 3, 1) := by decide +kernel
theorem dL_law_822 : decode cL_law 822 = .ok (.iadd, 1) := by decide +kernel
theorem dL_law_823 : decode cL_law 823 = .ok (.iaload, 1) := by decide +kernel
theorem dL_law_824 : decode cL_law 824 = .ok (.invokevirtual 100, 3) := by decide +kernel
theorem dL_law_827 : decode cL_law 827 = .ok (.if_icmp .eq 288, 3) := by decide +kernel
theorem dL_law_830 : decode cL_law 830 = .ok (.iconst 0, 1) := by decide +kernel
theorem dL_law_831 : decode cL_law 831 = .ok (.ireturn, 1) := by decide +kernel
theorem dL_law_832 : decode cL_law 832 = .ok (.aload_n 1, 1) := by decide +kernel
theorem dL_law_833 : decode cL_law 833 = .ok (.aload_n 0, 1) := by decide +kernel
theorem dL_law_834 : decode cL_law 834 = .ok (.iload_n 3, 1) := by decide +kernel
theorem dL_law_835 : decode cL_law 835 = .ok (.iconst 1, 1) := by decide +kernel
theorem dL_law_836 : decode cL_law 836 = .ok (.iadd, 1) := by decide +kernel
theorem dL_law_837 : decode cL_law 837 = .ok (.iaload, 1) := by decide +kernel
theorem dL_law_838 : decode cL_law 838 = .ok (.aload_n 0, 1) := by decide +kernel
theorem dL_law_839 : decode cL_law 839 = .ok (.iload_n 3, 1) := by decide +kernel
theorem dL_law_840 : decode cL_law 840 = .ok (.iconst 2, 1) := by decide +kernel
theorem dL_law_841 : decode cL_law 841 = .ok (.iadd, 1) := by decide +kernel
theorem dL_law_842 : decode cL_law 842 = .ok (.iaload, 1) := by decide +kernel
theorem dL_law_843 : decode cL_law 843 = .ok (.aload_n 0, 1) := by decide +kernel
theorem dL_law_844 : decode cL_law 844 = .ok (.iload_n 3, 1) := by decide +kernel
theorem dL_law_845 : decode cL_law 845 = .ok (.iconst 3, 1) := by decide +kernel
theorem dL_law_846 : decode cL_law 846 = .ok (.iadd, 1) := by decide +kernel
theorem dL_law_847 : decode cL_law 847 = .ok (.iaload, 1) := by decide +kernel
theorem dL_law_848 : decode cL_law 848 = .ok (.aload_n 0, 1) := by decide +kernel
theorem dL_law_849 : decode cL_law 849 = .ok (.iload_n 3, 1) := by decide +kernel
theorem dL_law_850 : decode cL_law 850 = .ok (.iconst 4, 1) := by decide +kernel
theorem dL_law_851 : decode cL_law 851 = .ok (.iadd, 1) := by decide +kernel
theorem dL_law_852 : decode cL_law 852 = .ok (.iaload, 1) := by decide +kernel
theorem dL_law_853 : decode cL_law 853 = .ok (.invokevirtual 101, 3) := by decide +kernel
theorem dL_law_856 : decode cL_law 856 = .ok (.aload_n 2, 1) := by decide +kernel
theorem dL_law_857 : decode cL_law 857 = .ok (.aload_n 0, 1) := by decide +kernel
theorem dL_law_858 : decode cL_law 858 = .ok (.iload_n 3, 1) := by decide +kernel
theorem dL_law_859 : decode cL_law 859 = .ok (.iconst 1, 1) := by decide +kernel
theorem dL_law_860 : decode cL_law 860 = .ok (.iadd, 1) := by decide +kernel
theorem dL_law_861 : decode cL_law 861 = .ok (.iaload, 1) := by decide +kernel
theorem dL_law_862 : decode cL_law 862 = .ok (.aload_n 0, 1) := by decide +kernel
theorem dL_law_863 : decode cL_law 863 = .ok (.iload_n 3, 1) := by decide +kernel
theorem dL_law_864 : decode cL_law 864 = .ok (.iconst 2, 1) := by decide +kernel
theorem dL_law_865 : decode cL_law 865 = .ok (.iadd, 1) := by decide +kernel
theorem dL_law_866 : decode cL_law 866 = .ok (.iaload, 1) := by decide +kernel
theorem dL_law_867 : decode cL_law 867 = .ok (.aload_n 0, 1) := by decide +kernel
theorem dL_law_868 : decode cL_law 868 = .ok (.iload_n 3, 1) := by decide +kernel
theorem dL_law_869 : decode cL_law 869 = .ok (.iconst 3, 1) := by decide +kernel
theorem dL_law_870 : decode cL_law 870 = .ok (.iadd, 1) := by decide +kernel
theorem dL_law_871 : decode cL_law 871 = .ok (.iaload, 1) := by decide +kernel
theorem dL_law_872 : decode cL_law 872 = .ok (.aload_n 0, 1) := by decide +kernel
theorem dL_law_873 : decode cL_law 873 = .ok (.iload_n 3, 1) := by decide +kernel
theorem dL_law_874 : decode cL_law 874 = .ok (.iconst 4, 1) := by decide +kernel
theorem dL_law_875 : decode cL_law 875 = .ok (.iadd, 1) := by decide +kernel
theorem dL_law_876 : decode cL_law 876 = .ok (.iaload, 1) := by decide +kernel
theorem dL_law_877 : decode cL_law 877 = .ok (.invokevirtual 105, 3) := by decide +kernel
theorem dL_law_880 : decode cL_law 880 = .ok (.if_icmp .eq 235, 3) := by decide +kernel
theorem dL_law_883 : decode cL_law 883 = .ok (.iconst 0, 1) := by decide +kernel
theorem dL_law_884 : decode cL_law 884 = .ok (.ireturn, 1) := by decide +kernel
theorem dL_law_885 : decode cL_law 885 = .ok (.aload_n 1, 1) := by decide +kernel
theorem dL_law_886 : decode cL_law 886 = .ok (.invokevirtual 106, 3) := by decide +kernel
theorem dL_law_889 : decode cL_law 889 = .ok (.aload_n 2, 1) := by decide +kernel
theorem dL_law_890 : decode cL_law 890 = .ok (.invokevirtual 109, 3) := by decide +kernel
theorem dL_law_893 : decode cL_law 893 = .ok (.if_icmp .eq 222, 3) := by decide +kernel
theorem dL_law_896 : decode cL_law 896 = .ok (.iconst 0, 1) := by decide +kernel
theorem dL_law_897 : decode cL_law 897 = .ok (.ireturn, 1) := by decide +kernel
theorem dL_law_898 : decode cL_law 898 = .ok (.aload_n 1, 1) := by decide +kernel
theorem dL_law_899 : decode cL_law 899 = .ok (.invokevirtual 110, 3) := by decide +kernel
theorem dL_law_902 : decode cL_law 902 = .ok (.aload_n 2, 1) := by decide +kernel
theorem dL_law_903 : decode cL_law 903 = .ok (.invokevirtual 113, 3) := by decide +kernel
theorem dL_law_906 : decode cL_law 906 = .ok (.if_icmp .eq 209, 3) := by decide +kernel
theorem dL_law_909 : decode cL_law 909 = .ok (.iconst 0, 1) := by decide +kernel
theorem dL_law_910 : decode cL_law 910 = .ok (.ireturn, 1) := by decide +kernel
theorem dL_law_911 : decode cL_law 911 = .ok (.aload_n 1, 1) := by decide +kernel
theorem dL_law_912 : decode cL_law 912 = .ok (.aload_n 0, 1) := by decide +kernel
theorem dL_law_913 : decode cL_law 913 = .ok (.iload_n 3, 1) := by decide +kernel
theorem dL_law_914 : decode cL_law 914 = .ok (.iconst 1, 1) := by decide +kernel
theorem dL_law_915 : decode cL_law 915 = .ok (.iadd, 1) := by decide +kernel
theorem dL_law_916 : decode cL_law 916 = .ok (.iaload, 1) := by decide +kernel
theorem dL_law_917 : decode cL_law 917 = .ok (.aload_n 0, 1) := by decide +kernel
theorem dL_law_918 : decode cL_law 918 = .ok (.iload_n 3, 1) := by decide +kernel
theorem dL_law_919 : decode cL_law 919 = .ok (.iconst 2, 1) := by decide +kernel
theorem dL_law_920 : decode cL_law 920 = .ok (.iadd, 1) := by decide +kernel
theorem dL_law_921 : decode cL_law 921 = .ok (.iaload, 1) := by decide +kernel
theorem dL_law_922 : decode cL_law 922 = .ok (.invokevirtual 114, 3) := by decide +kernel
theorem dL_law_925 : decode cL_law 925 = .ok (.aload_n 2, 1) := by decide +kernel
theorem dL_law_926 : decode cL_law 926 = .ok (.aload_n 0, 1) := by decide +kernel
theorem dL_law_927 : decode cL_law 927 = .ok (.iload_n 3, 1) := by decide +kernel
theorem dL_law_928 : decode cL_law 928 = .ok (.iconst 1, 1) := by decide +kernel
theorem dL_law_929 : decode cL_law 929 = .ok (.iadd, 1) := by decide +kernel
theorem dL_law_930 : decode cL_law 930 = .ok (.iaload, 1) := by decide +kernel
theorem dL_law_931 : decode cL_law 931 = .ok (.aload_n 0, 1) := by decide +kernel
theorem dL_law_932 : decode cL_law 932 = .ok (.iload_n 3, 1) := by decide +kernel
theorem dL_law_933 : decode cL_law 933 = .ok (.iconst 2, 1) := by decide +kernel
theorem dL_law_934 : decode cL_law 934 = .ok (.iadd, 1) := by decide +kernel
theorem dL_law_935 : decode cL_law 935 = .ok (.iaload, 1) := by decide +kernel
theorem dL_law_936 : decode cL_law 936 = .ok (.invokevirtual 117, 3) := by decide +kernel
theorem dL_law_939 : decode cL_law 939 = .ok (.if_icmp .eq 176, 3) := by decide +kernel
theorem dL_law_942 : decode cL_law 942 = .ok (.iconst 0, 1) := by decide +kernel
theorem dL_law_943 : decode cL_law 943 = .ok (.ireturn, 1) := by decide +kernel
theorem dL_law_944 : decode cL_law 944 = .ok (.aload_n 1, 1) := by decide +kernel
theorem dL_law_945 : decode cL_law 945 = .ok (.aload_n 0, 1) := by decide +kernel
theorem dL_law_946 : decode cL_law 946 = .ok (.iload_n 3, 1) := by decide +kernel
theorem dL_law_947 : decode cL_law 947 = .ok (.iconst 1, 1) := by decide +kernel
theorem dL_law_948 : decode cL_law 948 = .ok (.iadd, 1) := by decide +kernel
theorem dL_law_949 : decode cL_law 949 = .ok (.iaload, 1) := by decide +kernel
theorem dL_law_950 : decode cL_law 950 = .ok (.invokevirtual 118, 3) := by decide +kernel
theorem dL_law_953 : decode cL_law 953 = .ok (.aload_n 2, 1) := by decide +kernel
theorem dL_law_954 : decode cL_law 954 = .ok (.aload_n 0, 1) := by decide +kernel
theorem dL_law_955 : decode cL_law 955 = .ok (.iload_n 3, 1) := by decide +kernel
theorem dL_law_956 : decode cL_law 956 = .ok (.iconst 1, 1) := by decide +kernel
theorem dL_law_957 : decode cL_law 957 = .ok (.iadd, 1) := by decide +kernel
theorem dL_law_958 : decode cL_law 958 = .ok (.iaload, 1) := by decide +kernel
theorem dL_law_959 : decode cL_law 959 = .ok (.invokevirtual 121, 3) := by decide +kernel
theorem dL_law_962 : decode cL_law 962 = .ok (.if_icmp .eq 153, 3) := by decide +kernel
theorem dL_law_965 : decode cL_law 965 = .ok (.iconst 0, 1) := by decide +kernel
theorem dL_law_966 : decode cL_law 966 = .ok (.ireturn, 1) := by decide +kernel
theorem dL_law_967 : decode cL_law 967 = .ok (.aload_n 1, 1) := by decide +kernel
theorem dL_law_968 : decode cL_law 968 = .ok (.aload_n 0, 1) := by decide +kernel
theorem dL_law_969 : decode cL_law 969 = .ok (.iload_n 3, 1) := by decide +kernel
theorem dL_law_970 : decode cL_law 970 = .ok (.iconst 1, 1) := by decide +kernel
theorem dL_law_971 : decode cL_law 971 = .ok (.iadd, 1) := by decide +kernel
theorem dL_law_972 : decode cL_law 972 = .ok (.iaload, 1) := by decide +kernel
theorem dL_law_973 : decode cL_law 973 = .ok (.invokevirtual 122, 3) := by decide +kernel
theorem dL_law_976 : decode cL_law 976 = .ok (.aload_n 2, 1) := by decide +kernel
theorem dL_law_977 : decode cL_law 977 = .ok (.aload_n 0, 1) := by decide +kernel
theorem dL_law_978 : decode cL_law 978 = .ok (.iload_n 3, 1) := by decide +kernel
theorem dL_law_979 : decode cL_law 979 = .ok (.iconst 1, 1) := by decide +kernel
theorem dL_law_980 : decode cL_law 980 = .ok (.iadd, 1) := by decide +kernel
theorem dL_law_981 : decode cL_law 981 = .ok (.iaload, 1) := by decide +kernel
theorem dL_law_982 : decode cL_law 982 = .ok (.invokevirtual 125, 3) := by decide +kernel
theorem dL_law_985 : decode cL_law 985 = .ok (.if_icmp .eq 130, 3) := by decide +kernel
theorem dL_law_988 : decode cL_law 988 = .ok (.iconst 0, 1) := by decide +kernel
theorem dL_law_989 : decode cL_law 989 = .ok (.ireturn, 1) := by decide +kernel
theorem dL_law_990 : decode cL_law 990 = .ok (.aload_n 1, 1) := by decide +kernel
theorem dL_law_991 : decode cL_law 991 = .ok (.aload_n 0, 1) := by decide +kernel
theorem dL_law_992 : decode cL_law 992 = .ok (.iload_n 3, 1) := by decide +kernel
theorem dL_law_993 : decode cL_law 993 = .ok (.iconst 1, 1) := by decide +kernel
theorem dL_law_994 : decode cL_law 994 = .ok (.iadd, 1) := by decide +kernel
theorem dL_law_995 : decode cL_law 995 = .ok (.iaload, 1) := by decide +kernel
theorem dL_law_996 : decode cL_law 996 = .ok (.aload_n 0, 1) := by decide +kernel
theorem dL_law_997 : decode cL_law 997 = .ok (.iload_n 3, 1) := by decide +kernel
theorem dL_law_998 : decode cL_law 998 = .ok (.iconst 2, 1) := by decide +kernel
theorem dL_law_999 : decode cL_law 999 = .ok (.iadd, 1) := by decide +kernel
theorem dL_law_1000 : decode cL_law 1000 = .ok (.iaload, 1) := by decide +kernel
theorem dL_law_1001 : decode cL_law 1001 = .ok (.invokevirtual 126, 3) := by decide +kernel
theorem dL_law_1004 : decode cL_law 1004 = .ok (.aload_n 2, 1) := by decide +kernel
theorem dL_law_1005 : decode cL_law 1005 = .ok (.aload_n 0, 1) := by decide +kernel
theorem dL_law_1006 : decode cL_law 1006 = .ok (.iload_n 3, 1) := by decide +kernel
theorem dL_law_1007 : decode cL_law 1007 = .ok (.iconst 1, 1) := by decide +kernel
theorem dL_law_1008 : decode cL_law 1008 = .ok (.iadd, 1) := by decide +kernel
theorem dL_law_1009 : decode cL_law 1009 = .ok (.iaload, 1) := by decide +kernel
theorem dL_law_1010 : decode cL_law 1010 = .ok (.aload_n 0, 1) := by decide +kernel
theorem dL_law_1011 : decode cL_law 1011 = .ok (.iload_n 3, 1) := by decide +kernel
theorem dL_law_1012 : decode cL_law 1012 = .ok (.iconst 2, 1) := by decide +kernel
theorem dL_law_1013 : decode cL_law 1013 = .ok (.iadd, 1) := by decide +kernel
theorem dL_law_1014 : decode cL_law 1014 = .ok (.iaload, 1) := by decide +kernel
theorem dL_law_1015 : decode cL_law 1015 = .ok (.invokevirtual 129, 3) := by decide +kernel
theorem dL_law_1018 : decode cL_law 1018 = .ok (.if_icmp .eq 97, 3) := by decide +kernel
theorem dL_law_1021 : decode cL_law 1021 = .ok (.iconst 0, 1) := by decide +kernel
theorem dL_law_1022 : decode cL_law 1022 = .ok (.ireturn, 1) := by decide +kernel
theorem dL_law_1023 : decode cL_law 1023 = .ok (.aload_n 1, 1) := by decide +kernel
theorem dL_law_1024 : decode cL_law 1024 = .ok (.aload_n 0, 1) := by decide +kernel
theorem dL_law_1025 : decode cL_law 1025 = .ok (.iload_n 3, 1) := by decide +kernel
theorem dL_law_1026 : decode cL_law 1026 = .ok (.iconst 1, 1) := by decide +kernel
theorem dL_law_1027 : decode cL_law 1027 = .ok (.iadd, 1) := by decide +kernel
theorem dL_law_1028 : decode cL_law 1028 = .ok (.iaload, 1) := by decide +kernel
theorem dL_law_1029 : decode cL_law 1029 = .ok (.aload_n 0, 1) := by decide +kernel
theorem dL_law_1030 : decode cL_law 1030 = .ok (.iload_n 3, 1) := by decide +kernel
theorem dL_law_1031 : decode cL_law 1031 = .ok (.iconst 2, 1) := by decide +kernel
theorem dL_law_1032 : decode cL_law 1032 = .ok (.iadd, 1) := by decide +kernel
theorem dL_law_1033 : decode cL_law 1033 = .ok (.iaload, 1) := by decide +kernel
theorem dL_law_1034 : decode cL_law 1034 = .ok (.invokevirtual 130, 3) := by decide +kernel
theorem dL_law_1037 : decode cL_law 1037 = .ok (.aload_n 2, 1) := by decide +kernel
theorem dL_law_1038 : decode cL_law 1038 = .ok (.aload_n 0, 1) := by decide +kernel
theorem dL_law_1039 : decode cL_law 1039 = .ok (.iload_n 3, 1) := by decide +kernel
theorem dL_law_1040 : decode cL_law 1040 = .ok (.iconst 1, 1) := by decide +kernel
theorem dL_law_1041 : decode cL_law 1041 = .ok (.iadd, 1) := by decide +kernel
theorem dL_law_1042 : decode cL_law 1042 = .ok (.iaload, 1) := by decide +kernel
theorem dL_law_1043 : decode cL_law 1043 = .ok (.aload_n 0, 1) := by decide +kernel
theorem dL_law_1044 : decode cL_law 1044 = .ok (.iload_n 3, 1) := by decide +kernel
theorem dL_law_1045 : decode cL_law 1045 = .ok (.iconst 2, 1) := by decide +kernel
theorem dL_law_1046 : decode cL_law 1046 = .ok (.iadd, 1) := by decide +kernel
theorem dL_law_1047 : decode cL_law 1047 = .ok (.iaload, 1) := by decide +kernel
theorem dL_law_1048 : decode cL_law 1048 = .ok (.invokevirtual 133, 3) := by decide +kernel
theorem dL_law_1051 : decode cL_law 1051 = .ok (.if_icmp .eq 64, 3) := by decide +kernel
theorem dL_law_1054 : decode cL_law 1054 = .ok (.iconst 0, 1) := by decide +kernel
theorem dL_law_1055 : decode cL_law 1055 = .ok (.ireturn, 1) := by decide +kernel
theorem dL_law_1056 : decode cL_law 1056 = .ok (.aload_n 1, 1) := by decide +kernel
theorem dL_law_1057 : decode cL_law 1057 = .ok (.aload_n 0, 1) := by decide +kernel
theorem dL_law_1058 : decode cL_law 1058 = .ok (.iload_n 3, 1) := by decide +kernel
theorem dL_law_1059 : decode cL_law 1059 = .ok (.iconst 1, 1) := by decide +kernel
theorem dL_law_1060 : decode cL_law 1060 = .ok (.iadd, 1) := by decide +kernel
theorem dL_law_1061 : decode cL_law 1061 = .ok (.iaload, 1) := by decide +kernel
theorem dL_law_1062 : decode cL_law 1062 = .ok (.invokevirtual 134, 3) := by decide +kernel
theorem dL_law_1065 : decode cL_law 1065 = .ok (.aload_n 2, 1) := by decide +kernel
theorem dL_law_1066 : decode cL_law 1066 = .ok (.aload_n 0, 1) := by decide +kernel
theorem dL_law_1067 : decode cL_law 1067 = .ok (.iload_n 3, 1) := by decide +kernel
theorem dL_law_1068 : decode cL_law 1068 = .ok (.iconst 1, 1) := by decide +kernel
theorem dL_law_1069 : decode cL_law 1069 = .ok (.iadd, 1) := by decide +kernel
theorem dL_law_1070 : decode cL_law 1070 = .ok (.iaload, 1) := by decide +kernel
theorem dL_law_1071 : decode cL_law 1071 = .ok (.invokevirtual 137, 3) := by decide +kernel
theorem dL_law_1074 : decode cL_law 1074 = .ok (.if_icmp .eq 41, 3) := by decide +kernel
theorem dL_law_1077 : decode cL_law 1077 = .ok (.iconst 0, 1) := by decide +kernel
theorem dL_law_1078 : decode cL_law 1078 = .ok (.ireturn, 1) := by decide +kernel
theorem dL_law_1079 : decode cL_law 1079 = .ok (.aload_n 1, 1) := by decide +kernel
theorem dL_law_1080 : decode cL_law 1080 = .ok (.aload_n 0, 1) := by decide +kernel
theorem dL_law_1081 : decode cL_law 1081 = .ok (.iload_n 3, 1) := by decide +kernel
theorem dL_law_1082 : decode cL_law 1082 = .ok (.iconst 1, 1) := by decide +kernel
theorem dL_law_1083 : decode cL_law 1083 = .ok (.iadd, 1) := by decide +kernel
theorem dL_law_1084 : decode cL_law 1084 = .ok (.iaload, 1) := by decide +kernel
theorem dL_law_1085 : decode cL_law 1085 = .ok (.invokevirtual 138, 3) := by decide +kernel
theorem dL_law_1088 : decode cL_law 1088 = .ok (.aload_n 2, 1) := by decide +kernel
theorem dL_law_1089 : decode cL_law 1089 = .ok (.aload_n 0, 1) := by decide +kernel
theorem dL_law_1090 : decode cL_law 1090 = .ok (.iload_n 3, 1) := by decide +kernel
theorem dL_law_1091 : decode cL_law 1091 = .ok (.iconst 1, 1) := by decide +kernel
theorem dL_law_1092 : decode cL_law 1092 = .ok (.iadd, 1) := by decide +kernel
theorem dL_law_1093 : decode cL_law 1093 = .ok (.iaload, 1) := by decide +kernel
theorem dL_law_1094 : decode cL_law 1094 = .ok (.invokevirtual 141, 3) := by decide +kernel
theorem dL_law_1097 : decode cL_law 1097 = .ok (.if_icmp .eq 18, 3) := by decide +kernel
theorem dL_law_1100 : decode cL_law 1100 = .ok (.iconst 0, 1) := by decide +kernel
theorem dL_law_1101 : decode cL_law 1101 = .ok (.ireturn, 1) := by decide +kernel
theorem dL_law_1102 : decode cL_law 1102 = .ok (.aload_n 1, 1) := by decide +kernel
theorem dL_law_1103 : decode cL_law 1103 = .ok (.invokevirtual 142, 3) := by decide +kernel
theorem dL_law_1106 : decode cL_law 1106 = .ok (.aload_n 2, 1) := by decide +kernel
theorem dL_law_1107 : decode cL_law 1107 = .ok (.invokevirtual 145, 3) := by decide +kernel
theorem dL_law_1110 : decode cL_law 1110 = .ok (.if_icmp .eq 5, 3) := by decide +kernel
theorem dL_law_1113 : decode cL_law 1113 = .ok (.iconst 0, 1) := by decide +kernel
theorem dL_law_1114 : decode cL_law 1114 = .ok (.ireturn, 1) := by decide +kernel
theorem dL_law_1115 : decode cL_law 1115 = .ok (.iinc 3 6, 3) := by decide +kernel
theorem dL_law_1118 : decode cL_law 1118 = .ok (.goto (-1100), 3) := by decide +kernel
theorem dL_law_1121 : decode cL_law 1121 = .ok (.iconst 1, 1) := by decide +kernel
theorem dL_law_1122 : decode cL_law 1122 = .ok (.ireturn, 1) := by decide +kernel
