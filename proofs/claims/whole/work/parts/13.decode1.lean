theorem dX3_compose_83 : decode cX3_compose 83 = .ok (.goto (-43), 3) := by decide +kernel
theorem dX3_compose_86 : decode cX3_compose 86 = .ok (.aload_n 0, 1) := by decide +kernel
theorem dX3_compose_87 : decode cX3_compose 87 = .ok (.getfield 9, 3) := by decide +kernel
theorem dX3_compose_90 : decode cX3_compose 90 = .ok (.iconst 0, 1) := by decide +kernel
theorem dX3_compose_91 : decode cX3_compose 91 = .ok (.aload_n 0, 1) := by decide +kernel
theorem dX3_compose_92 : decode cX3_compose 92 = .ok (.getfield 15, 3) := by decide +kernel
theorem dX3_compose_95 : decode cX3_compose 95 = .ok (.iload 5, 2) := by decide +kernel
theorem dX3_compose_97 : decode cX3_compose 97 = .ok (.laload, 1) := by decide +kernel
theorem dX3_compose_98 : decode cX3_compose 98 = .ok (.lastore, 1) := by decide +kernel
theorem dX3_compose_99 : decode cX3_compose 99 = .ok (.iinc 5 (-1), 3) := by decide +kernel
theorem dX3_compose_102 : decode cX3_compose 102 = .ok (.goto (-80), 3) := by decide +kernel
theorem dX3_compose_105 : decode cX3_compose 105 = .ok (.return_, 1) := by decide +kernel
theorem dX3_takeOut_0 : decode cX3_takeOut 0 = .ok (.iload_n 2, 1) := by decide +kernel
theorem dX3_takeOut_1 : decode cX3_takeOut 1 = .ok (.iload_n 2, 1) := by decide +kernel
theorem dX3_takeOut_2 : decode cX3_takeOut 2 = .ok (.iconst 1, 1) := by decide +kernel
theorem dX3_takeOut_3 : decode cX3_takeOut 3 = .ok (.isub, 1) := by decide +kernel
theorem dX3_takeOut_4 : decode cX3_takeOut 4 = .ok (.iand, 1) := by decide +kernel
theorem dX3_takeOut_5 : decode cX3_takeOut 5 = .ok (.istore_n 3, 1) := by decide +kernel
theorem dX3_takeOut_6 : decode cX3_takeOut 6 = .ok (.iload_n 2, 1) := by decide +kernel
theorem dX3_takeOut_7 : decode cX3_takeOut 7 = .ok (.iload_n 3, 1) := by decide +kernel
theorem dX3_takeOut_8 : decode cX3_takeOut 8 = .ok (.ixor, 1) := by decide +kernel
theorem dX3_takeOut_9 : decode cX3_takeOut 9 = .ok (.istore 4, 2) := by decide +kernel
theorem dX3_takeOut_11 : decode cX3_takeOut 11 = .ok (.aload_n 1, 1) := by decide +kernel
theorem dX3_takeOut_12 : decode cX3_takeOut 12 = .ok (.iload 4, 2) := by decide +kernel
theorem dX3_takeOut_14 : decode cX3_takeOut 14 = .ok (.iaload, 1) := by decide +kernel
theorem dX3_takeOut_15 : decode cX3_takeOut 15 = .ok (.i2l, 1) := by decide +kernel
theorem dX3_takeOut_16 : decode cX3_takeOut 16 = .ok (.aload_n 0, 1) := by decide +kernel
theorem dX3_takeOut_17 : decode cX3_takeOut 17 = .ok (.getfield 9, 3) := by decide +kernel
theorem dX3_takeOut_20 : decode cX3_takeOut 20 = .ok (.iload_n 3, 1) := by decide +kernel
theorem dX3_takeOut_21 : decode cX3_takeOut 21 = .ok (.laload, 1) := by decide +kernel
theorem dX3_takeOut_22 : decode cX3_takeOut 22 = .ok (.lmul, 1) := by decide +kernel
theorem dX3_takeOut_23 : decode cX3_takeOut 23 = .ok (.lstore 5, 2) := by decide +kernel
theorem dX3_takeOut_25 : decode cX3_takeOut 25 = .ok (.iload_n 3, 1) := by decide +kernel
theorem dX3_takeOut_26 : decode cX3_takeOut 26 = .ok (.istore 7, 2) := by decide +kernel
theorem dX3_takeOut_28 : decode cX3_takeOut 28 = .ok (.iload 7, 2) := by decide +kernel
theorem dX3_takeOut_30 : decode cX3_takeOut 30 = .ok (.ifCond .le 37, 3) := by decide +kernel
theorem dX3_takeOut_33 : decode cX3_takeOut 33 = .ok (.lload 5, 2) := by decide +kernel
theorem dX3_takeOut_35 : decode cX3_takeOut 35 = .ok (.aload_n 1, 1) := by decide +kernel
theorem dX3_takeOut_36 : decode cX3_takeOut 36 = .ok (.iload 4, 2) := by decide +kernel
theorem dX3_takeOut_38 : decode cX3_takeOut 38 = .ok (.iload 7, 2) := by decide +kernel
theorem dX3_takeOut_40 : decode cX3_takeOut 40 = .ok (.ior, 1) := by decide +kernel
theorem dX3_takeOut_41 : decode cX3_takeOut 41 = .ok (.iaload, 1) := by decide +kernel
theorem dX3_takeOut_42 : decode cX3_takeOut 42 = .ok (.i2l, 1) := by decide +kernel
theorem dX3_takeOut_43 : decode cX3_takeOut 43 = .ok (.aload_n 0, 1) := by decide +kernel
theorem dX3_takeOut_44 : decode cX3_takeOut 44 = .ok (.getfield 9, 3) := by decide +kernel
theorem dX3_takeOut_47 : decode cX3_takeOut 47 = .ok (.iload_n 3, 1) := by decide +kernel
theorem dX3_takeOut_48 : decode cX3_takeOut 48 = .ok (.iload 7, 2) := by decide +kernel
theorem dX3_takeOut_50 : decode cX3_takeOut 50 = .ok (.ixor, 1) := by decide +kernel
theorem dX3_takeOut_51 : decode cX3_takeOut 51 = .ok (.laload, 1) := by decide +kernel
theorem dX3_takeOut_52 : decode cX3_takeOut 52 = .ok (.lmul, 1) := by decide +kernel
theorem dX3_takeOut_53 : decode cX3_takeOut 53 = .ok (.ladd, 1) := by decide +kernel
theorem dX3_takeOut_54 : decode cX3_takeOut 54 = .ok (.lstore 5, 2) := by decide +kernel
theorem dX3_takeOut_56 : decode cX3_takeOut 56 = .ok (.iload 7, 2) := by decide +kernel
theorem dX3_takeOut_58 : decode cX3_takeOut 58 = .ok (.iconst 1, 1) := by decide +kernel
theorem dX3_takeOut_59 : decode cX3_takeOut 59 = .ok (.isub, 1) := by decide +kernel
theorem dX3_takeOut_60 : decode cX3_takeOut 60 = .ok (.iload_n 3, 1) := by decide +kernel
theorem dX3_takeOut_61 : decode cX3_takeOut 61 = .ok (.iand, 1) := by decide +kernel
theorem dX3_takeOut_62 : decode cX3_takeOut 62 = .ok (.istore 7, 2) := by decide +kernel
theorem dX3_takeOut_64 : decode cX3_takeOut 64 = .ok (.goto (-36), 3) := by decide +kernel
theorem dX3_takeOut_67 : decode cX3_takeOut 67 = .ok (.lload 5, 2) := by decide +kernel
theorem dX3_takeOut_69 : decode cX3_takeOut 69 = .ok (.lreturn, 1) := by decide +kernel
theorem dX4_init_0 : decode cX4_init 0 = .ok (.aload_n 0, 1) := by decide +kernel
theorem dX4_init_1 : decode cX4_init 1 = .ok (.invokespecial 1, 3) := by decide +kernel
theorem dX4_init_4 : decode cX4_init 4 = .ok (.aload_n 0, 1) := by decide +kernel
theorem dX4_init_5 : decode cX4_init 5 = .ok (.new 7, 3) := by decide +kernel
theorem dX4_init_8 : decode cX4_init 8 = .ok (.dup, 1) := by decide +kernel
theorem dX4_init_9 : decode cX4_init 9 = .ok (.invokespecial 9, 3) := by decide +kernel
theorem dX4_init_12 : decode cX4_init 12 = .ok (.putfield 10, 3) := by decide +kernel
theorem dX4_init_15 : decode cX4_init 15 = .ok (.aload_n 0, 1) := by decide +kernel
theorem dX4_init_16 : decode cX4_init 16 = .ok (.new 7, 3) := by decide +kernel
theorem dX4_init_19 : decode cX4_init 19 = .ok (.dup, 1) := by decide +kernel
theorem dX4_init_20 : decode cX4_init 20 = .ok (.invokespecial 9, 3) := by decide +kernel
theorem dX4_init_23 : decode cX4_init 23 = .ok (.putfield 16, 3) := by decide +kernel
theorem dX4_init_26 : decode cX4_init 26 = .ok (.aload_n 0, 1) := by decide +kernel
theorem dX4_init_27 : decode cX4_init 27 = .ok (.new 7, 3) := by decide +kernel
theorem dX4_init_30 : decode cX4_init 30 = .ok (.dup, 1) := by decide +kernel
theorem dX4_init_31 : decode cX4_init 31 = .ok (.invokespecial 9, 3) := by decide +kernel
theorem dX4_init_34 : decode cX4_init 34 = .ok (.putfield 19, 3) := by decide +kernel
theorem dX4_init_37 : decode cX4_init 37 = .ok (.aload_n 0, 1) := by decide +kernel
theorem dX4_init_38 : decode cX4_init 38 = .ok (.new 22, 3) := by decide +kernel
theorem dX4_init_41 : decode cX4_init 41 = .ok (.dup, 1) := by decide +kernel
theorem dX4_init_42 : decode cX4_init 42 = .ok (.invokespecial 24, 3) := by decide +kernel
theorem dX4_init_45 : decode cX4_init 45 = .ok (.putfield 25, 3) := by decide +kernel
theorem dX4_init_48 : decode cX4_init 48 = .ok (.aload_n 0, 1) := by decide +kernel
theorem dX4_init_49 : decode cX4_init 49 = .ok (.new 29, 3) := by decide +kernel
theorem dX4_init_52 : decode cX4_init 52 = .ok (.dup, 1) := by decide +kernel
theorem dX4_init_53 : decode cX4_init 53 = .ok (.invokespecial 31, 3) := by decide +kernel
theorem dX4_init_56 : decode cX4_init 56 = .ok (.putfield 32, 3) := by decide +kernel
theorem dX4_init_59 : decode cX4_init 59 = .ok (.aload_n 0, 1) := by decide +kernel
theorem dX4_init_60 : decode cX4_init 60 = .ok (.new 36, 3) := by decide +kernel
theorem dX4_init_63 : decode cX4_init 63 = .ok (.dup, 1) := by decide +kernel
theorem dX4_init_64 : decode cX4_init 64 = .ok (.invokespecial 38, 3) := by decide +kernel
theorem dX4_init_67 : decode cX4_init 67 = .ok (.putfield 39, 3) := by decide +kernel
theorem dX4_init_70 : decode cX4_init 70 = .ok (.aload_n 0, 1) := by decide +kernel
theorem dX4_init_71 : decode cX4_init 71 = .ok (.sipush 256, 3) := by decide +kernel
theorem dX4_init_74 : decode cX4_init 74 = .ok (.newarray .int, 2) := by decide +kernel
theorem dX4_init_76 : decode cX4_init 76 = .ok (.putfield 43, 3) := by decide +kernel
theorem dX4_init_79 : decode cX4_init 79 = .ok (.aload_n 0, 1) := by decide +kernel
theorem dX4_init_80 : decode cX4_init 80 = .ok (.sipush 256, 3) := by decide +kernel
theorem dX4_init_83 : decode cX4_init 83 = .ok (.newarray .int, 2) := by decide +kernel
theorem dX4_init_85 : decode cX4_init 85 = .ok (.putfield 47, 3) := by decide +kernel
theorem dX4_init_88 : decode cX4_init 88 = .ok (.aload_n 0, 1) := by decide +kernel
theorem dX4_init_89 : decode cX4_init 89 = .ok (.bipush 8, 2) := by decide +kernel
theorem dX4_init_91 : decode cX4_init 91 = .ok (.newarray .int, 2) := by decide +kernel
theorem dX4_init_93 : decode cX4_init 93 = .ok (.putfield 50, 3) := by decide +kernel
theorem dX4_init_96 : decode cX4_init 96 = .ok (.return_, 1) := by decide +kernel
theorem dX4_feed_0 : decode cX4_feed 0 = .ok (.aload_n 0, 1) := by decide +kernel
theorem dX4_feed_1 : decode cX4_feed 1 = .ok (.getfield 32, 3) := by decide +kernel
theorem dX4_feed_4 : decode cX4_feed 4 = .ok (.invokevirtual 53, 3) := by decide +kernel
theorem dX4_feed_7 : decode cX4_feed 7 = .ok (.ifCond .ne 5, 3) := by decide +kernel
theorem dX4_feed_10 : decode cX4_feed 10 = .ok (.iconst (-1), 1) := by decide +kernel
theorem dX4_feed_11 : decode cX4_feed 11 = .ok (.ireturn, 1) := by decide +kernel
theorem dX4_feed_12 : decode cX4_feed 12 = .ok (.aload_n 0, 1) := by decide +kernel
theorem dX4_feed_13 : decode cX4_feed 13 = .ok (.getfield 32, 3) := by decide +kernel
theorem dX4_feed_16 : decode cX4_feed 16 = .ok (.iload_n 1, 1) := by decide +kernel
theorem dX4_feed_17 : decode cX4_feed 17 = .ok (.invokevirtual 57, 3) := by decide +kernel
theorem dX4_feed_20 : decode cX4_feed 20 = .ok (.aload_n 0, 1) := by decide +kernel
theorem dX4_feed_21 : decode cX4_feed 21 = .ok (.getfield 32, 3) := by decide +kernel
theorem dX4_feed_24 : decode cX4_feed 24 = .ok (.iload_n 2, 1) := by decide +kernel
theorem dX4_feed_25 : decode cX4_feed 25 = .ok (.invokevirtual 57, 3) := by decide +kernel
theorem dX4_feed_28 : decode cX4_feed 28 = .ok (.aload_n 0, 1) := by decide +kernel
theorem dX4_feed_29 : decode cX4_feed 29 = .ok (.getfield 32, 3) := by decide +kernel
theorem dX4_feed_32 : decode cX4_feed 32 = .ok (.iload_n 3, 1) := by decide +kernel
theorem dX4_feed_33 : decode cX4_feed 33 = .ok (.invokevirtual 57, 3) := by decide +kernel
theorem dX4_feed_36 : decode cX4_feed 36 = .ok (.aload_n 0, 1) := by decide +kernel
theorem dX4_feed_37 : decode cX4_feed 37 = .ok (.getfield 32, 3) := by decide +kernel
theorem dX4_feed_40 : decode cX4_feed 40 = .ok (.iload 4, 2) := by decide +kernel
theorem dX4_feed_42 : decode cX4_feed 42 = .ok (.invokevirtual 57, 3) := by decide +kernel
theorem dX4_feed_45 : decode cX4_feed 45 = .ok (.aload_n 0, 1) := by decide +kernel
theorem dX4_feed_46 : decode cX4_feed 46 = .ok (.getfield 32, 3) := by decide +kernel
theorem dX4_feed_49 : decode cX4_feed 49 = .ok (.iload 5, 2) := by decide +kernel
theorem dX4_feed_51 : decode cX4_feed 51 = .ok (.invokevirtual 57, 3) := by decide +kernel
theorem dX4_feed_54 : decode cX4_feed 54 = .ok (.aload_n 0, 1) := by decide +kernel
theorem dX4_feed_55 : decode cX4_feed 55 = .ok (.getfield 32, 3) := by decide +kernel
theorem dX4_feed_58 : decode cX4_feed 58 = .ok (.getfield 61, 3) := by decide +kernel
theorem dX4_feed_61 : decode cX4_feed 61 = .ok (.ireturn, 1) := by decide +kernel
theorem dX4_end_0 : decode cX4_end 0 = .ok (.iload_n 1, 1) := by decide +kernel
theorem dX4_end_1 : decode cX4_end 1 = .ok (.ifCond .lt 14, 3) := by decide +kernel
theorem dX4_end_4 : decode cX4_end 4 = .ok (.iload_n 1, 1) := by decide +kernel
theorem dX4_end_5 : decode cX4_end 5 = .ok (.aload_n 0, 1) := by decide +kernel
theorem dX4_end_6 : decode cX4_end 6 = .ok (.getfield 32, 3) := by decide +kernel
theorem dX4_end_9 : decode cX4_end 9 = .ok (.getfield 61, 3) := by decide +kernel
theorem dX4_end_12 : decode cX4_end 12 = .ok (.if_icmp .le 5, 3) := by decide +kernel
theorem dX4_end_15 : decode cX4_end 15 = .ok (.iconst 0, 1) := by decide +kernel
theorem dX4_end_16 : decode cX4_end 16 = .ok (.ireturn, 1) := by decide +kernel
theorem dX4_end_17 : decode cX4_end 17 = .ok (.aload_n 0, 1) := by decide +kernel
theorem dX4_end_18 : decode cX4_end 18 = .ok (.getfield 32, 3) := by decide +kernel
theorem dX4_end_21 : decode cX4_end 21 = .ok (.iload_n 1, 1) := by decide +kernel
theorem dX4_end_22 : decode cX4_end 22 = .ok (.putfield 61, 3) := by decide +kernel
theorem dX4_end_25 : decode cX4_end 25 = .ok (.iconst 1, 1) := by decide +kernel
theorem dX4_end_26 : decode cX4_end 26 = .ok (.ireturn, 1) := by decide +kernel
theorem dX4_text_0 : decode cX4_text 0 = .ok (.aload_n 0, 1) := by decide +kernel
theorem dX4_text_1 : decode cX4_text 1 = .ok (.getfield 32, 3) := by decide +kernel
theorem dX4_text_4 : decode cX4_text 4 = .ok (.invokevirtual 65, 3) := by decide +kernel
theorem dX4_text_7 : decode cX4_text 7 = .ok (.istore_n 1, 1) := by decide +kernel
theorem dX4_text_8 : decode cX4_text 8 = .ok (.aload_n 0, 1) := by decide +kernel
theorem dX4_text_9 : decode cX4_text 9 = .ok (.getfield 32, 3) := by decide +kernel
theorem dX4_text_12 : decode cX4_text 12 = .ok (.iconst 0, 1) := by decide +kernel
theorem dX4_text_13 : decode cX4_text 13 = .ok (.putfield 61, 3) := by decide +kernel
theorem dX4_text_16 : decode cX4_text 16 = .ok (.aload_n 0, 1) := by decide +kernel
theorem dX4_text_17 : decode cX4_text 17 = .ok (.getfield 32, 3) := by decide +kernel
theorem dX4_text_20 : decode cX4_text 20 = .ok (.getfield 69, 3) := by decide +kernel
theorem dX4_text_23 : decode cX4_text 23 = .ok (.ifCond .eq 13, 3) := by decide +kernel
theorem dX4_text_26 : decode cX4_text 26 = .ok (.iconst (-1), 1) := by decide +kernel
theorem dX4_text_27 : decode cX4_text 27 = .ok (.aload_n 0, 1) := by decide +kernel
theorem dX4_text_28 : decode cX4_text 28 = .ok (.getfield 32, 3) := by decide +kernel
theorem dX4_text_31 : decode cX4_text 31 = .ok (.getfield 72, 3) := by decide +kernel
theorem dX4_text_34 : decode cX4_text 34 = .ok (.isub, 1) := by decide +kernel
theorem dX4_text_35 : decode cX4_text 35 = .ok (.ireturn, 1) := by decide +kernel
theorem dX4_text_36 : decode cX4_text 36 = .ok (.aload_n 0, 1) := by decide +kernel
theorem dX4_text_37 : decode cX4_text 37 = .ok (.getfield 10, 3) := by decide +kernel
theorem dX4_text_40 : decode cX4_text 40 = .ok (.aload_n 0, 1) := by decide +kernel
theorem dX4_text_41 : decode cX4_text 41 = .ok (.getfield 32, 3) := by decide +kernel
theorem dX4_text_44 : decode cX4_text 44 = .ok (.getfield 75, 3) := by decide +kernel
theorem dX4_text_47 : decode cX4_text 47 = .ok (.aload_n 0, 1) := by decide +kernel
theorem dX4_text_48 : decode cX4_text 48 = .ok (.getfield 32, 3) := by decide +kernel
theorem dX4_text_51 : decode cX4_text 51 = .ok (.getfield 78, 3) := by decide +kernel
theorem dX4_text_54 : decode cX4_text 54 = .ok (.aload_n 0, 1) := by decide +kernel
theorem dX4_text_55 : decode cX4_text 55 = .ok (.getfield 32, 3) := by decide +kernel
theorem dX4_text_58 : decode cX4_text 58 = .ok (.getfield 82, 3) := by decide +kernel
theorem dX4_text_61 : decode cX4_text 61 = .ok (.invokevirtual 85, 3) := by decide +kernel
theorem dX4_text_64 : decode cX4_text 64 = .ok (.aload_n 0, 1) := by decide +kernel
theorem dX4_text_65 : decode cX4_text 65 = .ok (.getfield 25, 3) := by decide +kernel
theorem dX4_text_68 : decode cX4_text 68 = .ok (.invokevirtual 89, 3) := by decide +kernel
theorem dX4_text_71 : decode cX4_text 71 = .ok (.iload_n 1, 1) := by decide +kernel
theorem dX4_text_72 : decode cX4_text 72 = .ok (.ireturn, 1) := by decide +kernel
theorem dX4_fault_0 : decode cX4_fault 0 = .ok (.aload_n 0, 1) := by decide +kernel
theorem dX4_fault_1 : decode cX4_fault 1 = .ok (.getfield 32, 3) := by decide +kernel
theorem dX4_fault_4 : decode cX4_fault 4 = .ok (.getfield 69, 3) := by decide +kernel
theorem dX4_fault_7 : decode cX4_fault 7 = .ok (.ireturn, 1) := by decide +kernel
theorem dX4_now_0 : decode cX4_now 0 = .ok (.iload_n 1, 1) := by decide +kernel
theorem dX4_now_1 : decode cX4_now 1 = .ok (.tableswitch 75 0 4 #[35, 43, 51, 59, 67], 35) := by decide +kernel
theorem dX4_now_36 : decode cX4_now 36 = .ok (.aload_n 0, 1) := by decide +kernel
theorem dX4_now_37 : decode cX4_now 37 = .ok (.getfield 10, 3) := by decide +kernel
theorem dX4_now_40 : decode cX4_now 40 = .ok (.getfield 92, 3) := by decide +kernel
theorem dX4_now_43 : decode cX4_now 43 = .ok (.ireturn, 1) := by decide +kernel
theorem dX4_now_44 : decode cX4_now 44 = .ok (.aload_n 0, 1) := by decide +kernel
theorem dX4_now_45 : decode cX4_now 45 = .ok (.getfield 10, 3) := by decide +kernel
theorem dX4_now_48 : decode cX4_now 48 = .ok (.invokevirtual 93, 3) := by decide +kernel
theorem dX4_now_51 : decode cX4_now 51 = .ok (.ireturn, 1) := by decide +kernel
theorem dX4_now_52 : decode cX4_now 52 = .ok (.aload_n 0, 1) := by decide +kernel
theorem dX4_now_53 : decode cX4_now 53 = .ok (.getfield 10, 3) := by decide +kernel
theorem dX4_now_56 : decode cX4_now 56 = .ok (.invokevirtual 96, 3) := by decide +kernel
theorem dX4_now_59 : decode cX4_now 59 = .ok (.ireturn, 1) := by decide +kernel
theorem dX4_now_60 : decode cX4_now 60 = .ok (.aload_n 0, 1) := by decide +kernel
theorem dX4_now_61 : decode cX4_now 61 = .ok (.getfield 25, 3) := by decide +kernel
theorem dX4_now_64 : decode cX4_now 64 = .ok (.getfield 99, 3) := by decide +kernel
theorem dX4_now_67 : decode cX4_now 67 = .ok (.ireturn, 1) := by decide +kernel
theorem dX4_now_68 : decode cX4_now 68 = .ok (.aload_n 0, 1) := by decide +kernel
theorem dX4_now_69 : decode cX4_now 69 = .ok (.getfield 32, 3) := by decide +kernel
theorem dX4_now_72 : decode cX4_now 72 = .ok (.getfield 61, 3) := by decide +kernel
theorem dX4_now_75 : decode cX4_now 75 = .ok (.ireturn, 1) := by decide +kernel
theorem dX4_now_76 : decode cX4_now 76 = .ok (.iconst (-1), 1) := by decide +kernel
theorem dX4_now_77 : decode cX4_now 77 = .ok (.ireturn, 1) := by decide +kernel
theorem dX4_weight_0 : decode cX4_weight 0 = .ok (.aload_n 0, 1) := by decide +kernel
theorem dX4_weight_1 : decode cX4_weight 1 = .ok (.getfield 10, 3) := by decide +kernel
theorem dX4_weight_4 : decode cX4_weight 4 = .ok (.iload_n 1, 1) := by decide +kernel
theorem dX4_weight_5 : decode cX4_weight 5 = .ok (.invokevirtual 102, 3) := by decide +kernel
theorem dX4_weight_8 : decode cX4_weight 8 = .ok (.ifCond .eq 17, 3) := by decide +kernel
theorem dX4_weight_11 : decode cX4_weight 11 = .ok (.aload_n 0, 1) := by decide +kernel
theorem dX4_weight_12 : decode cX4_weight 12 = .ok (.getfield 10, 3) := by decide +kernel
theorem dX4_weight_15 : decode cX4_weight 15 = .ok (.getfield 106, 3) := by decide +kernel
theorem dX4_weight_18 : decode cX4_weight 18 = .ok (.iconst 4, 1) := by decide +kernel
theorem dX4_weight_19 : decode cX4_weight 19 = .ok (.aaload, 1) := by decide +kernel
theorem dX4_weight_20 : decode cX4_weight 20 = .ok (.iload_n 1, 1) := by decide +kernel
theorem dX4_weight_21 : decode cX4_weight 21 = .ok (.iaload, 1) := by decide +kernel
theorem dX4_weight_22 : decode cX4_weight 22 = .ok (.goto 4, 3) := by decide +kernel
theorem dX4_weight_25 : decode cX4_weight 25 = .ok (.iconst (-1), 1) := by decide +kernel
theorem dX4_weight_26 : decode cX4_weight 26 = .ok (.ireturn, 1) := by decide +kernel
theorem dX4_joined_0 : decode cX4_joined 0 = .ok (.aload_n 0, 1) := by decide +kernel
theorem dX4_joined_1 : decode cX4_joined 1 = .ok (.getfield 10, 3) := by decide +kernel
theorem dX4_joined_4 : decode cX4_joined 4 = .ok (.iload_n 1, 1) := by decide +kernel
theorem dX4_joined_5 : decode cX4_joined 5 = .ok (.invokevirtual 110, 3) := by decide +kernel
theorem dX4_joined_8 : decode cX4_joined 8 = .ok (.ifCond .eq 14, 3) := by decide +kernel
theorem dX4_joined_11 : decode cX4_joined 11 = .ok (.aload_n 0, 1) := by decide +kernel
theorem dX4_joined_12 : decode cX4_joined 12 = .ok (.getfield 10, 3) := by decide +kernel
theorem dX4_joined_15 : decode cX4_joined 15 = .ok (.iload_n 1, 1) := by decide +kernel
theorem dX4_joined_16 : decode cX4_joined 16 = .ok (.invokevirtual 113, 3) := by decide +kernel
theorem dX4_joined_19 : decode cX4_joined 19 = .ok (.goto 4, 3) := by decide +kernel
theorem dX4_joined_22 : decode cX4_joined 22 = .ok (.iconst (-1), 1) := by decide +kernel
theorem dX4_joined_23 : decode cX4_joined 23 = .ok (.ireturn, 1) := by decide +kernel
theorem dX4_at_0 : decode cX4_at 0 = .ok (.aload_n 0, 1) := by decide +kernel
theorem dX4_at_1 : decode cX4_at 1 = .ok (.getfield 10, 3) := by decide +kernel
theorem dX4_at_4 : decode cX4_at 4 = .ok (.iload_n 1, 1) := by decide +kernel
theorem dX4_at_5 : decode cX4_at 5 = .ok (.invokevirtual 117, 3) := by decide +kernel
theorem dX4_at_8 : decode cX4_at 8 = .ok (.ifCond .eq 28, 3) := by decide +kernel
theorem dX4_at_11 : decode cX4_at 11 = .ok (.aload_n 0, 1) := by decide +kernel
theorem dX4_at_12 : decode cX4_at 12 = .ok (.getfield 10, 3) := by decide +kernel
theorem dX4_at_15 : decode cX4_at 15 = .ok (.iload_n 2, 1) := by decide +kernel
theorem dX4_at_16 : decode cX4_at 16 = .ok (.invokevirtual 102, 3) := by decide +kernel
theorem dX4_at_19 : decode cX4_at 19 = .ok (.ifCond .eq 17, 3) := by decide +kernel
theorem dX4_at_22 : decode cX4_at 22 = .ok (.aload_n 0, 1) := by decide +kernel
theorem dX4_at_23 : decode cX4_at 23 = .ok (.getfield 10, 3) := by decide +kernel
theorem dX4_at_26 : decode cX4_at 26 = .ok (.getfield 106, 3) := by decide +kernel
theorem dX4_at_29 : decode cX4_at 29 = .ok (.iload_n 1, 1) := by decide +kernel
theorem dX4_at_30 : decode cX4_at 30 = .ok (.aaload, 1) := by decide +kernel
theorem dX4_at_31 : decode cX4_at 31 = .ok (.iload_n 2, 1) := by decide +kernel
theorem dX4_at_32 : decode cX4_at 32 = .ok (.iaload, 1) := by decide +kernel
theorem dX4_at_33 : decode cX4_at 33 = .ok (.goto 4, 3) := by decide +kernel
theorem dX4_at_36 : decode cX4_at 36 = .ok (.iconst (-1), 1) := by decide +kernel
theorem dX4_at_37 : decode cX4_at 37 = .ok (.ireturn, 1) := by decide +kernel
theorem dX4_put_0 : decode cX4_put 0 = .ok (.aload_n 0, 1) := by decide +kernel
theorem dX4_put_1 : decode cX4_put 1 = .ok (.getfield 10, 3) := by decide +kernel
theorem dX4_put_4 : decode cX4_put 4 = .ok (.iload_n 1, 1) := by decide +kernel
theorem dX4_put_5 : decode cX4_put 5 = .ok (.invokevirtual 117, 3) := by decide +kernel
theorem dX4_put_8 : decode cX4_put 8 = .ok (.ifCond .eq 14, 3) := by decide +kernel
theorem dX4_put_11 : decode cX4_put 11 = .ok (.aload_n 0, 1) := by decide +kernel
theorem dX4_put_12 : decode cX4_put 12 = .ok (.getfield 10, 3) := by decide +kernel
theorem dX4_put_15 : decode cX4_put 15 = .ok (.iload_n 2, 1) := by decide +kernel
theorem dX4_put_16 : decode cX4_put 16 = .ok (.invokevirtual 102, 3) := by decide +kernel
theorem dX4_put_19 : decode cX4_put 19 = .ok (.ifCond .ne 5, 3) := by decide +kernel
theorem dX4_put_22 : decode cX4_put 22 = .ok (.iconst (-1), 1) := by decide +kernel
theorem dX4_put_23 : decode cX4_put 23 = .ok (.ireturn, 1) := by decide +kernel
theorem dX4_put_24 : decode cX4_put 24 = .ok (.aload_n 0, 1) := by decide +kernel
theorem dX4_put_25 : decode cX4_put 25 = .ok (.getfield 25, 3) := by decide +kernel
theorem dX4_put_28 : decode cX4_put 28 = .ok (.aload_n 0, 1) := by decide +kernel
theorem dX4_put_29 : decode cX4_put 29 = .ok (.getfield 10, 3) := by decide +kernel
theorem dX4_put_32 : decode cX4_put 32 = .ok (.iload_n 1, 1) := by decide +kernel
theorem dX4_put_33 : decode cX4_put 33 = .ok (.invokevirtual 120, 3) := by decide +kernel
theorem dX4_put_36 : decode cX4_put 36 = .ok (.aload_n 0, 1) := by decide +kernel
theorem dX4_put_37 : decode cX4_put 37 = .ok (.getfield 10, 3) := by decide +kernel
theorem dX4_put_40 : decode cX4_put 40 = .ok (.getfield 106, 3) := by decide +kernel
theorem dX4_put_43 : decode cX4_put 43 = .ok (.iload_n 1, 1) := by decide +kernel
theorem dX4_put_44 : decode cX4_put 44 = .ok (.aaload, 1) := by decide +kernel
theorem dX4_put_45 : decode cX4_put 45 = .ok (.iload_n 2, 1) := by decide +kernel
theorem dX4_put_46 : decode cX4_put 46 = .ok (.iload_n 3, 1) := by decide +kernel
theorem dX4_put_47 : decode cX4_put 47 = .ok (.i2l, 1) := by decide +kernel
theorem dX4_put_48 : decode cX4_put 48 = .ok (.invokestatic 124, 3) := by decide +kernel
theorem dX4_put_51 : decode cX4_put 51 = .ok (.iastore, 1) := by decide +kernel
theorem dX4_put_52 : decode cX4_put 52 = .ok (.aload_n 0, 1) := by decide +kernel
theorem dX4_put_53 : decode cX4_put 53 = .ok (.getfield 10, 3) := by decide +kernel
theorem dX4_put_56 : decode cX4_put 56 = .ok (.getfield 106, 3) := by decide +kernel
theorem dX4_put_59 : decode cX4_put 59 = .ok (.iload_n 1, 1) := by decide +kernel
theorem dX4_put_60 : decode cX4_put 60 = .ok (.aaload, 1) := by decide +kernel
theorem dX4_put_61 : decode cX4_put 61 = .ok (.iload_n 2, 1) := by decide +kernel
theorem dX4_put_62 : decode cX4_put 62 = .ok (.iaload, 1) := by decide +kernel
theorem dX4_put_63 : decode cX4_put 63 = .ok (.ireturn, 1) := by decide +kernel
theorem dX4_lay_0 : decode cX4_lay 0 = .ok (.aload_n 0, 1) := by decide +kernel
theorem dX4_lay_1 : decode cX4_lay 1 = .ok (.getfield 10, 3) := by decide +kernel
theorem dX4_lay_4 : decode cX4_lay 4 = .ok (.iload_n 1, 1) := by decide +kernel
theorem dX4_lay_5 : decode cX4_lay 5 = .ok (.invokevirtual 117, 3) := by decide +kernel
theorem dX4_lay_8 : decode cX4_lay 8 = .ok (.ifCond .eq 13, 3) := by decide +kernel
theorem dX4_lay_11 : decode cX4_lay 11 = .ok (.iload_n 2, 1) := by decide +kernel
theorem dX4_lay_12 : decode cX4_lay 12 = .ok (.ifCond .lt 9, 3) := by decide +kernel
theorem dX4_lay_15 : decode cX4_lay 15 = .ok (.iload_n 2, 1) := by decide +kernel
theorem dX4_lay_16 : decode cX4_lay 16 = .ok (.bipush 7, 2) := by decide +kernel
theorem dX4_lay_18 : decode cX4_lay 18 = .ok (.if_icmp .le 5, 3) := by decide +kernel
theorem dX4_lay_21 : decode cX4_lay 21 = .ok (.iconst (-1), 1) := by decide +kernel
theorem dX4_lay_22 : decode cX4_lay 22 = .ok (.ireturn, 1) := by decide +kernel
theorem dX4_lay_23 : decode cX4_lay 23 = .ok (.aload_n 0, 1) := by decide +kernel
theorem dX4_lay_24 : decode cX4_lay 24 = .ok (.getfield 10, 3) := by decide +kernel
theorem dX4_lay_27 : decode cX4_lay 27 = .ok (.iload_n 2, 1) := by decide +kernel
theorem dX4_lay_28 : decode cX4_lay 28 = .ok (.aload_n 0, 1) := by decide +kernel
theorem dX4_lay_29 : decode cX4_lay 29 = .ok (.getfield 43, 3) := by decide +kernel
theorem dX4_lay_32 : decode cX4_lay 32 = .ok (.invokestatic 128, 3) := by decide +kernel
theorem dX4_lay_35 : decode cX4_lay 35 = .ok (.iconst 0, 1) := by decide +kernel
theorem dX4_lay_36 : decode cX4_lay 36 = .ok (.istore_n 3, 1) := by decide +kernel
theorem dX4_lay_37 : decode cX4_lay 37 = .ok (.iload_n 3, 1) := by decide +kernel
theorem dX4_lay_38 : decode cX4_lay 38 = .ok (.aload_n 0, 1) := by decide +kernel
theorem dX4_lay_39 : decode cX4_lay 39 = .ok (.getfield 10, 3) := by decide +kernel
theorem dX4_lay_42 : decode cX4_lay 42 = .ok (.invokevirtual 132, 3) := by decide +kernel
theorem dX4_lay_45 : decode cX4_lay 45 = .ok (.if_icmp .ge 25, 3) := by decide +kernel
theorem dX4_lay_48 : decode cX4_lay 48 = .ok (.aload_n 0, 1) := by decide +kernel
theorem dX4_lay_49 : decode cX4_lay 49 = .ok (.getfield 43, 3) := by decide +kernel
theorem dX4_lay_52 : decode cX4_lay 52 = .ok (.iload_n 3, 1) := by decide +kernel
theorem dX4_lay_53 : decode cX4_lay 53 = .ok (.aload_n 0, 1) := by decide +kernel
theorem dX4_lay_54 : decode cX4_lay 54 = .ok (.getfield 43, 3) := by decide +kernel
theorem dX4_lay_57 : decode cX4_lay 57 = .ok (.iload_n 3, 1) := by decide +kernel
theorem dX4_lay_58 : decode cX4_lay 58 = .ok (.iaload, 1) := by decide +kernel
theorem dX4_lay_59 : decode cX4_lay 59 = .ok (.i2l, 1) := by decide +kernel
theorem dX4_lay_60 : decode cX4_lay 60 = .ok (.invokestatic 124, 3) := by decide +kernel
theorem dX4_lay_63 : decode cX4_lay 63 = .ok (.iastore, 1) := by decide +kernel
theorem dX4_lay_64 : decode cX4_lay 64 = .ok (.iinc 3 1, 3) := by decide +kernel
theorem dX4_lay_67 : decode cX4_lay 67 = .ok (.goto (-30), 3) := by decide +kernel
theorem dX4_lay_70 : decode cX4_lay 70 = .ok (.aload_n 0, 1) := by decide +kernel
theorem dX4_lay_71 : decode cX4_lay 71 = .ok (.aload_n 0, 1) := by decide +kernel
theorem dX4_lay_72 : decode cX4_lay 72 = .ok (.getfield 43, 3) := by decide +kernel
theorem dX4_lay_75 : decode cX4_lay 75 = .ok (.iload_n 1, 1) := by decide +kernel
theorem dX4_lay_76 : decode cX4_lay 76 = .ok (.invokevirtual 135, 3) := by decide +kernel
theorem dX4_lay_79 : decode cX4_lay 79 = .ok (.ireturn, 1) := by decide +kernel
theorem dX4_sum_0 : decode cX4_sum 0 = .ok (.aload_n 0, 1) := by decide +kernel
theorem dX4_sum_1 : decode cX4_sum 1 = .ok (.iload_n 1, 1) := by decide +kernel
theorem dX4_sum_2 : decode cX4_sum 2 = .ok (.iload_n 2, 1) := by decide +kernel
theorem dX4_sum_3 : decode cX4_sum 3 = .ok (.iconst 0, 1) := by decide +kernel
theorem dX4_sum_4 : decode cX4_sum 4 = .ok (.invokevirtual 139, 3) := by decide +kernel
theorem dX4_sum_7 : decode cX4_sum 7 = .ok (.ireturn, 1) := by decide +kernel
theorem dX4_back_0 : decode cX4_back 0 = .ok (.aload_n 0, 1) := by decide +kernel
theorem dX4_back_1 : decode cX4_back 1 = .ok (.iload_n 1, 1) := by decide +kernel
theorem dX4_back_2 : decode cX4_back 2 = .ok (.iload_n 2, 1) := by decide +kernel
theorem dX4_back_3 : decode cX4_back 3 = .ok (.iconst 1, 1) := by decide +kernel
theorem dX4_back_4 : decode cX4_back 4 = .ok (.invokevirtual 139, 3) := by decide +kernel
theorem dX4_back_7 : decode cX4_back 7 = .ok (.ireturn, 1) := by decide +kernel
theorem dX4_times_0 : decode cX4_times 0 = .ok (.aload_n 0, 1) := by decide +kernel
theorem dX4_times_1 : decode cX4_times 1 = .ok (.getfield 10, 3) := by decide +kernel
theorem dX4_times_4 : decode cX4_times 4 = .ok (.iload_n 1, 1) := by decide +kernel
theorem dX4_times_5 : decode cX4_times 5 = .ok (.invokevirtual 117, 3) := by decide +kernel
theorem dX4_times_8 : decode cX4_times 8 = .ok (.ifCond .eq 36, 3) := by decide +kernel
theorem dX4_times_11 : decode cX4_times 11 = .ok (.aload_n 0, 1) := by decide +kernel
theorem dX4_times_12 : decode cX4_times 12 = .ok (.getfield 10, 3) := by decide +kernel
theorem dX4_times_15 : decode cX4_times 15 = .ok (.iload_n 2, 1) := by decide +kernel
theorem dX4_times_16 : decode cX4_times 16 = .ok (.invokevirtual 117, 3) := by decide +kernel
theorem dX4_times_19 : decode cX4_times 19 = .ok (.ifCond .eq 25, 3) := by decide +kernel
theorem dX4_times_22 : decode cX4_times 22 = .ok (.aload_n 0, 1) := by decide +kernel
theorem dX4_times_23 : decode cX4_times 23 = .ok (.getfield 10, 3) := by decide +kernel
theorem dX4_times_26 : decode cX4_times 26 = .ok (.iload 4, 2) := by decide +kernel
theorem dX4_times_28 : decode cX4_times 28 = .ok (.invokevirtual 117, 3) := by decide +kernel
theorem dX4_times_31 : decode cX4_times 31 = .ok (.ifCond .eq 13, 3) := by decide +kernel
theorem dX4_times_34 : decode cX4_times 34 = .ok (.iload_n 3, 1) := by decide +kernel
theorem dX4_times_35 : decode cX4_times 35 = .ok (.ifCond .lt 9, 3) := by decide +kernel
theorem dX4_times_38 : decode cX4_times 38 = .ok (.iload_n 3, 1) := by decide +kernel
theorem dX4_times_39 : decode cX4_times 39 = .ok (.bipush 6, 2) := by decide +kernel
theorem dX4_times_41 : decode cX4_times 41 = .ok (.if_icmp .le 5, 3) := by decide +kernel
theorem dX4_times_44 : decode cX4_times 44 = .ok (.iconst (-1), 1) := by decide +kernel
theorem dX4_times_45 : decode cX4_times 45 = .ok (.ireturn, 1) := by decide +kernel
theorem dX4_times_46 : decode cX4_times 46 = .ok (.iload_n 3, 1) := by decide +kernel
theorem dX4_times_47 : decode cX4_times 47 = .ok (.ifCond .ne 28, 3) := by decide +kernel
theorem dX4_times_50 : decode cX4_times 50 = .ok (.aload_n 0, 1) := by decide +kernel
theorem dX4_times_51 : decode cX4_times 51 = .ok (.aload_n 0, 1) := by decide +kernel
theorem dX4_times_52 : decode cX4_times 52 = .ok (.getfield 10, 3) := by decide +kernel
theorem dX4_times_55 : decode cX4_times 55 = .ok (.getfield 106, 3) := by decide +kernel
theorem dX4_times_58 : decode cX4_times 58 = .ok (.iload_n 1, 1) := by decide +kernel
theorem dX4_times_59 : decode cX4_times 59 = .ok (.aaload, 1) := by decide +kernel
theorem dX4_times_60 : decode cX4_times 60 = .ok (.aload_n 0, 1) := by decide +kernel
theorem dX4_times_61 : decode cX4_times 61 = .ok (.getfield 10, 3) := by decide +kernel
theorem dX4_times_64 : decode cX4_times 64 = .ok (.getfield 106, 3) := by decide +kernel
theorem dX4_times_67 : decode cX4_times 67 = .ok (.iload_n 2, 1) := by decide +kernel
theorem dX4_times_68 : decode cX4_times 68 = .ok (.aaload, 1) := by decide +kernel
theorem dX4_times_69 : decode cX4_times 69 = .ok (.invokevirtual 143, 3) := by decide +kernel
theorem dX4_times_72 : decode cX4_times 72 = .ok (.goto 26, 3) := by decide +kernel
theorem dX4_times_75 : decode cX4_times 75 = .ok (.aload_n 0, 1) := by decide +kernel
theorem dX4_times_76 : decode cX4_times 76 = .ok (.aload_n 0, 1) := by decide +kernel
theorem dX4_times_77 : decode cX4_times 77 = .ok (.getfield 10, 3) := by decide +kernel
theorem dX4_times_80 : decode cX4_times 80 = .ok (.getfield 106, 3) := by decide +kernel
theorem dX4_times_83 : decode cX4_times 83 = .ok (.iload_n 1, 1) := by decide +kernel
theorem dX4_times_84 : decode cX4_times 84 = .ok (.aaload, 1) := by decide +kernel
theorem dX4_times_85 : decode cX4_times 85 = .ok (.aload_n 0, 1) := by decide +kernel
theorem dX4_times_86 : decode cX4_times 86 = .ok (.getfield 10, 3) := by decide +kernel
theorem dX4_times_89 : decode cX4_times 89 = .ok (.getfield 106, 3) := by decide +kernel
theorem dX4_times_92 : decode cX4_times 92 = .ok (.iload_n 2, 1) := by decide +kernel
theorem dX4_times_93 : decode cX4_times 93 = .ok (.aaload, 1) := by decide +kernel
theorem dX4_times_94 : decode cX4_times 94 = .ok (.iload_n 3, 1) := by decide +kernel
theorem dX4_times_95 : decode cX4_times 95 = .ok (.invokevirtual 147, 3) := by decide +kernel
theorem dX4_times_98 : decode cX4_times 98 = .ok (.aload_n 0, 1) := by decide +kernel
theorem dX4_times_99 : decode cX4_times 99 = .ok (.aload_n 0, 1) := by decide +kernel
theorem dX4_times_100 : decode cX4_times 100 = .ok (.getfield 43, 3) := by decide +kernel
theorem dX4_times_103 : decode cX4_times 103 = .ok (.iload 4, 2) := by decide +kernel
theorem dX4_times_105 : decode cX4_times 105 = .ok (.invokevirtual 135, 3) := by decide +kernel
theorem dX4_times_108 : decode cX4_times 108 = .ok (.ireturn, 1) := by decide +kernel
theorem dX4_power_0 : decode cX4_power 0 = .ok (.aload_n 0, 1) := by decide +kernel
theorem dX4_power_1 : decode cX4_power 1 = .ok (.getfield 10, 3) := by decide +kernel
theorem dX4_power_4 : decode cX4_power 4 = .ok (.iload_n 1, 1) := by decide +kernel
theorem dX4_power_5 : decode cX4_power 5 = .ok (.invokevirtual 117, 3) := by decide +kernel
theorem dX4_power_8 : decode cX4_power 8 = .ok (.ifCond .eq 24, 3) := by decide +kernel
theorem dX4_power_11 : decode cX4_power 11 = .ok (.aload_n 0, 1) := by decide +kernel
theorem dX4_power_12 : decode cX4_power 12 = .ok (.getfield 10, 3) := by decide +kernel
theorem dX4_power_15 : decode cX4_power 15 = .ok (.iload_n 3, 1) := by decide +kernel
theorem dX4_power_16 : decode cX4_power 16 = .ok (.invokevirtual 117, 3) := by decide +kernel
theorem dX4_power_19 : decode cX4_power 19 = .ok (.ifCond .eq 13, 3) := by decide +kernel
theorem dX4_power_22 : decode cX4_power 22 = .ok (.iload_n 2, 1) := by decide +kernel
theorem dX4_power_23 : decode cX4_power 23 = .ok (.ifCond .lt 9, 3) := by decide +kernel
theorem dX4_power_26 : decode cX4_power 26 = .ok (.iload_n 2, 1) := by decide +kernel
theorem dX4_power_27 : decode cX4_power 27 = .ok (.bipush 99, 2) := by decide +kernel
theorem dX4_power_29 : decode cX4_power 29 = .ok (.if_icmp .le 5, 3) := by decide +kernel
theorem dX4_power_32 : decode cX4_power 32 = .ok (.iconst (-1), 1) := by decide +kernel
theorem dX4_power_33 : decode cX4_power 33 = .ok (.ireturn, 1) := by decide +kernel
theorem dX4_power_34 : decode cX4_power 34 = .ok (.aload_n 0, 1) := by decide +kernel
theorem dX4_power_35 : decode cX4_power 35 = .ok (.getfield 39, 3) := by decide +kernel
theorem dX4_power_38 : decode cX4_power 38 = .ok (.aload_n 0, 1) := by decide +kernel
theorem dX4_power_39 : decode cX4_power 39 = .ok (.getfield 10, 3) := by decide +kernel
theorem dX4_power_42 : decode cX4_power 42 = .ok (.getfield 106, 3) := by decide +kernel
theorem dX4_power_45 : decode cX4_power 45 = .ok (.iload_n 1, 1) := by decide +kernel
theorem dX4_power_46 : decode cX4_power 46 = .ok (.aaload, 1) := by decide +kernel
theorem dX4_power_47 : decode cX4_power 47 = .ok (.iconst 0, 1) := by decide +kernel
theorem dX4_power_48 : decode cX4_power 48 = .ok (.iaload, 1) := by decide +kernel
theorem dX4_power_49 : decode cX4_power 49 = .ok (.iload_n 2, 1) := by decide +kernel
theorem dX4_power_50 : decode cX4_power 50 = .ok (.invokevirtual 151, 3) := by decide +kernel
theorem dX4_power_53 : decode cX4_power 53 = .ok (.aload_n 0, 1) := by decide +kernel
theorem dX4_power_54 : decode cX4_power 54 = .ok (.iload_n 1, 1) := by decide +kernel
theorem dX4_power_55 : decode cX4_power 55 = .ok (.iload_n 3, 1) := by decide +kernel
theorem dX4_power_56 : decode cX4_power 56 = .ok (.invokevirtual 155, 3) := by decide +kernel
theorem dX4_power_59 : decode cX4_power 59 = .ok (.ireturn, 1) := by decide +kernel
theorem dX4_inverse_0 : decode cX4_inverse 0 = .ok (.aload_n 0, 1) := by decide +kernel
theorem dX4_inverse_1 : decode cX4_inverse 1 = .ok (.getfield 10, 3) := by decide +kernel
theorem dX4_inverse_4 : decode cX4_inverse 4 = .ok (.iload_n 1, 1) := by decide +kernel
theorem dX4_inverse_5 : decode cX4_inverse 5 = .ok (.invokevirtual 117, 3) := by decide +kernel
theorem dX4_inverse_8 : decode cX4_inverse 8 = .ok (.ifCond .eq 28, 3) := by decide +kernel
theorem dX4_inverse_11 : decode cX4_inverse 11 = .ok (.aload_n 0, 1) := by decide +kernel
theorem dX4_inverse_12 : decode cX4_inverse 12 = .ok (.getfield 10, 3) := by decide +kernel
theorem dX4_inverse_15 : decode cX4_inverse 15 = .ok (.iload_n 2, 1) := by decide +kernel
theorem dX4_inverse_16 : decode cX4_inverse 16 = .ok (.invokevirtual 117, 3) := by decide +kernel
theorem dX4_inverse_19 : decode cX4_inverse 19 = .ok (.ifCond .eq 17, 3) := by decide +kernel
theorem dX4_inverse_22 : decode cX4_inverse 22 = .ok (.aload_n 0, 1) := by decide +kernel
theorem dX4_inverse_23 : decode cX4_inverse 23 = .ok (.getfield 10, 3) := by decide +kernel
theorem dX4_inverse_26 : decode cX4_inverse 26 = .ok (.getfield 106, 3) := by decide +kernel
theorem dX4_inverse_29 : decode cX4_inverse 29 = .ok (.iload_n 1, 1) := by decide +kernel
theorem dX4_inverse_30 : decode cX4_inverse 30 = .ok (.aaload, 1) := by decide +kernel
theorem dX4_inverse_31 : decode cX4_inverse 31 = .ok (.iconst 0, 1) := by decide +kernel
theorem dX4_inverse_32 : decode cX4_inverse 32 = .ok (.iaload, 1) := by decide +kernel
theorem dX4_inverse_33 : decode cX4_inverse 33 = .ok (.ifCond .ne 5, 3) := by decide +kernel
theorem dX4_inverse_36 : decode cX4_inverse 36 = .ok (.iconst (-1), 1) := by decide +kernel
theorem dX4_inverse_37 : decode cX4_inverse 37 = .ok (.ireturn, 1) := by decide +kernel
theorem dX4_inverse_38 : decode cX4_inverse 38 = .ok (.aload_n 0, 1) := by decide +kernel
theorem dX4_inverse_39 : decode cX4_inverse 39 = .ok (.getfield 39, 3) := by decide +kernel
theorem dX4_inverse_42 : decode cX4_inverse 42 = .ok (.aload_n 0, 1) := by decide +kernel
theorem dX4_inverse_43 : decode cX4_inverse 43 = .ok (.getfield 10, 3) := by decide +kernel
theorem dX4_inverse_46 : decode cX4_inverse 46 = .ok (.getfield 106, 3) := by decide +kernel
theorem dX4_inverse_49 : decode cX4_inverse 49 = .ok (.iload_n 1, 1) := by decide +kernel
theorem dX4_inverse_50 : decode cX4_inverse 50 = .ok (.aaload, 1) := by decide +kernel
theorem dX4_inverse_51 : decode cX4_inverse 51 = .ok (.iconst 0, 1) := by decide +kernel
theorem dX4_inverse_52 : decode cX4_inverse 52 = .ok (.iaload, 1) := by decide +kernel
theorem dX4_inverse_53 : decode cX4_inverse 53 = .ok (.invokevirtual 159, 3) := by decide +kernel
theorem dX4_inverse_56 : decode cX4_inverse 56 = .ok (.aload_n 0, 1) := by decide +kernel
theorem dX4_inverse_57 : decode cX4_inverse 57 = .ok (.iload_n 1, 1) := by decide +kernel
theorem dX4_inverse_58 : decode cX4_inverse 58 = .ok (.iload_n 2, 1) := by decide +kernel
theorem dX4_inverse_59 : decode cX4_inverse 59 = .ok (.invokevirtual 155, 3) := by decide +kernel
theorem dX4_inverse_62 : decode cX4_inverse 62 = .ok (.ireturn, 1) := by decide +kernel
theorem dX4_allWays_0 : decode cX4_allWays 0 = .ok (.aload_n 0, 1) := by decide +kernel
theorem dX4_allWays_1 : decode cX4_allWays 1 = .ok (.getfield 10, 3) := by decide +kernel
theorem dX4_allWays_4 : decode cX4_allWays 4 = .ok (.iload_n 1, 1) := by decide +kernel
theorem dX4_allWays_5 : decode cX4_allWays 5 = .ok (.invokevirtual 117, 3) := by decide +kernel
theorem dX4_allWays_8 : decode cX4_allWays 8 = .ok (.ifCond .eq 28, 3) := by decide +kernel
theorem dX4_allWays_11 : decode cX4_allWays 11 = .ok (.aload_n 0, 1) := by decide +kernel
theorem dX4_allWays_12 : decode cX4_allWays 12 = .ok (.getfield 10, 3) := by decide +kernel
theorem dX4_allWays_15 : decode cX4_allWays 15 = .ok (.iload_n 2, 1) := by decide +kernel
theorem dX4_allWays_16 : decode cX4_allWays 16 = .ok (.invokevirtual 117, 3) := by decide +kernel
theorem dX4_allWays_19 : decode cX4_allWays 19 = .ok (.ifCond .eq 17, 3) := by decide +kernel
theorem dX4_allWays_22 : decode cX4_allWays 22 = .ok (.aload_n 0, 1) := by decide +kernel
theorem dX4_allWays_23 : decode cX4_allWays 23 = .ok (.getfield 10, 3) := by decide +kernel
theorem dX4_allWays_26 : decode cX4_allWays 26 = .ok (.getfield 106, 3) := by decide +kernel
theorem dX4_allWays_29 : decode cX4_allWays 29 = .ok (.iload_n 1, 1) := by decide +kernel
theorem dX4_allWays_30 : decode cX4_allWays 30 = .ok (.aaload, 1) := by decide +kernel
theorem dX4_allWays_31 : decode cX4_allWays 31 = .ok (.iconst 0, 1) := by decide +kernel
theorem dX4_allWays_32 : decode cX4_allWays 32 = .ok (.iaload, 1) := by decide +kernel
theorem dX4_allWays_33 : decode cX4_allWays 33 = .ok (.ifCond .eq 5, 3) := by decide +kernel
theorem dX4_allWays_36 : decode cX4_allWays 36 = .ok (.iconst (-1), 1) := by decide +kernel
theorem dX4_allWays_37 : decode cX4_allWays 37 = .ok (.ireturn, 1) := by decide +kernel
theorem dX4_allWays_38 : decode cX4_allWays 38 = .ok (.aload_n 0, 1) := by decide +kernel
theorem dX4_allWays_39 : decode cX4_allWays 39 = .ok (.getfield 39, 3) := by decide +kernel
theorem dX4_allWays_42 : decode cX4_allWays 42 = .ok (.invokevirtual 162, 3) := by decide +kernel
theorem dX4_allWays_45 : decode cX4_allWays 45 = .ok (.aload_n 0, 1) := by decide +kernel
theorem dX4_allWays_46 : decode cX4_allWays 46 = .ok (.iload_n 1, 1) := by decide +kernel
theorem dX4_allWays_47 : decode cX4_allWays 47 = .ok (.iload_n 2, 1) := by decide +kernel
theorem dX4_allWays_48 : decode cX4_allWays 48 = .ok (.invokevirtual 155, 3) := by decide +kernel
theorem dX4_allWays_51 : decode cX4_allWays 51 = .ok (.ireturn, 1) := by decide +kernel
theorem dX4_roots_0 : decode cX4_roots 0 = .ok (.aload_n 0, 1) := by decide +kernel
theorem dX4_roots_1 : decode cX4_roots 1 = .ok (.getfield 10, 3) := by decide +kernel
theorem dX4_roots_4 : decode cX4_roots 4 = .ok (.iload_n 1, 1) := by decide +kernel
theorem dX4_roots_5 : decode cX4_roots 5 = .ok (.invokevirtual 117, 3) := by decide +kernel
theorem dX4_roots_8 : decode cX4_roots 8 = .ok (.ifCond .eq 29, 3) := by decide +kernel
theorem dX4_roots_11 : decode cX4_roots 11 = .ok (.aload_n 0, 1) := by decide +kernel
theorem dX4_roots_12 : decode cX4_roots 12 = .ok (.getfield 10, 3) := by decide +kernel
theorem dX4_roots_15 : decode cX4_roots 15 = .ok (.iload_n 2, 1) := by decide +kernel
theorem dX4_roots_16 : decode cX4_roots 16 = .ok (.invokevirtual 117, 3) := by decide +kernel
theorem dX4_roots_19 : decode cX4_roots 19 = .ok (.ifCond .eq 18, 3) := by decide +kernel
theorem dX4_roots_22 : decode cX4_roots 22 = .ok (.aload_n 0, 1) := by decide +kernel
theorem dX4_roots_23 : decode cX4_roots 23 = .ok (.getfield 10, 3) := by decide +kernel
theorem dX4_roots_26 : decode cX4_roots 26 = .ok (.getfield 106, 3) := by decide +kernel
theorem dX4_roots_29 : decode cX4_roots 29 = .ok (.iload_n 1, 1) := by decide +kernel
theorem dX4_roots_30 : decode cX4_roots 30 = .ok (.aaload, 1) := by decide +kernel
theorem dX4_roots_31 : decode cX4_roots 31 = .ok (.iconst 0, 1) := by decide +kernel
theorem dX4_roots_32 : decode cX4_roots 32 = .ok (.iaload, 1) := by decide +kernel
theorem dX4_roots_33 : decode cX4_roots 33 = .ok (.iconst 1, 1) := by decide +kernel
theorem dX4_roots_34 : decode cX4_roots 34 = .ok (.if_icmp .eq 5, 3) := by decide +kernel
theorem dX4_roots_37 : decode cX4_roots 37 = .ok (.iconst (-1), 1) := by decide +kernel
theorem dX4_roots_38 : decode cX4_roots 38 = .ok (.ireturn, 1) := by decide +kernel
theorem dX4_roots_39 : decode cX4_roots 39 = .ok (.aload_n 0, 1) := by decide +kernel
theorem dX4_roots_40 : decode cX4_roots 40 = .ok (.getfield 39, 3) := by decide +kernel
theorem dX4_roots_43 : decode cX4_roots 43 = .ok (.invokevirtual 165, 3) := by decide +kernel
theorem dX4_roots_46 : decode cX4_roots 46 = .ok (.aload_n 0, 1) := by decide +kernel
theorem dX4_roots_47 : decode cX4_roots 47 = .ok (.iload_n 1, 1) := by decide +kernel
theorem dX4_roots_48 : decode cX4_roots 48 = .ok (.iload_n 2, 1) := by decide +kernel
theorem dX4_roots_49 : decode cX4_roots 49 = .ok (.invokevirtual 155, 3) := by decide +kernel
theorem dX4_roots_52 : decode cX4_roots 52 = .ok (.ireturn, 1) := by decide +kernel
theorem dX4_covers_0 : decode cX4_covers 0 = .ok (.aload_n 0, 1) := by decide +kernel
theorem dX4_covers_1 : decode cX4_covers 1 = .ok (.getfield 10, 3) := by decide +kernel
theorem dX4_covers_4 : decode cX4_covers 4 = .ok (.iload_n 1, 1) := by decide +kernel
theorem dX4_covers_5 : decode cX4_covers 5 = .ok (.invokevirtual 102, 3) := by decide +kernel
theorem dX4_covers_8 : decode cX4_covers 8 = .ok (.ifCond .eq 13, 3) := by decide +kernel
theorem dX4_covers_11 : decode cX4_covers 11 = .ok (.iload_n 2, 1) := by decide +kernel
theorem dX4_covers_12 : decode cX4_covers 12 = .ok (.ifCond .lt 9, 3) := by decide +kernel
theorem dX4_covers_15 : decode cX4_covers 15 = .ok (.iload_n 2, 1) := by decide +kernel
theorem dX4_covers_16 : decode cX4_covers 16 = .ok (.bipush 8, 2) := by decide +kernel
theorem dX4_covers_18 : decode cX4_covers 18 = .ok (.if_icmp .le 5, 3) := by decide +kernel
theorem dX4_covers_21 : decode cX4_covers 21 = .ok (.iconst (-1), 1) := by decide +kernel
theorem dX4_covers_22 : decode cX4_covers 22 = .ok (.ireturn, 1) := by decide +kernel
theorem dX4_covers_23 : decode cX4_covers 23 = .ok (.aload_n 0, 1) := by decide +kernel
theorem dX4_covers_24 : decode cX4_covers 24 = .ok (.getfield 10, 3) := by decide +kernel
theorem dX4_covers_27 : decode cX4_covers 27 = .ok (.iconst 1, 1) := by decide +kernel
theorem dX4_covers_28 : decode cX4_covers 28 = .ok (.aload_n 0, 1) := by decide +kernel
theorem dX4_covers_29 : decode cX4_covers 29 = .ok (.getfield 43, 3) := by decide +kernel
theorem dX4_covers_32 : decode cX4_covers 32 = .ok (.invokestatic 128, 3) := by decide +kernel
theorem dX4_covers_35 : decode cX4_covers 35 = .ok (.aload_n 0, 1) := by decide +kernel
theorem dX4_covers_36 : decode cX4_covers 36 = .ok (.getfield 43, 3) := by decide +kernel
theorem dX4_covers_39 : decode cX4_covers 39 = .ok (.aload_n 0, 1) := by decide +kernel
theorem dX4_covers_40 : decode cX4_covers 40 = .ok (.getfield 10, 3) := by decide +kernel
theorem dX4_covers_43 : decode cX4_covers 43 = .ok (.getfield 92, 3) := by decide +kernel
theorem dX4_covers_46 : decode cX4_covers 46 = .ok (.iconst 1, 1) := by decide +kernel
theorem dX4_covers_47 : decode cX4_covers 47 = .ok (.iconst 0, 1) := by decide +kernel
theorem dX4_covers_48 : decode cX4_covers 48 = .ok (.invokestatic 168, 3) := by decide +kernel
theorem dX4_covers_51 : decode cX4_covers 51 = .ok (.iconst 0, 1) := by decide +kernel
theorem dX4_covers_52 : decode cX4_covers 52 = .ok (.istore_n 3, 1) := by decide +kernel
theorem dX4_covers_53 : decode cX4_covers 53 = .ok (.iload_n 3, 1) := by decide +kernel
theorem dX4_covers_54 : decode cX4_covers 54 = .ok (.aload_n 0, 1) := by decide +kernel
theorem dX4_covers_55 : decode cX4_covers 55 = .ok (.getfield 10, 3) := by decide +kernel
theorem dX4_covers_58 : decode cX4_covers 58 = .ok (.invokevirtual 132, 3) := by decide +kernel
theorem dX4_covers_61 : decode cX4_covers 61 = .ok (.if_icmp .ge 25, 3) := by decide +kernel
theorem dX4_covers_64 : decode cX4_covers 64 = .ok (.aload_n 0, 1) := by decide +kernel
theorem dX4_covers_65 : decode cX4_covers 65 = .ok (.getfield 43, 3) := by decide +kernel
theorem dX4_covers_68 : decode cX4_covers 68 = .ok (.iload_n 3, 1) := by decide +kernel
theorem dX4_covers_69 : decode cX4_covers 69 = .ok (.aload_n 0, 1) := by decide +kernel
theorem dX4_covers_70 : decode cX4_covers 70 = .ok (.getfield 43, 3) := by decide +kernel
theorem dX4_covers_73 : decode cX4_covers 73 = .ok (.iload_n 3, 1) := by decide +kernel
theorem dX4_covers_74 : decode cX4_covers 74 = .ok (.iaload, 1) := by decide +kernel
theorem dX4_covers_75 : decode cX4_covers 75 = .ok (.iload_n 2, 1) := by decide +kernel
theorem dX4_covers_76 : decode cX4_covers 76 = .ok (.invokestatic 172, 3) := by decide +kernel
theorem dX4_covers_79 : decode cX4_covers 79 = .ok (.iastore, 1) := by decide +kernel
theorem dX4_covers_80 : decode cX4_covers 80 = .ok (.iinc 3 1, 3) := by decide +kernel
theorem dX4_covers_83 : decode cX4_covers 83 = .ok (.goto (-30), 3) := by decide +kernel
theorem dX4_covers_86 : decode cX4_covers 86 = .ok (.aload_n 0, 1) := by decide +kernel
theorem dX4_covers_87 : decode cX4_covers 87 = .ok (.getfield 43, 3) := by decide +kernel
theorem dX4_covers_90 : decode cX4_covers 90 = .ok (.aload_n 0, 1) := by decide +kernel
theorem dX4_covers_91 : decode cX4_covers 91 = .ok (.getfield 10, 3) := by decide +kernel
theorem dX4_covers_94 : decode cX4_covers 94 = .ok (.getfield 92, 3) := by decide +kernel
theorem dX4_covers_97 : decode cX4_covers 97 = .ok (.iconst 1, 1) := by decide +kernel
theorem dX4_covers_98 : decode cX4_covers 98 = .ok (.iconst 1, 1) := by decide +kernel
theorem dX4_covers_99 : decode cX4_covers 99 = .ok (.invokestatic 168, 3) := by decide +kernel
theorem dX4_covers_102 : decode cX4_covers 102 = .ok (.aload_n 0, 1) := by decide +kernel
theorem dX4_covers_103 : decode cX4_covers 103 = .ok (.getfield 43, 3) := by decide +kernel
theorem dX4_covers_106 : decode cX4_covers 106 = .ok (.iload_n 1, 1) := by decide +kernel
theorem dX4_covers_107 : decode cX4_covers 107 = .ok (.iaload, 1) := by decide +kernel
theorem dX4_covers_108 : decode cX4_covers 108 = .ok (.ireturn, 1) := by decide +kernel
theorem dX4_partings_0 : decode cX4_partings 0 = .ok (.aload_n 0, 1) := by decide +kernel
theorem dX4_partings_1 : decode cX4_partings 1 = .ok (.getfield 10, 3) := by decide +kernel
theorem dX4_partings_4 : decode cX4_partings 4 = .ok (.iload_n 1, 1) := by decide +kernel
theorem dX4_partings_5 : decode cX4_partings 5 = .ok (.invokevirtual 102, 3) := by decide +kernel
theorem dX4_partings_8 : decode cX4_partings 8 = .ok (.ifCond .eq 13, 3) := by decide +kernel
theorem dX4_partings_11 : decode cX4_partings 11 = .ok (.iload_n 2, 1) := by decide +kernel
theorem dX4_partings_12 : decode cX4_partings 12 = .ok (.ifCond .lt 9, 3) := by decide +kernel
theorem dX4_partings_15 : decode cX4_partings 15 = .ok (.iload_n 2, 1) := by decide +kernel
theorem dX4_partings_16 : decode cX4_partings 16 = .ok (.bipush 8, 2) := by decide +kernel
theorem dX4_partings_18 : decode cX4_partings 18 = .ok (.if_icmp .le 5, 3) := by decide +kernel
theorem dX4_partings_21 : decode cX4_partings 21 = .ok (.iconst (-1), 1) := by decide +kernel
theorem dX4_partings_22 : decode cX4_partings 22 = .ok (.ireturn, 1) := by decide +kernel
theorem dX4_partings_23 : decode cX4_partings 23 = .ok (.aload_n 0, 1) := by decide +kernel
theorem dX4_partings_24 : decode cX4_partings 24 = .ok (.getfield 10, 3) := by decide +kernel
theorem dX4_partings_27 : decode cX4_partings 27 = .ok (.iconst 1, 1) := by decide +kernel
theorem dX4_partings_28 : decode cX4_partings 28 = .ok (.aload_n 0, 1) := by decide +kernel
theorem dX4_partings_29 : decode cX4_partings 29 = .ok (.getfield 43, 3) := by decide +kernel
theorem dX4_partings_32 : decode cX4_partings 32 = .ok (.invokestatic 128, 3) := by decide +kernel
theorem dX4_partings_35 : decode cX4_partings 35 = .ok (.aload_n 0, 1) := by decide +kernel
theorem dX4_partings_36 : decode cX4_partings 36 = .ok (.getfield 39, 3) := by decide +kernel
theorem dX4_partings_39 : decode cX4_partings 39 = .ok (.iload_n 2, 1) := by decide +kernel
theorem dX4_partings_40 : decode cX4_partings 40 = .ok (.invokevirtual 175, 3) := by decide +kernel
theorem dX4_partings_43 : decode cX4_partings 43 = .ok (.aload_n 0, 1) := by decide +kernel
theorem dX4_partings_44 : decode cX4_partings 44 = .ok (.getfield 39, 3) := by decide +kernel
theorem dX4_partings_47 : decode cX4_partings 47 = .ok (.aload_n 0, 1) := by decide +kernel
theorem dX4_partings_48 : decode cX4_partings 48 = .ok (.getfield 43, 3) := by decide +kernel
theorem dX4_partings_51 : decode cX4_partings 51 = .ok (.aload_n 0, 1) := by decide +kernel
theorem dX4_partings_52 : decode cX4_partings 52 = .ok (.getfield 10, 3) := by decide +kernel
theorem dX4_partings_55 : decode cX4_partings 55 = .ok (.getfield 92, 3) := by decide +kernel
theorem dX4_partings_58 : decode cX4_partings 58 = .ok (.iconst 1, 1) := by decide +kernel
theorem dX4_partings_59 : decode cX4_partings 59 = .ok (.invokevirtual 178, 3) := by decide +kernel
theorem dX4_partings_62 : decode cX4_partings 62 = .ok (.aload_n 0, 1) := by decide +kernel
theorem dX4_partings_63 : decode cX4_partings 63 = .ok (.getfield 39, 3) := by decide +kernel
theorem dX4_partings_66 : decode cX4_partings 66 = .ok (.getfield 182, 3) := by decide +kernel
theorem dX4_partings_69 : decode cX4_partings 69 = .ok (.iload_n 1, 1) := by decide +kernel
theorem dX4_partings_70 : decode cX4_partings 70 = .ok (.laload, 1) := by decide +kernel
theorem dX4_partings_71 : decode cX4_partings 71 = .ok (.l2i, 1) := by decide +kernel
theorem dX4_partings_72 : decode cX4_partings 72 = .ok (.ireturn, 1) := by decide +kernel
theorem dX4_cheapest_0 : decode cX4_cheapest 0 = .ok (.aload_n 0, 1) := by decide +kernel
theorem dX4_cheapest_1 : decode cX4_cheapest 1 = .ok (.getfield 10, 3) := by decide +kernel
theorem dX4_cheapest_4 : decode cX4_cheapest 4 = .ok (.iload_n 1, 1) := by decide +kernel
theorem dX4_cheapest_5 : decode cX4_cheapest 5 = .ok (.invokevirtual 102, 3) := by decide +kernel
theorem dX4_cheapest_8 : decode cX4_cheapest 8 = .ok (.ifCond .ne 5, 3) := by decide +kernel
theorem dX4_cheapest_11 : decode cX4_cheapest 11 = .ok (.iconst (-1), 1) := by decide +kernel
theorem dX4_cheapest_12 : decode cX4_cheapest 12 = .ok (.ireturn, 1) := by decide +kernel
theorem dX4_cheapest_13 : decode cX4_cheapest 13 = .ok (.aload_n 0, 1) := by decide +kernel
theorem dX4_cheapest_14 : decode cX4_cheapest 14 = .ok (.iload_n 1, 1) := by decide +kernel
theorem dX4_cheapest_15 : decode cX4_cheapest 15 = .ok (.invokevirtual 186, 3) := by decide +kernel
theorem dX4_cheapest_18 : decode cX4_cheapest 18 = .ok (.aload_n 0, 1) := by decide +kernel
theorem dX4_cheapest_19 : decode cX4_cheapest 19 = .ok (.getfield 43, 3) := by decide +kernel
theorem dX4_cheapest_22 : decode cX4_cheapest 22 = .ok (.iload_n 1, 1) := by decide +kernel
theorem dX4_cheapest_23 : decode cX4_cheapest 23 = .ok (.iaload, 1) := by decide +kernel
theorem dX4_cheapest_24 : decode cX4_cheapest 24 = .ok (.ldc 189, 2) := by decide +kernel
theorem dX4_cheapest_26 : decode cX4_cheapest 26 = .ok (.if_icmp .ge 12, 3) := by decide +kernel
theorem dX4_cheapest_29 : decode cX4_cheapest 29 = .ok (.aload_n 0, 1) := by decide +kernel
theorem dX4_cheapest_30 : decode cX4_cheapest 30 = .ok (.getfield 43, 3) := by decide +kernel
theorem dX4_cheapest_33 : decode cX4_cheapest 33 = .ok (.iload_n 1, 1) := by decide +kernel
theorem dX4_cheapest_34 : decode cX4_cheapest 34 = .ok (.iaload, 1) := by decide +kernel
theorem dX4_cheapest_35 : decode cX4_cheapest 35 = .ok (.goto 4, 3) := by decide +kernel
theorem dX4_cheapest_38 : decode cX4_cheapest 38 = .ok (.iconst (-1), 1) := by decide +kernel
theorem dX4_cheapest_39 : decode cX4_cheapest 39 = .ok (.ireturn, 1) := by decide +kernel
theorem dX4_part_0 : decode cX4_part 0 = .ok (.aload_n 0, 1) := by decide +kernel
theorem dX4_part_1 : decode cX4_part 1 = .ok (.iload_n 1, 1) := by decide +kernel
theorem dX4_part_2 : decode cX4_part 2 = .ok (.iload_n 2, 1) := by decide +kernel
theorem dX4_part_3 : decode cX4_part 3 = .ok (.invokevirtual 190, 3) := by decide +kernel
theorem dX4_part_6 : decode cX4_part 6 = .ok (.istore_n 3, 1) := by decide +kernel
theorem dX4_part_7 : decode cX4_part 7 = .ok (.iload_n 3, 1) := by decide +kernel
theorem dX4_part_8 : decode cX4_part 8 = .ok (.iconst (-1), 1) := by decide +kernel
theorem dX4_part_9 : decode cX4_part 9 = .ok (.if_icmp .ne 13, 3) := by decide +kernel
theorem dX4_part_12 : decode cX4_part 12 = .ok (.new 193, 3) := by decide +kernel
theorem dX4_part_15 : decode cX4_part 15 = .ok (.dup, 1) := by decide +kernel
theorem dX4_part_16 : decode cX4_part 16 = .ok (.ldc 195, 2) := by decide +kernel
theorem dX4_part_18 : decode cX4_part 18 = .ok (.invokespecial 197, 3) := by decide +kernel
theorem dX4_part_21 : decode cX4_part 21 = .ok (.athrow, 1) := by decide +kernel
theorem dX4_part_22 : decode cX4_part 22 = .ok (.iload_n 3, 1) := by decide +kernel
theorem dX4_part_23 : decode cX4_part 23 = .ok (.ireturn, 1) := by decide +kernel
theorem dX4_colours_0 : decode cX4_colours 0 = .ok (.aload_n 0, 1) := by decide +kernel
theorem dX4_colours_1 : decode cX4_colours 1 = .ok (.getfield 10, 3) := by decide +kernel
theorem dX4_colours_4 : decode cX4_colours 4 = .ok (.iload_n 1, 1) := by decide +kernel
theorem dX4_colours_5 : decode cX4_colours 5 = .ok (.invokevirtual 102, 3) := by decide +kernel
theorem dX4_colours_8 : decode cX4_colours 8 = .ok (.ifCond .eq 11, 3) := by decide +kernel
theorem dX4_colours_11 : decode cX4_colours 11 = .ok (.aload_n 0, 1) := by decide +kernel
theorem dX4_colours_12 : decode cX4_colours 12 = .ok (.iload_n 1, 1) := by decide +kernel
theorem dX4_colours_13 : decode cX4_colours 13 = .ok (.invokevirtual 200, 3) := by decide +kernel
theorem dX4_colours_16 : decode cX4_colours 16 = .ok (.goto 4, 3) := by decide +kernel
theorem dX4_colours_19 : decode cX4_colours 19 = .ok (.iconst (-1), 1) := by decide +kernel
theorem dX4_colours_20 : decode cX4_colours 20 = .ok (.ireturn, 1) := by decide +kernel
theorem dX4_colour_0 : decode cX4_colour 0 = .ok (.aload_n 0, 1) := by decide +kernel
theorem dX4_colour_1 : decode cX4_colour 1 = .ok (.getfield 10, 3) := by decide +kernel
theorem dX4_colour_4 : decode cX4_colour 4 = .ok (.iload_n 1, 1) := by decide +kernel
theorem dX4_colour_5 : decode cX4_colour 5 = .ok (.invokevirtual 102, 3) := by decide +kernel
theorem dX4_colour_8 : decode cX4_colour 8 = .ok (.ifCond .eq 22, 3) := by decide +kernel
theorem dX4_colour_11 : decode cX4_colour 11 = .ok (.aload_n 0, 1) := by decide +kernel
theorem dX4_colour_12 : decode cX4_colour 12 = .ok (.getfield 10, 3) := by decide +kernel
theorem dX4_colour_15 : decode cX4_colour 15 = .ok (.iload_n 2, 1) := by decide +kernel
theorem dX4_colour_16 : decode cX4_colour 16 = .ok (.invokevirtual 110, 3) := by decide +kernel
theorem dX4_colour_19 : decode cX4_colour 19 = .ok (.ifCond .eq 11, 3) := by decide +kernel
theorem dX4_colour_22 : decode cX4_colour 22 = .ok (.iload_n 1, 1) := by decide +kernel
theorem dX4_colour_23 : decode cX4_colour 23 = .ok (.iload_n 2, 1) := by decide +kernel
theorem dX4_colour_24 : decode cX4_colour 24 = .ok (.ishr, 1) := by decide +kernel
theorem dX4_colour_25 : decode cX4_colour 25 = .ok (.iconst 1, 1) := by decide +kernel
theorem dX4_colour_26 : decode cX4_colour 26 = .ok (.iand, 1) := by decide +kernel
theorem dX4_colour_27 : decode cX4_colour 27 = .ok (.ifCond .ne 5, 3) := by decide +kernel
theorem dX4_colour_30 : decode cX4_colour 30 = .ok (.iconst (-1), 1) := by decide +kernel
theorem dX4_colour_31 : decode cX4_colour 31 = .ok (.ireturn, 1) := by decide +kernel
theorem dX4_colour_32 : decode cX4_colour 32 = .ok (.aload_n 0, 1) := by decide +kernel
theorem dX4_colour_33 : decode cX4_colour 33 = .ok (.iload_n 1, 1) := by decide +kernel
theorem dX4_colour_34 : decode cX4_colour 34 = .ok (.invokevirtual 200, 3) := by decide +kernel
theorem dX4_colour_37 : decode cX4_colour 37 = .ok (.istore_n 3, 1) := by decide +kernel
theorem dX4_colour_38 : decode cX4_colour 38 = .ok (.iconst 0, 1) := by decide +kernel
theorem dX4_colour_39 : decode cX4_colour 39 = .ok (.istore 4, 2) := by decide +kernel
theorem dX4_colour_41 : decode cX4_colour 41 = .ok (.iload 4, 2) := by decide +kernel
theorem dX4_colour_43 : decode cX4_colour 43 = .ok (.iload_n 3, 1) := by decide +kernel
theorem dX4_colour_44 : decode cX4_colour 44 = .ok (.if_icmp .ge 34, 3) := by decide +kernel
theorem dX4_colour_47 : decode cX4_colour 47 = .ok (.iload 4, 2) := by decide +kernel
theorem dX4_colour_49 : decode cX4_colour 49 = .ok (.bipush 8, 2) := by decide +kernel
theorem dX4_colour_51 : decode cX4_colour 51 = .ok (.if_icmp .ge 27, 3) := by decide +kernel
theorem dX4_colour_54 : decode cX4_colour 54 = .ok (.aload_n 0, 1) := by decide +kernel
theorem dX4_colour_55 : decode cX4_colour 55 = .ok (.getfield 50, 3) := by decide +kernel
theorem dX4_colour_58 : decode cX4_colour 58 = .ok (.iload 4, 2) := by decide +kernel
theorem dX4_colour_60 : decode cX4_colour 60 = .ok (.iaload, 1) := by decide +kernel
theorem dX4_colour_61 : decode cX4_colour 61 = .ok (.iload_n 2, 1) := by decide +kernel
theorem dX4_colour_62 : decode cX4_colour 62 = .ok (.ishr, 1) := by decide +kernel
theorem dX4_colour_63 : decode cX4_colour 63 = .ok (.iconst 1, 1) := by decide +kernel
theorem dX4_colour_64 : decode cX4_colour 64 = .ok (.iand, 1) := by decide +kernel
theorem dX4_colour_65 : decode cX4_colour 65 = .ok (.iconst 1, 1) := by decide +kernel
theorem dX4_colour_66 : decode cX4_colour 66 = .ok (.if_icmp .ne 6, 3) := by decide +kernel
theorem dX4_colour_69 : decode cX4_colour 69 = .ok (.iload 4, 2) := by decide +kernel
theorem dX4_colour_71 : decode cX4_colour 71 = .ok (.ireturn, 1) := by decide +kernel
theorem dX4_colour_72 : decode cX4_colour 72 = .ok (.iinc 4 1, 3) := by decide +kernel
theorem dX4_colour_75 : decode cX4_colour 75 = .ok (.goto (-34), 3) := by decide +kernel
theorem dX4_colour_78 : decode cX4_colour 78 = .ok (.iconst (-1), 1) := by decide +kernel
theorem dX4_colour_79 : decode cX4_colour 79 = .ok (.ireturn, 1) := by decide +kernel
theorem dX4_colourings_0 : decode cX4_colourings 0 = .ok (.aload_n 0, 1) := by decide +kernel
theorem dX4_colourings_1 : decode cX4_colourings 1 = .ok (.getfield 10, 3) := by decide +kernel
theorem dX4_colourings_4 : decode cX4_colourings 4 = .ok (.iload_n 1, 1) := by decide +kernel
theorem dX4_colourings_5 : decode cX4_colourings 5 = .ok (.invokevirtual 102, 3) := by decide +kernel
theorem dX4_colourings_8 : decode cX4_colourings 8 = .ok (.ifCond .eq 13, 3) := by decide +kernel
theorem dX4_colourings_11 : decode cX4_colourings 11 = .ok (.iload_n 2, 1) := by decide +kernel
theorem dX4_colourings_12 : decode cX4_colourings 12 = .ok (.ifCond .lt 9, 3) := by decide +kernel
theorem dX4_colourings_15 : decode cX4_colourings 15 = .ok (.iload_n 2, 1) := by decide +kernel
theorem dX4_colourings_16 : decode cX4_colourings 16 = .ok (.bipush 99, 2) := by decide +kernel
theorem dX4_colourings_18 : decode cX4_colourings 18 = .ok (.if_icmp .le 7, 3) := by decide +kernel
theorem dX4_colourings_21 : decode cX4_colourings 21 = .ok (.ldc2_w 203, 3) := by decide +kernel
theorem dX4_colourings_24 : decode cX4_colourings 24 = .ok (.lreturn, 1) := by decide +kernel
theorem dX4_colourings_25 : decode cX4_colourings 25 = .ok (.aload_n 0, 1) := by decide +kernel
theorem dX4_colourings_26 : decode cX4_colourings 26 = .ok (.getfield 10, 3) := by decide +kernel
theorem dX4_colourings_29 : decode cX4_colourings 29 = .ok (.iconst 2, 1) := by decide +kernel
theorem dX4_colourings_30 : decode cX4_colourings 30 = .ok (.aload_n 0, 1) := by decide +kernel
theorem dX4_colourings_31 : decode cX4_colourings 31 = .ok (.getfield 43, 3) := by decide +kernel
theorem dX4_colourings_34 : decode cX4_colourings 34 = .ok (.invokestatic 128, 3) := by decide +kernel
theorem dX4_colourings_37 : decode cX4_colourings 37 = .ok (.aload_n 0, 1) := by decide +kernel
theorem dX4_colourings_38 : decode cX4_colourings 38 = .ok (.getfield 39, 3) := by decide +kernel
theorem dX4_colourings_41 : decode cX4_colourings 41 = .ok (.iload_n 2, 1) := by decide +kernel
theorem dX4_colourings_42 : decode cX4_colourings 42 = .ok (.invokevirtual 205, 3) := by decide +kernel
theorem dX4_colourings_45 : decode cX4_colourings 45 = .ok (.aload_n 0, 1) := by decide +kernel
theorem dX4_colourings_46 : decode cX4_colourings 46 = .ok (.getfield 39, 3) := by decide +kernel
theorem dX4_colourings_49 : decode cX4_colourings 49 = .ok (.aload_n 0, 1) := by decide +kernel
theorem dX4_colourings_50 : decode cX4_colourings 50 = .ok (.getfield 43, 3) := by decide +kernel
theorem dX4_colourings_53 : decode cX4_colourings 53 = .ok (.aload_n 0, 1) := by decide +kernel
theorem dX4_colourings_54 : decode cX4_colourings 54 = .ok (.getfield 10, 3) := by decide +kernel
theorem dX4_colourings_57 : decode cX4_colourings 57 = .ok (.getfield 92, 3) := by decide +kernel
theorem dX4_colourings_60 : decode cX4_colourings 60 = .ok (.iconst 1, 1) := by decide +kernel
theorem dX4_colourings_61 : decode cX4_colourings 61 = .ok (.invokevirtual 178, 3) := by decide +kernel
theorem dX4_colourings_64 : decode cX4_colourings 64 = .ok (.aload_n 0, 1) := by decide +kernel
theorem dX4_colourings_65 : decode cX4_colourings 65 = .ok (.getfield 39, 3) := by decide +kernel
theorem dX4_colourings_68 : decode cX4_colourings 68 = .ok (.getfield 182, 3) := by decide +kernel
theorem dX4_colourings_71 : decode cX4_colourings 71 = .ok (.iload_n 1, 1) := by decide +kernel
theorem dX4_colourings_72 : decode cX4_colourings 72 = .ok (.laload, 1) := by decide +kernel
theorem dX4_colourings_73 : decode cX4_colourings 73 = .ok (.lreturn, 1) := by decide +kernel
theorem dX4_hangs_0 : decode cX4_hangs 0 = .ok (.aload_n 0, 1) := by decide +kernel
theorem dX4_hangs_1 : decode cX4_hangs 1 = .ok (.getfield 10, 3) := by decide +kernel
theorem dX4_hangs_4 : decode cX4_hangs 4 = .ok (.iload_n 1, 1) := by decide +kernel
theorem dX4_hangs_5 : decode cX4_hangs 5 = .ok (.invokevirtual 102, 3) := by decide +kernel
theorem dX4_hangs_8 : decode cX4_hangs 8 = .ok (.ifCond .ne 5, 3) := by decide +kernel
theorem dX4_hangs_11 : decode cX4_hangs 11 = .ok (.iconst (-1), 1) := by decide +kernel
theorem dX4_hangs_12 : decode cX4_hangs 12 = .ok (.ireturn, 1) := by decide +kernel
theorem dX4_hangs_13 : decode cX4_hangs 13 = .ok (.aload_n 0, 1) := by decide +kernel
theorem dX4_hangs_14 : decode cX4_hangs 14 = .ok (.getfield 10, 3) := by decide +kernel
theorem dX4_hangs_17 : decode cX4_hangs 17 = .ok (.iconst 4, 1) := by decide +kernel
theorem dX4_hangs_18 : decode cX4_hangs 18 = .ok (.aload_n 0, 1) := by decide +kernel
theorem dX4_hangs_19 : decode cX4_hangs 19 = .ok (.getfield 43, 3) := by decide +kernel
theorem dX4_hangs_22 : decode cX4_hangs 22 = .ok (.invokestatic 128, 3) := by decide +kernel
theorem dX4_hangs_25 : decode cX4_hangs 25 = .ok (.aload_n 0, 1) := by decide +kernel
theorem dX4_hangs_26 : decode cX4_hangs 26 = .ok (.getfield 39, 3) := by decide +kernel
theorem dX4_hangs_29 : decode cX4_hangs 29 = .ok (.invokevirtual 165, 3) := by decide +kernel
theorem dX4_hangs_32 : decode cX4_hangs 32 = .ok (.aload_n 0, 1) := by decide +kernel
theorem dX4_hangs_33 : decode cX4_hangs 33 = .ok (.getfield 39, 3) := by decide +kernel
theorem dX4_hangs_36 : decode cX4_hangs 36 = .ok (.aload_n 0, 1) := by decide +kernel
theorem dX4_hangs_37 : decode cX4_hangs 37 = .ok (.getfield 43, 3) := by decide +kernel
theorem dX4_hangs_40 : decode cX4_hangs 40 = .ok (.aload_n 0, 1) := by decide +kernel
theorem dX4_hangs_41 : decode cX4_hangs 41 = .ok (.getfield 10, 3) := by decide +kernel
theorem dX4_hangs_44 : decode cX4_hangs 44 = .ok (.getfield 92, 3) := by decide +kernel
theorem dX4_hangs_47 : decode cX4_hangs 47 = .ok (.iconst 1, 1) := by decide +kernel
theorem dX4_hangs_48 : decode cX4_hangs 48 = .ok (.invokevirtual 178, 3) := by decide +kernel
theorem dX4_hangs_51 : decode cX4_hangs 51 = .ok (.aload_n 0, 1) := by decide +kernel
theorem dX4_hangs_52 : decode cX4_hangs 52 = .ok (.getfield 39, 3) := by decide +kernel
theorem dX4_hangs_55 : decode cX4_hangs 55 = .ok (.getfield 182, 3) := by decide +kernel
theorem dX4_hangs_58 : decode cX4_hangs 58 = .ok (.iload_n 1, 1) := by decide +kernel
theorem dX4_hangs_59 : decode cX4_hangs 59 = .ok (.laload, 1) := by decide +kernel
theorem dX4_hangs_60 : decode cX4_hangs 60 = .ok (.l2i, 1) := by decide +kernel
theorem dX4_hangs_61 : decode cX4_hangs 61 = .ok (.ireturn, 1) := by decide +kernel
theorem dX4_weigh_0 : decode cX4_weigh 0 = .ok (.aload_n 0, 1) := by decide +kernel
theorem dX4_weigh_1 : decode cX4_weigh 1 = .ok (.getfield 10, 3) := by decide +kernel
theorem dX4_weigh_4 : decode cX4_weigh 4 = .ok (.iload_n 1, 1) := by decide +kernel
theorem dX4_weigh_5 : decode cX4_weigh 5 = .ok (.invokevirtual 102, 3) := by decide +kernel
theorem dX4_weigh_8 : decode cX4_weigh 8 = .ok (.ifCond .eq 29, 3) := by decide +kernel
theorem dX4_weigh_11 : decode cX4_weigh 11 = .ok (.iload_n 2, 1) := by decide +kernel
theorem dX4_weigh_12 : decode cX4_weigh 12 = .ok (.ifCond .lt 25, 3) := by decide +kernel
theorem dX4_weigh_15 : decode cX4_weigh 15 = .ok (.iload_n 2, 1) := by decide +kernel
theorem dX4_weigh_16 : decode cX4_weigh 16 = .ok (.sipush 999, 3) := by decide +kernel
theorem dX4_weigh_19 : decode cX4_weigh 19 = .ok (.if_icmp .gt 18, 3) := by decide +kernel
theorem dX4_weigh_22 : decode cX4_weigh 22 = .ok (.aload_n 0, 1) := by decide +kernel
theorem dX4_weigh_23 : decode cX4_weigh 23 = .ok (.getfield 10, 3) := by decide +kernel
theorem dX4_weigh_26 : decode cX4_weigh 26 = .ok (.getfield 106, 3) := by decide +kernel
theorem dX4_weigh_29 : decode cX4_weigh 29 = .ok (.iconst 4, 1) := by decide +kernel
theorem dX4_weigh_30 : decode cX4_weigh 30 = .ok (.aaload, 1) := by decide +kernel
theorem dX4_weigh_31 : decode cX4_weigh 31 = .ok (.iload_n 1, 1) := by decide +kernel
theorem dX4_weigh_32 : decode cX4_weigh 32 = .ok (.iaload, 1) := by decide +kernel
theorem dX4_weigh_33 : decode cX4_weigh 33 = .ok (.iload_n 2, 1) := by decide +kernel
theorem dX4_weigh_34 : decode cX4_weigh 34 = .ok (.if_icmp .ne 5, 3) := by decide +kernel
theorem dX4_weigh_37 : decode cX4_weigh 37 = .ok (.iconst (-1), 1) := by decide +kernel
theorem dX4_weigh_38 : decode cX4_weigh 38 = .ok (.ireturn, 1) := by decide +kernel
theorem dX4_weigh_39 : decode cX4_weigh 39 = .ok (.aload_n 0, 1) := by decide +kernel
theorem dX4_weigh_40 : decode cX4_weigh 40 = .ok (.getfield 10, 3) := by decide +kernel
theorem dX4_weigh_43 : decode cX4_weigh 43 = .ok (.getfield 106, 3) := by decide +kernel
theorem dX4_weigh_46 : decode cX4_weigh 46 = .ok (.iconst 4, 1) := by decide +kernel
theorem dX4_weigh_47 : decode cX4_weigh 47 = .ok (.aaload, 1) := by decide +kernel
theorem dX4_weigh_48 : decode cX4_weigh 48 = .ok (.iload_n 1, 1) := by decide +kernel
theorem dX4_weigh_49 : decode cX4_weigh 49 = .ok (.iaload, 1) := by decide +kernel
theorem dX4_weigh_50 : decode cX4_weigh 50 = .ok (.istore_n 3, 1) := by decide +kernel
theorem dX4_weigh_51 : decode cX4_weigh 51 = .ok (.aload_n 0, 1) := by decide +kernel
theorem dX4_weigh_52 : decode cX4_weigh 52 = .ok (.getfield 25, 3) := by decide +kernel
theorem dX4_weigh_55 : decode cX4_weigh 55 = .ok (.aload_n 0, 1) := by decide +kernel
theorem dX4_weigh_56 : decode cX4_weigh 56 = .ok (.getfield 10, 3) := by decide +kernel
theorem dX4_weigh_59 : decode cX4_weigh 59 = .ok (.iconst 4, 1) := by decide +kernel
theorem dX4_weigh_60 : decode cX4_weigh 60 = .ok (.invokevirtual 120, 3) := by decide +kernel
theorem dX4_weigh_63 : decode cX4_weigh 63 = .ok (.aload_n 0, 1) := by decide +kernel
theorem dX4_weigh_64 : decode cX4_weigh 64 = .ok (.getfield 10, 3) := by decide +kernel
theorem dX4_weigh_67 : decode cX4_weigh 67 = .ok (.getfield 106, 3) := by decide +kernel
theorem dX4_weigh_70 : decode cX4_weigh 70 = .ok (.iconst 4, 1) := by decide +kernel
theorem dX4_weigh_71 : decode cX4_weigh 71 = .ok (.aaload, 1) := by decide +kernel
theorem dX4_weigh_72 : decode cX4_weigh 72 = .ok (.iload_n 1, 1) := by decide +kernel
theorem dX4_weigh_73 : decode cX4_weigh 73 = .ok (.iload_n 2, 1) := by decide +kernel
theorem dX4_weigh_74 : decode cX4_weigh 74 = .ok (.iastore, 1) := by decide +kernel
theorem dX4_weigh_75 : decode cX4_weigh 75 = .ok (.iload_n 3, 1) := by decide +kernel
theorem dX4_weigh_76 : decode cX4_weigh 76 = .ok (.ireturn, 1) := by decide +kernel
theorem dX4_join_0 : decode cX4_join 0 = .ok (.aload_n 0, 1) := by decide +kernel
theorem dX4_join_1 : decode cX4_join 1 = .ok (.getfield 10, 3) := by decide +kernel
theorem dX4_join_4 : decode cX4_join 4 = .ok (.iload_n 1, 1) := by decide +kernel
theorem dX4_join_5 : decode cX4_join 5 = .ok (.invokevirtual 110, 3) := by decide +kernel
theorem dX4_join_8 : decode cX4_join 8 = .ok (.ifCond .eq 32, 3) := by decide +kernel
theorem dX4_join_11 : decode cX4_join 11 = .ok (.aload_n 0, 1) := by decide +kernel
theorem dX4_join_12 : decode cX4_join 12 = .ok (.getfield 10, 3) := by decide +kernel
theorem dX4_join_15 : decode cX4_join 15 = .ok (.iload_n 2, 1) := by decide +kernel
theorem dX4_join_16 : decode cX4_join 16 = .ok (.invokevirtual 110, 3) := by decide +kernel
theorem dX4_join_19 : decode cX4_join 19 = .ok (.ifCond .eq 21, 3) := by decide +kernel
theorem dX4_join_22 : decode cX4_join 22 = .ok (.iload_n 1, 1) := by decide +kernel
theorem dX4_join_23 : decode cX4_join 23 = .ok (.iload_n 2, 1) := by decide +kernel
theorem dX4_join_24 : decode cX4_join 24 = .ok (.if_icmp .eq 16, 3) := by decide +kernel
theorem dX4_join_27 : decode cX4_join 27 = .ok (.aload_n 0, 1) := by decide +kernel
theorem dX4_join_28 : decode cX4_join 28 = .ok (.getfield 10, 3) := by decide +kernel
theorem dX4_join_31 : decode cX4_join 31 = .ok (.iload_n 1, 1) := by decide +kernel
theorem dX4_join_32 : decode cX4_join 32 = .ok (.iload_n 2, 1) := by decide +kernel
theorem dX4_join_33 : decode cX4_join 33 = .ok (.invokevirtual 208, 3) := by decide +kernel
theorem dX4_join_36 : decode cX4_join 36 = .ok (.iload_n 3, 1) := by decide +kernel
theorem dX4_join_37 : decode cX4_join 37 = .ok (.if_icmp .ne 5, 3) := by decide +kernel
theorem dX4_join_40 : decode cX4_join 40 = .ok (.iconst (-1), 1) := by decide +kernel
theorem dX4_join_41 : decode cX4_join 41 = .ok (.ireturn, 1) := by decide +kernel
theorem dX4_join_42 : decode cX4_join 42 = .ok (.aload_n 0, 1) := by decide +kernel
theorem dX4_join_43 : decode cX4_join 43 = .ok (.getfield 25, 3) := by decide +kernel
theorem dX4_join_46 : decode cX4_join 46 = .ok (.aload_n 0, 1) := by decide +kernel
theorem dX4_join_47 : decode cX4_join 47 = .ok (.getfield 10, 3) := by decide +kernel
theorem dX4_join_50 : decode cX4_join 50 = .ok (.iconst 4, 1) := by decide +kernel
theorem dX4_join_51 : decode cX4_join 51 = .ok (.invokevirtual 120, 3) := by decide +kernel
theorem dX4_join_54 : decode cX4_join 54 = .ok (.aload_n 0, 1) := by decide +kernel
theorem dX4_join_55 : decode cX4_join 55 = .ok (.getfield 10, 3) := by decide +kernel
theorem dX4_join_58 : decode cX4_join 58 = .ok (.iload_n 1, 1) := by decide +kernel
theorem dX4_join_59 : decode cX4_join 59 = .ok (.iload_n 2, 1) := by decide +kernel
theorem dX4_join_60 : decode cX4_join 60 = .ok (.invokevirtual 212, 3) := by decide +kernel
theorem dX4_join_63 : decode cX4_join 63 = .ok (.aload_n 0, 1) := by decide +kernel
theorem dX4_join_64 : decode cX4_join 64 = .ok (.getfield 10, 3) := by decide +kernel
theorem dX4_join_67 : decode cX4_join 67 = .ok (.invokevirtual 96, 3) := by decide +kernel
theorem dX4_join_70 : decode cX4_join 70 = .ok (.ireturn, 1) := by decide +kernel
theorem dX4_name_0 : decode cX4_name 0 = .ok (.aload_n 0, 1) := by decide +kernel
theorem dX4_name_1 : decode cX4_name 1 = .ok (.getfield 10, 3) := by decide +kernel
theorem dX4_name_4 : decode cX4_name 4 = .ok (.iload_n 1, 1) := by decide +kernel
theorem dX4_name_5 : decode cX4_name 5 = .ok (.invokevirtual 110, 3) := by decide +kernel
theorem dX4_name_8 : decode cX4_name 8 = .ok (.ifCond .eq 19, 3) := by decide +kernel
theorem dX4_name_11 : decode cX4_name 11 = .ok (.aload_n 0, 1) := by decide +kernel
theorem dX4_name_12 : decode cX4_name 12 = .ok (.getfield 10, 3) := by decide +kernel
theorem dX4_name_15 : decode cX4_name 15 = .ok (.iload_n 2, 1) := by decide +kernel
theorem dX4_name_16 : decode cX4_name 16 = .ok (.invokevirtual 110, 3) := by decide +kernel
theorem dX4_name_19 : decode cX4_name 19 = .ok (.ifCond .eq 8, 3) := by decide +kernel
theorem dX4_name_22 : decode cX4_name 22 = .ok (.iload_n 1, 1) := by decide +kernel
theorem dX4_name_23 : decode cX4_name 23 = .ok (.iload_n 2, 1) := by decide +kernel
theorem dX4_name_24 : decode cX4_name 24 = .ok (.if_icmp .ne 5, 3) := by decide +kernel
theorem dX4_name_27 : decode cX4_name 27 = .ok (.iconst (-1), 1) := by decide +kernel
theorem dX4_name_28 : decode cX4_name 28 = .ok (.ireturn, 1) := by decide +kernel
theorem dX4_name_29 : decode cX4_name 29 = .ok (.aload_n 0, 1) := by decide +kernel
theorem dX4_name_30 : decode cX4_name 30 = .ok (.getfield 25, 3) := by decide +kernel
theorem dX4_name_33 : decode cX4_name 33 = .ok (.iload_n 1, 1) := by decide +kernel
theorem dX4_name_34 : decode cX4_name 34 = .ok (.iload_n 2, 1) := by decide +kernel
theorem dX4_name_35 : decode cX4_name 35 = .ok (.invokevirtual 215, 3) := by decide +kernel
theorem dX4_name_38 : decode cX4_name 38 = .ok (.aload_n 0, 1) := by decide +kernel
theorem dX4_name_39 : decode cX4_name 39 = .ok (.getfield 10, 3) := by decide +kernel
theorem dX4_name_42 : decode cX4_name 42 = .ok (.iload_n 1, 1) := by decide +kernel
theorem dX4_name_43 : decode cX4_name 43 = .ok (.iload_n 2, 1) := by decide +kernel
theorem dX4_name_44 : decode cX4_name 44 = .ok (.invokevirtual 218, 3) := by decide +kernel
theorem dX4_name_47 : decode cX4_name 47 = .ok (.aload_n 0, 1) := by decide +kernel
theorem dX4_name_48 : decode cX4_name 48 = .ok (.getfield 10, 3) := by decide +kernel
theorem dX4_name_51 : decode cX4_name 51 = .ok (.iload_n 1, 1) := by decide +kernel
theorem dX4_name_52 : decode cX4_name 52 = .ok (.iload_n 2, 1) := by decide +kernel
theorem dX4_name_53 : decode cX4_name 53 = .ok (.invokevirtual 221, 3) := by decide +kernel
theorem dX4_name_56 : decode cX4_name 56 = .ok (.ireturn, 1) := by decide +kernel
theorem dX4_drawn_0 : decode cX4_drawn 0 = .ok (.iload_n 1, 1) := by decide +kernel
theorem dX4_drawn_1 : decode cX4_drawn 1 = .ok (.iconst 1, 1) := by decide +kernel
theorem dX4_drawn_2 : decode cX4_drawn 2 = .ok (.if_icmp .lt 9, 3) := by decide +kernel
theorem dX4_drawn_5 : decode cX4_drawn 5 = .ok (.iload_n 1, 1) := by decide +kernel
theorem dX4_drawn_6 : decode cX4_drawn 6 = .ok (.bipush 60, 2) := by decide +kernel
theorem dX4_drawn_8 : decode cX4_drawn 8 = .ok (.if_icmp .le 5, 3) := by decide +kernel
theorem dX4_drawn_11 : decode cX4_drawn 11 = .ok (.iconst (-1), 1) := by decide +kernel
theorem dX4_drawn_12 : decode cX4_drawn 12 = .ok (.ireturn, 1) := by decide +kernel
theorem dX4_drawn_13 : decode cX4_drawn 13 = .ok (.aload_n 0, 1) := by decide +kernel
theorem dX4_drawn_14 : decode cX4_drawn 14 = .ok (.getfield 10, 3) := by decide +kernel
theorem dX4_drawn_17 : decode cX4_drawn 17 = .ok (.getfield 92, 3) := by decide +kernel
theorem dX4_drawn_20 : decode cX4_drawn 20 = .ok (.ifCond .ne 5, 3) := by decide +kernel
theorem dX4_drawn_23 : decode cX4_drawn 23 = .ok (.iconst 0, 1) := by decide +kernel
theorem dX4_drawn_24 : decode cX4_drawn 24 = .ok (.ireturn, 1) := by decide +kernel
theorem dX4_drawn_25 : decode cX4_drawn 25 = .ok (.aload_n 0, 1) := by decide +kernel
theorem dX4_drawn_26 : decode cX4_drawn 26 = .ok (.getfield 25, 3) := by decide +kernel
theorem dX4_drawn_29 : decode cX4_drawn 29 = .ok (.aload_n 0, 1) := by decide +kernel
theorem dX4_drawn_30 : decode cX4_drawn 30 = .ok (.getfield 10, 3) := by decide +kernel
theorem dX4_drawn_33 : decode cX4_drawn 33 = .ok (.iconst 4, 1) := by decide +kernel
theorem dX4_drawn_34 : decode cX4_drawn 34 = .ok (.invokevirtual 120, 3) := by decide +kernel
theorem dX4_drawn_37 : decode cX4_drawn 37 = .ok (.iload_n 2, 1) := by decide +kernel
theorem dX4_drawn_38 : decode cX4_drawn 38 = .ok (.istore_n 3, 1) := by decide +kernel
theorem dX4_drawn_39 : decode cX4_drawn 39 = .ok (.iconst 0, 1) := by decide +kernel
theorem dX4_drawn_40 : decode cX4_drawn 40 = .ok (.istore 4, 2) := by decide +kernel
theorem dX4_drawn_42 : decode cX4_drawn 42 = .ok (.iload 4, 2) := by decide +kernel
theorem dX4_drawn_44 : decode cX4_drawn 44 = .ok (.iload_n 1, 1) := by decide +kernel
theorem dX4_drawn_45 : decode cX4_drawn 45 = .ok (.if_icmp .ge 15, 3) := by decide +kernel
theorem dX4_drawn_48 : decode cX4_drawn 48 = .ok (.aload_n 0, 1) := by decide +kernel
theorem dX4_drawn_49 : decode cX4_drawn 49 = .ok (.iload_n 3, 1) := by decide +kernel
theorem dX4_drawn_50 : decode cX4_drawn 50 = .ok (.invokevirtual 224, 3) := by decide +kernel
theorem dX4_drawn_53 : decode cX4_drawn 53 = .ok (.istore_n 3, 1) := by decide +kernel
theorem dX4_drawn_54 : decode cX4_drawn 54 = .ok (.iinc 4 1, 3) := by decide +kernel
theorem dX4_drawn_57 : decode cX4_drawn 57 = .ok (.goto (-15), 3) := by decide +kernel
theorem dX4_drawn_60 : decode cX4_drawn 60 = .ok (.aload_n 0, 1) := by decide +kernel
theorem dX4_drawn_61 : decode cX4_drawn 61 = .ok (.getfield 10, 3) := by decide +kernel
theorem dX4_drawn_64 : decode cX4_drawn 64 = .ok (.invokevirtual 93, 3) := by decide +kernel
theorem dX4_drawn_67 : decode cX4_drawn 67 = .ok (.ireturn, 1) := by decide +kernel
theorem dX4_undo_0 : decode cX4_undo 0 = .ok (.aload_n 0, 1) := by decide +kernel
theorem dX4_undo_1 : decode cX4_undo 1 = .ok (.getfield 25, 3) := by decide +kernel
theorem dX4_undo_4 : decode cX4_undo 4 = .ok (.getfield 99, 3) := by decide +kernel
theorem dX4_undo_7 : decode cX4_undo 7 = .ok (.ifCond .ne 5, 3) := by decide +kernel
theorem dX4_undo_10 : decode cX4_undo 10 = .ok (.iconst (-1), 1) := by decide +kernel
theorem dX4_undo_11 : decode cX4_undo 11 = .ok (.ireturn, 1) := by decide +kernel
theorem dX4_undo_12 : decode cX4_undo 12 = .ok (.aload_n 0, 1) := by decide +kernel
theorem dX4_undo_13 : decode cX4_undo 13 = .ok (.getfield 25, 3) := by decide +kernel
theorem dX4_undo_16 : decode cX4_undo 16 = .ok (.aload_n 0, 1) := by decide +kernel
theorem dX4_undo_17 : decode cX4_undo 17 = .ok (.getfield 10, 3) := by decide +kernel
theorem dX4_undo_20 : decode cX4_undo 20 = .ok (.invokevirtual 227, 3) := by decide +kernel
theorem dX4_undo_23 : decode cX4_undo 23 = .ok (.aload_n 0, 1) := by decide +kernel
theorem dX4_undo_24 : decode cX4_undo 24 = .ok (.getfield 25, 3) := by decide +kernel
theorem dX4_undo_27 : decode cX4_undo 27 = .ok (.getfield 99, 3) := by decide +kernel
theorem dX4_undo_30 : decode cX4_undo 30 = .ok (.ireturn, 1) := by decide +kernel
theorem dX4_image_0 : decode cX4_image 0 = .ok (.iload_n 1, 1) := by decide +kernel
theorem dX4_image_1 : decode cX4_image 1 = .ok (.ifCond .lt 8, 3) := by decide +kernel
theorem dX4_image_4 : decode cX4_image 4 = .ok (.iload_n 1, 1) := by decide +kernel
theorem dX4_image_5 : decode cX4_image 5 = .ok (.iconst 1, 1) := by decide +kernel
theorem dX4_image_6 : decode cX4_image 6 = .ok (.if_icmp .le 5, 3) := by decide +kernel
theorem dX4_image_9 : decode cX4_image 9 = .ok (.iconst 0, 1) := by decide +kernel
theorem dX4_image_10 : decode cX4_image 10 = .ok (.ireturn, 1) := by decide +kernel
theorem dX4_image_11 : decode cX4_image 11 = .ok (.iload_n 1, 1) := by decide +kernel
theorem dX4_image_12 : decode cX4_image 12 = .ok (.ifCond .ne 10, 3) := by decide +kernel
theorem dX4_image_15 : decode cX4_image 15 = .ok (.aload_n 0, 1) := by decide +kernel
theorem dX4_image_16 : decode cX4_image 16 = .ok (.getfield 16, 3) := by decide +kernel
theorem dX4_image_19 : decode cX4_image 19 = .ok (.goto 7, 3) := by decide +kernel
theorem dX4_image_22 : decode cX4_image 22 = .ok (.aload_n 0, 1) := by decide +kernel
theorem dX4_image_23 : decode cX4_image 23 = .ok (.getfield 19, 3) := by decide +kernel
theorem dX4_image_26 : decode cX4_image 26 = .ok (.astore_n 2, 1) := by decide +kernel
theorem dX4_image_27 : decode cX4_image 27 = .ok (.aload_n 2, 1) := by decide +kernel
theorem dX4_image_28 : decode cX4_image 28 = .ok (.aload_n 0, 1) := by decide +kernel
theorem dX4_image_29 : decode cX4_image 29 = .ok (.getfield 10, 3) := by decide +kernel
theorem dX4_image_32 : decode cX4_image 32 = .ok (.invokevirtual 231, 3) := by decide +kernel
theorem dX4_image_35 : decode cX4_image 35 = .ok (.aload_n 2, 1) := by decide +kernel
theorem dX4_image_36 : decode cX4_image 36 = .ok (.iconst 1, 1) := by decide +kernel
theorem dX4_image_37 : decode cX4_image 37 = .ok (.putfield 234, 3) := by decide +kernel
theorem dX4_image_40 : decode cX4_image 40 = .ok (.iconst 1, 1) := by decide +kernel
theorem dX4_image_41 : decode cX4_image 41 = .ok (.ireturn, 1) := by decide +kernel
theorem dX4_restore_0 : decode cX4_restore 0 = .ok (.iload_n 1, 1) := by decide +kernel
theorem dX4_restore_1 : decode cX4_restore 1 = .ok (.ifCond .lt 8, 3) := by decide +kernel
theorem dX4_restore_4 : decode cX4_restore 4 = .ok (.iload_n 1, 1) := by decide +kernel
theorem dX4_restore_5 : decode cX4_restore 5 = .ok (.iconst 1, 1) := by decide +kernel
theorem dX4_restore_6 : decode cX4_restore 6 = .ok (.if_icmp .le 5, 3) := by decide +kernel
theorem dX4_restore_9 : decode cX4_restore 9 = .ok (.iconst 0, 1) := by decide +kernel
theorem dX4_restore_10 : decode cX4_restore 10 = .ok (.ireturn, 1) := by decide +kernel
theorem dX4_restore_11 : decode cX4_restore 11 = .ok (.iload_n 1, 1) := by decide +kernel
theorem dX4_restore_12 : decode cX4_restore 12 = .ok (.ifCond .ne 10, 3) := by decide +kernel
theorem dX4_restore_15 : decode cX4_restore 15 = .ok (.aload_n 0, 1) := by decide +kernel
theorem dX4_restore_16 : decode cX4_restore 16 = .ok (.getfield 16, 3) := by decide +kernel
theorem dX4_restore_19 : decode cX4_restore 19 = .ok (.goto 7, 3) := by decide +kernel
theorem dX4_restore_22 : decode cX4_restore 22 = .ok (.aload_n 0, 1) := by decide +kernel
theorem dX4_restore_23 : decode cX4_restore 23 = .ok (.getfield 19, 3) := by decide +kernel
theorem dX4_restore_26 : decode cX4_restore 26 = .ok (.astore_n 2, 1) := by decide +kernel
theorem dX4_restore_27 : decode cX4_restore 27 = .ok (.aload_n 2, 1) := by decide +kernel
theorem dX4_restore_28 : decode cX4_restore 28 = .ok (.getfield 234, 3) := by decide +kernel
theorem dX4_restore_31 : decode cX4_restore 31 = .ok (.ifCond .ne 5, 3) := by decide +kernel
theorem dX4_restore_34 : decode cX4_restore 34 = .ok (.iconst 0, 1) := by decide +kernel
theorem dX4_restore_35 : decode cX4_restore 35 = .ok (.ireturn, 1) := by decide +kernel
theorem dX4_restore_36 : decode cX4_restore 36 = .ok (.aload_n 0, 1) := by decide +kernel
theorem dX4_restore_37 : decode cX4_restore 37 = .ok (.getfield 10, 3) := by decide +kernel
theorem dX4_restore_40 : decode cX4_restore 40 = .ok (.aload_n 2, 1) := by decide +kernel
theorem dX4_restore_41 : decode cX4_restore 41 = .ok (.invokevirtual 231, 3) := by decide +kernel
theorem dX4_restore_44 : decode cX4_restore 44 = .ok (.aload_n 0, 1) := by decide +kernel
theorem dX4_restore_45 : decode cX4_restore 45 = .ok (.getfield 25, 3) := by decide +kernel
theorem dX4_restore_48 : decode cX4_restore 48 = .ok (.invokevirtual 89, 3) := by decide +kernel
theorem dX4_restore_51 : decode cX4_restore 51 = .ok (.iconst 1, 1) := by decide +kernel
theorem dX4_restore_52 : decode cX4_restore 52 = .ok (.ireturn, 1) := by decide +kernel
theorem dX4_settle_0 : decode cX4_settle 0 = .ok (.aload_n 0, 1) := by decide +kernel
theorem dX4_settle_1 : decode cX4_settle 1 = .ok (.getfield 25, 3) := by decide +kernel
theorem dX4_settle_4 : decode cX4_settle 4 = .ok (.aload_n 0, 1) := by decide +kernel
theorem dX4_settle_5 : decode cX4_settle 5 = .ok (.getfield 10, 3) := by decide +kernel
theorem dX4_settle_8 : decode cX4_settle 8 = .ok (.iload_n 2, 1) := by decide +kernel
theorem dX4_settle_9 : decode cX4_settle 9 = .ok (.invokevirtual 120, 3) := by decide +kernel
theorem dX4_settle_12 : decode cX4_settle 12 = .ok (.aload_n 1, 1) := by decide +kernel
theorem dX4_settle_13 : decode cX4_settle 13 = .ok (.iconst 0, 1) := by decide +kernel
theorem dX4_settle_14 : decode cX4_settle 14 = .ok (.aload_n 0, 1) := by decide +kernel
theorem dX4_settle_15 : decode cX4_settle 15 = .ok (.getfield 10, 3) := by decide +kernel
theorem dX4_settle_18 : decode cX4_settle 18 = .ok (.getfield 106, 3) := by decide +kernel
theorem dX4_settle_21 : decode cX4_settle 21 = .ok (.iload_n 2, 1) := by decide +kernel
theorem dX4_settle_22 : decode cX4_settle 22 = .ok (.aaload, 1) := by decide +kernel
theorem dX4_settle_23 : decode cX4_settle 23 = .ok (.iconst 0, 1) := by decide +kernel
theorem dX4_settle_24 : decode cX4_settle 24 = .ok (.aload_n 0, 1) := by decide +kernel
theorem dX4_settle_25 : decode cX4_settle 25 = .ok (.getfield 10, 3) := by decide +kernel
theorem dX4_settle_28 : decode cX4_settle 28 = .ok (.invokevirtual 132, 3) := by decide +kernel
theorem dX4_settle_31 : decode cX4_settle 31 = .ok (.invokestatic 238, 3) := by decide +kernel
theorem dX4_settle_34 : decode cX4_settle 34 = .ok (.aload_n 0, 1) := by decide +kernel
theorem dX4_settle_35 : decode cX4_settle 35 = .ok (.getfield 10, 3) := by decide +kernel
theorem dX4_settle_38 : decode cX4_settle 38 = .ok (.getfield 106, 3) := by decide +kernel
theorem dX4_settle_41 : decode cX4_settle 41 = .ok (.iload_n 2, 1) := by decide +kernel
theorem dX4_settle_42 : decode cX4_settle 42 = .ok (.aaload, 1) := by decide +kernel
theorem dX4_settle_43 : decode cX4_settle 43 = .ok (.aload_n 0, 1) := by decide +kernel
theorem dX4_settle_44 : decode cX4_settle 44 = .ok (.getfield 10, 3) := by decide +kernel
theorem dX4_settle_47 : decode cX4_settle 47 = .ok (.invokevirtual 244, 3) := by decide +kernel
theorem dX4_settle_50 : decode cX4_settle 50 = .ok (.iaload, 1) := by decide +kernel
theorem dX4_settle_51 : decode cX4_settle 51 = .ok (.ireturn, 1) := by decide +kernel
theorem dX4_composeRow_0 : decode cX4_composeRow 0 = .ok (.aload_n 0, 1) := by decide +kernel
theorem dX4_composeRow_1 : decode cX4_composeRow 1 = .ok (.getfield 39, 3) := by decide +kernel
theorem dX4_composeRow_4 : decode cX4_composeRow 4 = .ok (.aload_n 0, 1) := by decide +kernel
theorem dX4_composeRow_5 : decode cX4_composeRow 5 = .ok (.getfield 10, 3) := by decide +kernel
theorem dX4_composeRow_8 : decode cX4_composeRow 8 = .ok (.getfield 106, 3) := by decide +kernel
theorem dX4_composeRow_11 : decode cX4_composeRow 11 = .ok (.iload_n 1, 1) := by decide +kernel
theorem dX4_composeRow_12 : decode cX4_composeRow 12 = .ok (.aaload, 1) := by decide +kernel
theorem dX4_composeRow_13 : decode cX4_composeRow 13 = .ok (.aload_n 0, 1) := by decide +kernel
theorem dX4_composeRow_14 : decode cX4_composeRow 14 = .ok (.getfield 10, 3) := by decide +kernel
theorem dX4_composeRow_17 : decode cX4_composeRow 17 = .ok (.getfield 92, 3) := by decide +kernel
theorem dX4_composeRow_20 : decode cX4_composeRow 20 = .ok (.iconst 0, 1) := by decide +kernel
theorem dX4_composeRow_21 : decode cX4_composeRow 21 = .ok (.invokevirtual 178, 3) := by decide +kernel
theorem dX4_composeRow_24 : decode cX4_composeRow 24 = .ok (.iconst 0, 1) := by decide +kernel
theorem dX4_composeRow_25 : decode cX4_composeRow 25 = .ok (.istore_n 3, 1) := by decide +kernel
theorem dX4_composeRow_26 : decode cX4_composeRow 26 = .ok (.iload_n 3, 1) := by decide +kernel
theorem dX4_composeRow_27 : decode cX4_composeRow 27 = .ok (.aload_n 0, 1) := by decide +kernel
theorem dX4_composeRow_28 : decode cX4_composeRow 28 = .ok (.getfield 10, 3) := by decide +kernel
theorem dX4_composeRow_31 : decode cX4_composeRow 31 = .ok (.invokevirtual 132, 3) := by decide +kernel
theorem dX4_composeRow_34 : decode cX4_composeRow 34 = .ok (.if_icmp .ge 25, 3) := by decide +kernel
theorem dX4_composeRow_37 : decode cX4_composeRow 37 = .ok (.aload_n 0, 1) := by decide +kernel
theorem dX4_composeRow_38 : decode cX4_composeRow 38 = .ok (.getfield 43, 3) := by decide +kernel
theorem dX4_composeRow_41 : decode cX4_composeRow 41 = .ok (.iload_n 3, 1) := by decide +kernel
theorem dX4_composeRow_42 : decode cX4_composeRow 42 = .ok (.aload_n 0, 1) := by decide +kernel
theorem dX4_composeRow_43 : decode cX4_composeRow 43 = .ok (.getfield 39, 3) := by decide +kernel
theorem dX4_composeRow_46 : decode cX4_composeRow 46 = .ok (.getfield 182, 3) := by decide +kernel
theorem dX4_composeRow_49 : decode cX4_composeRow 49 = .ok (.iload_n 3, 1) := by decide +kernel
theorem dX4_composeRow_50 : decode cX4_composeRow 50 = .ok (.laload, 1) := by decide +kernel
theorem dX4_composeRow_51 : decode cX4_composeRow 51 = .ok (.l2i, 1) := by decide +kernel
theorem dX4_composeRow_52 : decode cX4_composeRow 52 = .ok (.iastore, 1) := by decide +kernel
theorem dX4_composeRow_53 : decode cX4_composeRow 53 = .ok (.iinc 3 1, 3) := by decide +kernel
theorem dX4_composeRow_56 : decode cX4_composeRow 56 = .ok (.goto (-30), 3) := by decide +kernel
theorem dX4_composeRow_59 : decode cX4_composeRow 59 = .ok (.aload_n 0, 1) := by decide +kernel
theorem dX4_composeRow_60 : decode cX4_composeRow 60 = .ok (.aload_n 0, 1) := by decide +kernel
theorem dX4_composeRow_61 : decode cX4_composeRow 61 = .ok (.getfield 43, 3) := by decide +kernel
theorem dX4_composeRow_64 : decode cX4_composeRow 64 = .ok (.iload_n 2, 1) := by decide +kernel
theorem dX4_composeRow_65 : decode cX4_composeRow 65 = .ok (.invokevirtual 135, 3) := by decide +kernel
theorem dX4_composeRow_68 : decode cX4_composeRow 68 = .ok (.ireturn, 1) := by decide +kernel
theorem dX4_transformRow_0 : decode cX4_transformRow 0 = .ok (.aload_n 0, 1) := by decide +kernel
theorem dX4_transformRow_1 : decode cX4_transformRow 1 = .ok (.getfield 10, 3) := by decide +kernel
theorem dX4_transformRow_4 : decode cX4_transformRow 4 = .ok (.iload_n 1, 1) := by decide +kernel
theorem dX4_transformRow_5 : decode cX4_transformRow 5 = .ok (.invokevirtual 117, 3) := by decide +kernel
theorem dX4_transformRow_8 : decode cX4_transformRow 8 = .ok (.ifCond .ne 5, 3) := by decide +kernel
theorem dX4_transformRow_11 : decode cX4_transformRow 11 = .ok (.iconst (-1), 1) := by decide +kernel
theorem dX4_transformRow_12 : decode cX4_transformRow 12 = .ok (.ireturn, 1) := by decide +kernel
theorem dX4_transformRow_13 : decode cX4_transformRow 13 = .ok (.aload_n 0, 1) := by decide +kernel
theorem dX4_transformRow_14 : decode cX4_transformRow 14 = .ok (.getfield 25, 3) := by decide +kernel
theorem dX4_transformRow_17 : decode cX4_transformRow 17 = .ok (.aload_n 0, 1) := by decide +kernel
theorem dX4_transformRow_18 : decode cX4_transformRow 18 = .ok (.getfield 10, 3) := by decide +kernel
theorem dX4_transformRow_21 : decode cX4_transformRow 21 = .ok (.iload_n 1, 1) := by decide +kernel
theorem dX4_transformRow_22 : decode cX4_transformRow 22 = .ok (.invokevirtual 120, 3) := by decide +kernel
theorem dX4_transformRow_25 : decode cX4_transformRow 25 = .ok (.aload_n 0, 1) := by decide +kernel
theorem dX4_transformRow_26 : decode cX4_transformRow 26 = .ok (.getfield 10, 3) := by decide +kernel
theorem dX4_transformRow_29 : decode cX4_transformRow 29 = .ok (.getfield 106, 3) := by decide +kernel
theorem dX4_transformRow_32 : decode cX4_transformRow 32 = .ok (.iload_n 1, 1) := by decide +kernel
theorem dX4_transformRow_33 : decode cX4_transformRow 33 = .ok (.aaload, 1) := by decide +kernel
theorem dX4_transformRow_34 : decode cX4_transformRow 34 = .ok (.aload_n 0, 1) := by decide +kernel
theorem dX4_transformRow_35 : decode cX4_transformRow 35 = .ok (.getfield 10, 3) := by decide +kernel
theorem dX4_transformRow_38 : decode cX4_transformRow 38 = .ok (.getfield 92, 3) := by decide +kernel
theorem dX4_transformRow_41 : decode cX4_transformRow 41 = .ok (.iload_n 2, 1) := by decide +kernel
theorem dX4_transformRow_42 : decode cX4_transformRow 42 = .ok (.ifCond .eq 7, 3) := by decide +kernel
theorem dX4_transformRow_45 : decode cX4_transformRow 45 = .ok (.iconst 2, 1) := by decide +kernel
theorem dX4_transformRow_46 : decode cX4_transformRow 46 = .ok (.goto 4, 3) := by decide +kernel
theorem dX4_transformRow_49 : decode cX4_transformRow 49 = .ok (.iconst 1, 1) := by decide +kernel
theorem dX4_transformRow_50 : decode cX4_transformRow 50 = .ok (.iload_n 3, 1) := by decide +kernel
theorem dX4_transformRow_51 : decode cX4_transformRow 51 = .ok (.invokestatic 168, 3) := by decide +kernel
theorem dX4_transformRow_54 : decode cX4_transformRow 54 = .ok (.aload_n 0, 1) := by decide +kernel
theorem dX4_transformRow_55 : decode cX4_transformRow 55 = .ok (.getfield 10, 3) := by decide +kernel
theorem dX4_transformRow_58 : decode cX4_transformRow 58 = .ok (.getfield 106, 3) := by decide +kernel
theorem dX4_transformRow_61 : decode cX4_transformRow 61 = .ok (.iload_n 1, 1) := by decide +kernel
theorem dX4_transformRow_62 : decode cX4_transformRow 62 = .ok (.aaload, 1) := by decide +kernel
theorem dX4_transformRow_63 : decode cX4_transformRow 63 = .ok (.iload_n 2, 1) := by decide +kernel
theorem dX4_transformRow_64 : decode cX4_transformRow 64 = .ok (.ifCond .eq 7, 3) := by decide +kernel
theorem dX4_transformRow_67 : decode cX4_transformRow 67 = .ok (.iconst 0, 1) := by decide +kernel
theorem dX4_transformRow_68 : decode cX4_transformRow 68 = .ok (.goto 10, 3) := by decide +kernel
theorem dX4_transformRow_71 : decode cX4_transformRow 71 = .ok (.aload_n 0, 1) := by decide +kernel
theorem dX4_transformRow_72 : decode cX4_transformRow 72 = .ok (.getfield 10, 3) := by decide +kernel
theorem dX4_transformRow_75 : decode cX4_transformRow 75 = .ok (.invokevirtual 244, 3) := by decide +kernel
theorem dX4_transformRow_78 : decode cX4_transformRow 78 = .ok (.iaload, 1) := by decide +kernel
theorem dX4_transformRow_79 : decode cX4_transformRow 79 = .ok (.ireturn, 1) := by decide +kernel
theorem dX4_multiplyApart_0 : decode cX4_multiplyApart 0 = .ok (.iconst 0, 1) := by decide +kernel
theorem dX4_multiplyApart_1 : decode cX4_multiplyApart 1 = .ok (.istore_n 3, 1) := by decide +kernel
theorem dX4_multiplyApart_2 : decode cX4_multiplyApart 2 = .ok (.iload_n 3, 1) := by decide +kernel
theorem dX4_multiplyApart_3 : decode cX4_multiplyApart 3 = .ok (.aload_n 0, 1) := by decide +kernel
theorem dX4_multiplyApart_4 : decode cX4_multiplyApart 4 = .ok (.getfield 10, 3) := by decide +kernel
theorem dX4_multiplyApart_7 : decode cX4_multiplyApart 7 = .ok (.invokevirtual 132, 3) := by decide +kernel
theorem dX4_multiplyApart_10 : decode cX4_multiplyApart 10 = .ok (.if_icmp .ge 68, 3) := by decide +kernel
theorem dX4_multiplyApart_13 : decode cX4_multiplyApart 13 = .ok (.aload_n 1, 1) := by decide +kernel
theorem dX4_multiplyApart_14 : decode cX4_multiplyApart 14 = .ok (.iconst 0, 1) := by decide +kernel
theorem dX4_multiplyApart_15 : decode cX4_multiplyApart 15 = .ok (.iaload, 1) := by decide +kernel
theorem dX4_multiplyApart_16 : decode cX4_multiplyApart 16 = .ok (.i2l, 1) := by decide +kernel
theorem dX4_multiplyApart_17 : decode cX4_multiplyApart 17 = .ok (.aload_n 2, 1) := by decide +kernel
theorem dX4_multiplyApart_18 : decode cX4_multiplyApart 18 = .ok (.iload_n 3, 1) := by decide +kernel
theorem dX4_multiplyApart_19 : decode cX4_multiplyApart 19 = .ok (.iaload, 1) := by decide +kernel
theorem dX4_multiplyApart_20 : decode cX4_multiplyApart 20 = .ok (.i2l, 1) := by decide +kernel
theorem dX4_multiplyApart_21 : decode cX4_multiplyApart 21 = .ok (.lmul, 1) := by decide +kernel
theorem dX4_multiplyApart_22 : decode cX4_multiplyApart 22 = .ok (.lstore 4, 2) := by decide +kernel
theorem dX4_multiplyApart_24 : decode cX4_multiplyApart 24 = .ok (.iload_n 3, 1) := by decide +kernel
theorem dX4_multiplyApart_25 : decode cX4_multiplyApart 25 = .ok (.istore 6, 2) := by decide +kernel
theorem dX4_multiplyApart_27 : decode cX4_multiplyApart 27 = .ok (.iload 6, 2) := by decide +kernel
theorem dX4_multiplyApart_29 : decode cX4_multiplyApart 29 = .ok (.ifCond .le 32, 3) := by decide +kernel
theorem dX4_multiplyApart_32 : decode cX4_multiplyApart 32 = .ok (.lload 4, 2) := by decide +kernel
theorem dX4_multiplyApart_34 : decode cX4_multiplyApart 34 = .ok (.aload_n 1, 1) := by decide +kernel
theorem dX4_multiplyApart_35 : decode cX4_multiplyApart 35 = .ok (.iload 6, 2) := by decide +kernel
theorem dX4_multiplyApart_37 : decode cX4_multiplyApart 37 = .ok (.iaload, 1) := by decide +kernel
theorem dX4_multiplyApart_38 : decode cX4_multiplyApart 38 = .ok (.i2l, 1) := by decide +kernel
theorem dX4_multiplyApart_39 : decode cX4_multiplyApart 39 = .ok (.aload_n 2, 1) := by decide +kernel
theorem dX4_multiplyApart_40 : decode cX4_multiplyApart 40 = .ok (.iload_n 3, 1) := by decide +kernel
theorem dX4_multiplyApart_41 : decode cX4_multiplyApart 41 = .ok (.iload 6, 2) := by decide +kernel
theorem dX4_multiplyApart_43 : decode cX4_multiplyApart 43 = .ok (.ixor, 1) := by decide +kernel
theorem dX4_multiplyApart_44 : decode cX4_multiplyApart 44 = .ok (.iaload, 1) := by decide +kernel
theorem dX4_multiplyApart_45 : decode cX4_multiplyApart 45 = .ok (.i2l, 1) := by decide +kernel
theorem dX4_multiplyApart_46 : decode cX4_multiplyApart 46 = .ok (.lmul, 1) := by decide +kernel
theorem dX4_multiplyApart_47 : decode cX4_multiplyApart 47 = .ok (.ladd, 1) := by decide +kernel
theorem dX4_multiplyApart_48 : decode cX4_multiplyApart 48 = .ok (.lstore 4, 2) := by decide +kernel
theorem dX4_multiplyApart_50 : decode cX4_multiplyApart 50 = .ok (.iload 6, 2) := by decide +kernel
theorem dX4_multiplyApart_52 : decode cX4_multiplyApart 52 = .ok (.iconst 1, 1) := by decide +kernel
theorem dX4_multiplyApart_53 : decode cX4_multiplyApart 53 = .ok (.isub, 1) := by decide +kernel
theorem dX4_multiplyApart_54 : decode cX4_multiplyApart 54 = .ok (.iload_n 3, 1) := by decide +kernel
theorem dX4_multiplyApart_55 : decode cX4_multiplyApart 55 = .ok (.iand, 1) := by decide +kernel
theorem dX4_multiplyApart_56 : decode cX4_multiplyApart 56 = .ok (.istore 6, 2) := by decide +kernel
theorem dX4_multiplyApart_58 : decode cX4_multiplyApart 58 = .ok (.goto (-31), 3) := by decide +kernel
theorem dX4_multiplyApart_61 : decode cX4_multiplyApart 61 = .ok (.aload_n 0, 1) := by decide +kernel
theorem dX4_multiplyApart_62 : decode cX4_multiplyApart 62 = .ok (.getfield 43, 3) := by decide +kernel
theorem dX4_multiplyApart_65 : decode cX4_multiplyApart 65 = .ok (.iload_n 3, 1) := by decide +kernel
theorem dX4_multiplyApart_66 : decode cX4_multiplyApart 66 = .ok (.lload 4, 2) := by decide +kernel
theorem dX4_multiplyApart_68 : decode cX4_multiplyApart 68 = .ok (.invokestatic 124, 3) := by decide +kernel
theorem dX4_multiplyApart_71 : decode cX4_multiplyApart 71 = .ok (.iastore, 1) := by decide +kernel
theorem dX4_multiplyApart_72 : decode cX4_multiplyApart 72 = .ok (.iinc 3 1, 3) := by decide +kernel
theorem dX4_multiplyApart_75 : decode cX4_multiplyApart 75 = .ok (.goto (-73), 3) := by decide +kernel
theorem dX4_multiplyApart_78 : decode cX4_multiplyApart 78 = .ok (.return_, 1) := by decide +kernel
theorem dX4_multiplyTransformed_0 : decode cX4_multiplyTransformed 0 = .ok (.aload_n 1, 1) := by decide +kernel
theorem dX4_multiplyTransformed_1 : decode cX4_multiplyTransformed 1 = .ok (.iconst 0, 1) := by decide +kernel
theorem dX4_multiplyTransformed_2 : decode cX4_multiplyTransformed 2 = .ok (.aload_n 0, 1) := by decide +kernel
theorem dX4_multiplyTransformed_3 : decode cX4_multiplyTransformed 3 = .ok (.getfield 43, 3) := by decide +kernel
theorem dX4_multiplyTransformed_6 : decode cX4_multiplyTransformed 6 = .ok (.iconst 0, 1) := by decide +kernel
theorem dX4_multiplyTransformed_7 : decode cX4_multiplyTransformed 7 = .ok (.sipush 256, 3) := by decide +kernel
theorem dX4_multiplyTransformed_10 : decode cX4_multiplyTransformed 10 = .ok (.invokestatic 238, 3) := by decide +kernel
theorem dX4_multiplyTransformed_13 : decode cX4_multiplyTransformed 13 = .ok (.aload_n 2, 1) := by decide +kernel
theorem dX4_multiplyTransformed_14 : decode cX4_multiplyTransformed 14 = .ok (.iconst 0, 1) := by decide +kernel
theorem dX4_multiplyTransformed_15 : decode cX4_multiplyTransformed 15 = .ok (.aload_n 0, 1) := by decide +kernel
theorem dX4_multiplyTransformed_16 : decode cX4_multiplyTransformed 16 = .ok (.getfield 47, 3) := by decide +kernel
theorem dX4_multiplyTransformed_19 : decode cX4_multiplyTransformed 19 = .ok (.iconst 0, 1) := by decide +kernel
theorem dX4_multiplyTransformed_20 : decode cX4_multiplyTransformed 20 = .ok (.sipush 256, 3) := by decide +kernel
theorem dX4_multiplyTransformed_23 : decode cX4_multiplyTransformed 23 = .ok (.invokestatic 238, 3) := by decide +kernel
theorem dX4_multiplyTransformed_26 : decode cX4_multiplyTransformed 26 = .ok (.aload_n 0, 1) := by decide +kernel
theorem dX4_multiplyTransformed_27 : decode cX4_multiplyTransformed 27 = .ok (.getfield 43, 3) := by decide +kernel
theorem dX4_multiplyTransformed_30 : decode cX4_multiplyTransformed 30 = .ok (.aload_n 0, 1) := by decide +kernel
theorem dX4_multiplyTransformed_31 : decode cX4_multiplyTransformed 31 = .ok (.getfield 10, 3) := by decide +kernel
theorem dX4_multiplyTransformed_34 : decode cX4_multiplyTransformed 34 = .ok (.getfield 92, 3) := by decide +kernel
theorem dX4_multiplyTransformed_37 : decode cX4_multiplyTransformed 37 = .ok (.iload_n 3, 1) := by decide +kernel
theorem dX4_multiplyTransformed_38 : decode cX4_multiplyTransformed 38 = .ok (.iconst 0, 1) := by decide +kernel
theorem dX4_multiplyTransformed_39 : decode cX4_multiplyTransformed 39 = .ok (.invokestatic 168, 3) := by decide +kernel
theorem dX4_multiplyTransformed_42 : decode cX4_multiplyTransformed 42 = .ok (.aload_n 0, 1) := by decide +kernel
theorem dX4_multiplyTransformed_43 : decode cX4_multiplyTransformed 43 = .ok (.getfield 47, 3) := by decide +kernel
theorem dX4_multiplyTransformed_46 : decode cX4_multiplyTransformed 46 = .ok (.aload_n 0, 1) := by decide +kernel
theorem dX4_multiplyTransformed_47 : decode cX4_multiplyTransformed 47 = .ok (.getfield 10, 3) := by decide +kernel
theorem dX4_multiplyTransformed_50 : decode cX4_multiplyTransformed 50 = .ok (.getfield 92, 3) := by decide +kernel
theorem dX4_multiplyTransformed_53 : decode cX4_multiplyTransformed 53 = .ok (.iload_n 3, 1) := by decide +kernel
theorem dX4_multiplyTransformed_54 : decode cX4_multiplyTransformed 54 = .ok (.iconst 0, 1) := by decide +kernel
theorem dX4_multiplyTransformed_55 : decode cX4_multiplyTransformed 55 = .ok (.invokestatic 168, 3) := by decide +kernel
theorem dX4_multiplyTransformed_58 : decode cX4_multiplyTransformed 58 = .ok (.iconst 0, 1) := by decide +kernel
theorem dX4_multiplyTransformed_59 : decode cX4_multiplyTransformed 59 = .ok (.istore 4, 2) := by decide +kernel
theorem dX4_multiplyTransformed_61 : decode cX4_multiplyTransformed 61 = .ok (.iload 4, 2) := by decide +kernel
theorem dX4_multiplyTransformed_63 : decode cX4_multiplyTransformed 63 = .ok (.aload_n 0, 1) := by decide +kernel
theorem dX4_multiplyTransformed_64 : decode cX4_multiplyTransformed 64 = .ok (.getfield 10, 3) := by decide +kernel
theorem dX4_multiplyTransformed_67 : decode cX4_multiplyTransformed 67 = .ok (.invokevirtual 132, 3) := by decide +kernel
theorem dX4_multiplyTransformed_70 : decode cX4_multiplyTransformed 70 = .ok (.if_icmp .ge 34, 3) := by decide +kernel
theorem dX4_multiplyTransformed_73 : decode cX4_multiplyTransformed 73 = .ok (.aload_n 0, 1) := by decide +kernel
theorem dX4_multiplyTransformed_74 : decode cX4_multiplyTransformed 74 = .ok (.getfield 43, 3) := by decide +kernel
theorem dX4_multiplyTransformed_77 : decode cX4_multiplyTransformed 77 = .ok (.iload 4, 2) := by decide +kernel
theorem dX4_multiplyTransformed_79 : decode cX4_multiplyTransformed 79 = .ok (.aload_n 0, 1) := by decide +kernel
theorem dX4_multiplyTransformed_80 : decode cX4_multiplyTransformed 80 = .ok (.getfield 43, 3) := by decide +kernel
theorem dX4_multiplyTransformed_83 : decode cX4_multiplyTransformed 83 = .ok (.iload 4, 2) := by decide +kernel
theorem dX4_multiplyTransformed_85 : decode cX4_multiplyTransformed 85 = .ok (.iaload, 1) := by decide +kernel
theorem dX4_multiplyTransformed_86 : decode cX4_multiplyTransformed 86 = .ok (.aload_n 0, 1) := by decide +kernel
theorem dX4_multiplyTransformed_87 : decode cX4_multiplyTransformed 87 = .ok (.getfield 47, 3) := by decide +kernel
theorem dX4_multiplyTransformed_90 : decode cX4_multiplyTransformed 90 = .ok (.iload 4, 2) := by decide +kernel
theorem dX4_multiplyTransformed_92 : decode cX4_multiplyTransformed 92 = .ok (.iaload, 1) := by decide +kernel
theorem dX4_multiplyTransformed_93 : decode cX4_multiplyTransformed 93 = .ok (.iload_n 3, 1) := by decide +kernel
theorem dX4_multiplyTransformed_94 : decode cX4_multiplyTransformed 94 = .ok (.invokestatic 247, 3) := by decide +kernel
theorem dX4_multiplyTransformed_97 : decode cX4_multiplyTransformed 97 = .ok (.iastore, 1) := by decide +kernel
theorem dX4_multiplyTransformed_98 : decode cX4_multiplyTransformed 98 = .ok (.iinc 4 1, 3) := by decide +kernel
theorem dX4_multiplyTransformed_101 : decode cX4_multiplyTransformed 101 = .ok (.goto (-40), 3) := by decide +kernel
theorem dX4_multiplyTransformed_104 : decode cX4_multiplyTransformed 104 = .ok (.aload_n 0, 1) := by decide +kernel
theorem dX4_multiplyTransformed_105 : decode cX4_multiplyTransformed 105 = .ok (.getfield 43, 3) := by decide +kernel
theorem dX4_multiplyTransformed_108 : decode cX4_multiplyTransformed 108 = .ok (.aload_n 0, 1) := by decide +kernel
theorem dX4_multiplyTransformed_109 : decode cX4_multiplyTransformed 109 = .ok (.getfield 10, 3) := by decide +kernel
theorem dX4_multiplyTransformed_112 : decode cX4_multiplyTransformed 112 = .ok (.getfield 92, 3) := by decide +kernel
theorem dX4_multiplyTransformed_115 : decode cX4_multiplyTransformed 115 = .ok (.iload_n 3, 1) := by decide +kernel
theorem dX4_multiplyTransformed_116 : decode cX4_multiplyTransformed 116 = .ok (.iconst 1, 1) := by decide +kernel
theorem dX4_multiplyTransformed_117 : decode cX4_multiplyTransformed 117 = .ok (.invokestatic 168, 3) := by decide +kernel
theorem dX4_multiplyTransformed_120 : decode cX4_multiplyTransformed 120 = .ok (.return_, 1) := by decide +kernel
theorem dX4_combine_0 : decode cX4_combine 0 = .ok (.iload_n 2, 1) := by decide +kernel
theorem dX4_combine_1 : decode cX4_combine 1 = .ok (.iconst 5, 1) := by decide +kernel
theorem dX4_combine_2 : decode cX4_combine 2 = .ok (.if_icmp .ne 12, 3) := by decide +kernel
theorem dX4_combine_5 : decode cX4_combine 5 = .ok (.iload_n 0, 1) := by decide +kernel
theorem dX4_combine_6 : decode cX4_combine 6 = .ok (.i2l, 1) := by decide +kernel
theorem dX4_combine_7 : decode cX4_combine 7 = .ok (.iload_n 1, 1) := by decide +kernel
theorem dX4_combine_8 : decode cX4_combine 8 = .ok (.i2l, 1) := by decide +kernel
theorem dX4_combine_9 : decode cX4_combine 9 = .ok (.ladd, 1) := by decide +kernel
theorem dX4_combine_10 : decode cX4_combine 10 = .ok (.invokestatic 124, 3) := by decide +kernel
theorem dX4_combine_13 : decode cX4_combine 13 = .ok (.ireturn, 1) := by decide +kernel
theorem dX4_combine_14 : decode cX4_combine 14 = .ok (.iload_n 2, 1) := by decide +kernel
theorem dX4_combine_15 : decode cX4_combine 15 = .ok (.bipush 6, 2) := by decide +kernel
theorem dX4_combine_17 : decode cX4_combine 17 = .ok (.if_icmp .ne 12, 3) := by decide +kernel
theorem dX4_combine_20 : decode cX4_combine 20 = .ok (.iload_n 0, 1) := by decide +kernel
theorem dX4_combine_21 : decode cX4_combine 21 = .ok (.i2l, 1) := by decide +kernel
theorem dX4_combine_22 : decode cX4_combine 22 = .ok (.iload_n 1, 1) := by decide +kernel
theorem dX4_combine_23 : decode cX4_combine 23 = .ok (.i2l, 1) := by decide +kernel
theorem dX4_combine_24 : decode cX4_combine 24 = .ok (.lsub, 1) := by decide +kernel
theorem dX4_combine_25 : decode cX4_combine 25 = .ok (.invokestatic 124, 3) := by decide +kernel
theorem dX4_combine_28 : decode cX4_combine 28 = .ok (.ireturn, 1) := by decide +kernel
theorem dX4_combine_29 : decode cX4_combine 29 = .ok (.iload_n 0, 1) := by decide +kernel
theorem dX4_combine_30 : decode cX4_combine 30 = .ok (.i2l, 1) := by decide +kernel
theorem dX4_combine_31 : decode cX4_combine 31 = .ok (.iload_n 1, 1) := by decide +kernel
theorem dX4_combine_32 : decode cX4_combine 32 = .ok (.i2l, 1) := by decide +kernel
theorem dX4_combine_33 : decode cX4_combine 33 = .ok (.lmul, 1) := by decide +kernel
theorem dX4_combine_34 : decode cX4_combine 34 = .ok (.invokestatic 124, 3) := by decide +kernel
theorem dX4_combine_37 : decode cX4_combine 37 = .ok (.ireturn, 1) := by decide +kernel
theorem dX4_transform_0 : decode cX4_transform 0 = .ok (.iload_n 2, 1) := by decide +kernel
theorem dX4_transform_1 : decode cX4_transform 1 = .ok (.iconst 1, 1) := by decide +kernel
theorem dX4_transform_2 : decode cX4_transform 2 = .ok (.if_icmp .lt 8, 3) := by decide +kernel
theorem dX4_transform_5 : decode cX4_transform 5 = .ok (.iload_n 2, 1) := by decide +kernel
theorem dX4_transform_6 : decode cX4_transform 6 = .ok (.iconst 3, 1) := by decide +kernel
theorem dX4_transform_7 : decode cX4_transform 7 = .ok (.if_icmp .le 4, 3) := by decide +kernel
theorem dX4_transform_10 : decode cX4_transform 10 = .ok (.return_, 1) := by decide +kernel
theorem dX4_transform_11 : decode cX4_transform 11 = .ok (.iconst 1, 1) := by decide +kernel
theorem dX4_transform_12 : decode cX4_transform 12 = .ok (.iload_n 1, 1) := by decide +kernel
theorem dX4_transform_13 : decode cX4_transform 13 = .ok (.ishl, 1) := by decide +kernel
theorem dX4_transform_14 : decode cX4_transform 14 = .ok (.istore 4, 2) := by decide +kernel
theorem dX4_transform_16 : decode cX4_transform 16 = .ok (.iconst 0, 1) := by decide +kernel
theorem dX4_transform_17 : decode cX4_transform 17 = .ok (.istore 5, 2) := by decide +kernel
theorem dX4_transform_19 : decode cX4_transform 19 = .ok (.iload 5, 2) := by decide +kernel
theorem dX4_transform_21 : decode cX4_transform 21 = .ok (.iload_n 1, 1) := by decide +kernel
theorem dX4_transform_22 : decode cX4_transform 22 = .ok (.if_icmp .ge 52, 3) := by decide +kernel
theorem dX4_transform_25 : decode cX4_transform 25 = .ok (.iconst 1, 1) := by decide +kernel
theorem dX4_transform_26 : decode cX4_transform 26 = .ok (.iload 5, 2) := by decide +kernel
theorem dX4_transform_28 : decode cX4_transform 28 = .ok (.ishl, 1) := by decide +kernel
theorem dX4_transform_29 : decode cX4_transform 29 = .ok (.istore 6, 2) := by decide +kernel
theorem dX4_transform_31 : decode cX4_transform 31 = .ok (.iconst 0, 1) := by decide +kernel
theorem dX4_transform_32 : decode cX4_transform 32 = .ok (.istore 7, 2) := by decide +kernel
theorem dX4_transform_34 : decode cX4_transform 34 = .ok (.iload 7, 2) := by decide +kernel
theorem dX4_transform_36 : decode cX4_transform 36 = .ok (.iload 4, 2) := by decide +kernel
theorem dX4_transform_38 : decode cX4_transform 38 = .ok (.if_icmp .ge 30, 3) := by decide +kernel
theorem dX4_transform_41 : decode cX4_transform 41 = .ok (.iload 7, 2) := by decide +kernel
theorem dX4_transform_43 : decode cX4_transform 43 = .ok (.iload 6, 2) := by decide +kernel
theorem dX4_transform_45 : decode cX4_transform 45 = .ok (.iand, 1) := by decide +kernel
theorem dX4_transform_46 : decode cX4_transform 46 = .ok (.ifCond .ne 16, 3) := by decide +kernel
theorem dX4_transform_49 : decode cX4_transform 49 = .ok (.aload_n 0, 1) := by decide +kernel
theorem dX4_transform_50 : decode cX4_transform 50 = .ok (.iload 7, 2) := by decide +kernel
theorem dX4_transform_52 : decode cX4_transform 52 = .ok (.iload 7, 2) := by decide +kernel
theorem dX4_transform_54 : decode cX4_transform 54 = .ok (.iload 6, 2) := by decide +kernel
theorem dX4_transform_56 : decode cX4_transform 56 = .ok (.ior, 1) := by decide +kernel
theorem dX4_transform_57 : decode cX4_transform 57 = .ok (.iload_n 2, 1) := by decide +kernel
theorem dX4_transform_58 : decode cX4_transform 58 = .ok (.iload_n 3, 1) := by decide +kernel
theorem dX4_transform_59 : decode cX4_transform 59 = .ok (.invokestatic 251, 3) := by decide +kernel
theorem dX4_transform_62 : decode cX4_transform 62 = .ok (.iinc 7 1, 3) := by decide +kernel
theorem dX4_transform_65 : decode cX4_transform 65 = .ok (.goto (-31), 3) := by decide +kernel
theorem dX4_transform_68 : decode cX4_transform 68 = .ok (.iinc 5 1, 3) := by decide +kernel
theorem dX4_transform_71 : decode cX4_transform 71 = .ok (.goto (-52), 3) := by decide +kernel
theorem dX4_transform_74 : decode cX4_transform 74 = .ok (.return_, 1) := by decide +kernel
