theorem dX4_init_0 : decode cX4_init 0 = .ok (.aload_n 0, 1) := by decide +kernel
theorem dX4_init_1 : decode cX4_init 1 = .ok (.invokespecial 1, 3) := by decide +kernel
theorem dX4_init_4 : decode cX4_init 4 = .ok (.aload_n 0, 1) := by decide +kernel
theorem dX4_init_5 : decode cX4_init 5 = .ok (.sipush 290, 3) := by decide +kernel
theorem dX4_init_8 : decode cX4_init 8 = .ok (.newarray .int, 2) := by decide +kernel
theorem dX4_init_10 : decode cX4_init 10 = .ok (.putfield 7, 3) := by decide +kernel
theorem dX4_init_13 : decode cX4_init 13 = .ok (.aload_n 0, 1) := by decide +kernel
theorem dX4_init_14 : decode cX4_init 14 = .ok (.sipush 290, 3) := by decide +kernel
theorem dX4_init_17 : decode cX4_init 17 = .ok (.newarray .int, 2) := by decide +kernel
theorem dX4_init_19 : decode cX4_init 19 = .ok (.putfield 13, 3) := by decide +kernel
theorem dX4_init_22 : decode cX4_init 22 = .ok (.aload_n 0, 1) := by decide +kernel
theorem dX4_init_23 : decode cX4_init 23 = .ok (.sipush 416, 3) := by decide +kernel
theorem dX4_init_26 : decode cX4_init 26 = .ok (.newarray .int, 2) := by decide +kernel
theorem dX4_init_28 : decode cX4_init 28 = .ok (.putfield 16, 3) := by decide +kernel
theorem dX4_init_31 : decode cX4_init 31 = .ok (.aload_n 0, 1) := by decide +kernel
theorem dX4_init_32 : decode cX4_init 32 = .ok (.bipush 50, 2) := by decide +kernel
theorem dX4_init_34 : decode cX4_init 34 = .ok (.newarray .int, 2) := by decide +kernel
theorem dX4_init_36 : decode cX4_init 36 = .ok (.putfield 19, 3) := by decide +kernel
theorem dX4_init_39 : decode cX4_init 39 = .ok (.aload_n 0, 1) := by decide +kernel
theorem dX4_init_40 : decode cX4_init 40 = .ok (.bipush 48, 2) := by decide +kernel
theorem dX4_init_42 : decode cX4_init 42 = .ok (.newarray .int, 2) := by decide +kernel
theorem dX4_init_44 : decode cX4_init 44 = .ok (.putfield 22, 3) := by decide +kernel
theorem dX4_init_47 : decode cX4_init 47 = .ok (.aload_n 0, 1) := by decide +kernel
theorem dX4_init_48 : decode cX4_init 48 = .ok (.bipush 48, 2) := by decide +kernel
theorem dX4_init_50 : decode cX4_init 50 = .ok (.newarray .int, 2) := by decide +kernel
theorem dX4_init_52 : decode cX4_init 52 = .ok (.putfield 25, 3) := by decide +kernel
theorem dX4_init_55 : decode cX4_init 55 = .ok (.aload_n 0, 1) := by decide +kernel
theorem dX4_init_56 : decode cX4_init 56 = .ok (.bipush 48, 2) := by decide +kernel
theorem dX4_init_58 : decode cX4_init 58 = .ok (.newarray .int, 2) := by decide +kernel
theorem dX4_init_60 : decode cX4_init 60 = .ok (.putfield 28, 3) := by decide +kernel
theorem dX4_init_63 : decode cX4_init 63 = .ok (.aload_n 0, 1) := by decide +kernel
theorem dX4_init_64 : decode cX4_init 64 = .ok (.bipush 30, 2) := by decide +kernel
theorem dX4_init_66 : decode cX4_init 66 = .ok (.newarray .int, 2) := by decide +kernel
theorem dX4_init_68 : decode cX4_init 68 = .ok (.putfield 31, 3) := by decide +kernel
theorem dX4_init_71 : decode cX4_init 71 = .ok (.aload_n 0, 1) := by decide +kernel
theorem dX4_init_72 : decode cX4_init 72 = .ok (.invokevirtual 34, 3) := by decide +kernel
theorem dX4_init_75 : decode cX4_init 75 = .ok (.return_, 1) := by decide +kernel
theorem dX4_thrown_0 : decode cX4_thrown 0 = .ok (.aload_n 0, 1) := by decide +kernel
theorem dX4_thrown_1 : decode cX4_thrown 1 = .ok (.getfield 37, 3) := by decide +kernel
theorem dX4_thrown_4 : decode cX4_thrown 4 = .ok (.ireturn, 1) := by decide +kernel
theorem dX4_within_0 : decode cX4_within 0 = .ok (.iload_n 0, 1) := by decide +kernel
theorem dX4_within_1 : decode cX4_within 1 = .ok (.iload_n 1, 1) := by decide +kernel
theorem dX4_within_2 : decode cX4_within 2 = .ok (.if_icmp .lt 12, 3) := by decide +kernel
theorem dX4_within_5 : decode cX4_within 5 = .ok (.iload_n 0, 1) := by decide +kernel
theorem dX4_within_6 : decode cX4_within 6 = .ok (.iload_n 2, 1) := by decide +kernel
theorem dX4_within_7 : decode cX4_within 7 = .ok (.if_icmp .gt 7, 3) := by decide +kernel
theorem dX4_within_10 : decode cX4_within 10 = .ok (.iconst 1, 1) := by decide +kernel
theorem dX4_within_11 : decode cX4_within 11 = .ok (.goto 4, 3) := by decide +kernel
theorem dX4_within_14 : decode cX4_within 14 = .ok (.iconst 0, 1) := by decide +kernel
theorem dX4_within_15 : decode cX4_within 15 = .ok (.ireturn, 1) := by decide +kernel
theorem dX4_isName_0 : decode cX4_isName 0 = .ok (.iload_n 0, 1) := by decide +kernel
theorem dX4_isName_1 : decode cX4_isName 1 = .ok (.iconst 0, 1) := by decide +kernel
theorem dX4_isName_2 : decode cX4_isName 2 = .ok (.bipush 25, 2) := by decide +kernel
theorem dX4_isName_4 : decode cX4_isName 4 = .ok (.invokestatic 41, 3) := by decide +kernel
theorem dX4_isName_7 : decode cX4_isName 7 = .ok (.ireturn, 1) := by decide +kernel
theorem dX4_isScope_0 : decode cX4_isScope 0 = .ok (.iload_n 1, 1) := by decide +kernel
theorem dX4_isScope_1 : decode cX4_isScope 1 = .ok (.iconst 0, 1) := by decide +kernel
theorem dX4_isScope_2 : decode cX4_isScope 2 = .ok (.aload_n 0, 1) := by decide +kernel
theorem dX4_isScope_3 : decode cX4_isScope 3 = .ok (.getfield 7, 3) := by decide +kernel
theorem dX4_isScope_6 : decode cX4_isScope 6 = .ok (.iconst 0, 1) := by decide +kernel
theorem dX4_isScope_7 : decode cX4_isScope 7 = .ok (.iaload, 1) := by decide +kernel
theorem dX4_isScope_8 : decode cX4_isScope 8 = .ok (.iconst 1, 1) := by decide +kernel
theorem dX4_isScope_9 : decode cX4_isScope 9 = .ok (.isub, 1) := by decide +kernel
theorem dX4_isScope_10 : decode cX4_isScope 10 = .ok (.invokestatic 41, 3) := by decide +kernel
theorem dX4_isScope_13 : decode cX4_isScope 13 = .ok (.ireturn, 1) := by decide +kernel
theorem dX4_of_0 : decode cX4_of 0 = .ok (.aload_n 0, 1) := by decide +kernel
theorem dX4_of_1 : decode cX4_of 1 = .ok (.getfield 7, 3) := by decide +kernel
theorem dX4_of_4 : decode cX4_of 4 = .ok (.bipush 20, 2) := by decide +kernel
theorem dX4_of_6 : decode cX4_of 6 = .ok (.iconst 3, 1) := by decide +kernel
theorem dX4_of_7 : decode cX4_of 7 = .ok (.iload_n 1, 1) := by decide +kernel
theorem dX4_of_8 : decode cX4_of 8 = .ok (.imul, 1) := by decide +kernel
theorem dX4_of_9 : decode cX4_of 9 = .ok (.iadd, 1) := by decide +kernel
theorem dX4_of_10 : decode cX4_of 10 = .ok (.iload_n 2, 1) := by decide +kernel
theorem dX4_of_11 : decode cX4_of 11 = .ok (.iadd, 1) := by decide +kernel
theorem dX4_of_12 : decode cX4_of 12 = .ok (.iaload, 1) := by decide +kernel
theorem dX4_of_13 : decode cX4_of 13 = .ok (.ireturn, 1) := by decide +kernel
theorem dX4_at_0 : decode cX4_at 0 = .ok (.aload_n 0, 1) := by decide +kernel
theorem dX4_at_1 : decode cX4_at 1 = .ok (.getfield 7, 3) := by decide +kernel
theorem dX4_at_4 : decode cX4_at 4 = .ok (.bipush 110, 2) := by decide +kernel
theorem dX4_at_6 : decode cX4_at 6 = .ok (.bipush 6, 2) := by decide +kernel
theorem dX4_at_8 : decode cX4_at 8 = .ok (.iload_n 1, 1) := by decide +kernel
theorem dX4_at_9 : decode cX4_at 9 = .ok (.imul, 1) := by decide +kernel
theorem dX4_at_10 : decode cX4_at 10 = .ok (.iadd, 1) := by decide +kernel
theorem dX4_at_11 : decode cX4_at 11 = .ok (.iload_n 2, 1) := by decide +kernel
theorem dX4_at_12 : decode cX4_at 12 = .ok (.iadd, 1) := by decide +kernel
theorem dX4_at_13 : decode cX4_at 13 = .ok (.iaload, 1) := by decide +kernel
theorem dX4_at_14 : decode cX4_at 14 = .ok (.ireturn, 1) := by decide +kernel
theorem dX4_isSingle_0 : decode cX4_isSingle 0 = .ok (.aload_n 0, 1) := by decide +kernel
theorem dX4_isSingle_1 : decode cX4_isSingle 1 = .ok (.iload_n 1, 1) := by decide +kernel
theorem dX4_isSingle_2 : decode cX4_isSingle 2 = .ok (.iconst 2, 1) := by decide +kernel
theorem dX4_isSingle_3 : decode cX4_isSingle 3 = .ok (.invokevirtual 45, 3) := by decide +kernel
theorem dX4_isSingle_6 : decode cX4_isSingle 6 = .ok (.iconst (-1), 1) := by decide +kernel
theorem dX4_isSingle_7 : decode cX4_isSingle 7 = .ok (.if_icmp .eq 7, 3) := by decide +kernel
theorem dX4_isSingle_10 : decode cX4_isSingle 10 = .ok (.iconst 1, 1) := by decide +kernel
theorem dX4_isSingle_11 : decode cX4_isSingle 11 = .ok (.goto 4, 3) := by decide +kernel
theorem dX4_isSingle_14 : decode cX4_isSingle 14 = .ok (.iconst 0, 1) := by decide +kernel
theorem dX4_isSingle_15 : decode cX4_isSingle 15 = .ok (.ireturn, 1) := by decide +kernel
theorem dX4_fresh_0 : decode cX4_fresh 0 = .ok (.iconst 0, 1) := by decide +kernel
theorem dX4_fresh_1 : decode cX4_fresh 1 = .ok (.istore_n 1, 1) := by decide +kernel
theorem dX4_fresh_2 : decode cX4_fresh 2 = .ok (.iload_n 1, 1) := by decide +kernel
theorem dX4_fresh_3 : decode cX4_fresh 3 = .ok (.sipush 290, 3) := by decide +kernel
theorem dX4_fresh_6 : decode cX4_fresh 6 = .ok (.if_icmp .ge 16, 3) := by decide +kernel
theorem dX4_fresh_9 : decode cX4_fresh 9 = .ok (.aload_n 0, 1) := by decide +kernel
theorem dX4_fresh_10 : decode cX4_fresh 10 = .ok (.getfield 7, 3) := by decide +kernel
theorem dX4_fresh_13 : decode cX4_fresh 13 = .ok (.iload_n 1, 1) := by decide +kernel
theorem dX4_fresh_14 : decode cX4_fresh 14 = .ok (.iconst 0, 1) := by decide +kernel
theorem dX4_fresh_15 : decode cX4_fresh 15 = .ok (.iastore, 1) := by decide +kernel
theorem dX4_fresh_16 : decode cX4_fresh 16 = .ok (.iinc 1 1, 3) := by decide +kernel
theorem dX4_fresh_19 : decode cX4_fresh 19 = .ok (.goto (-17), 3) := by decide +kernel
theorem dX4_fresh_22 : decode cX4_fresh 22 = .ok (.aload_n 0, 1) := by decide +kernel
theorem dX4_fresh_23 : decode cX4_fresh 23 = .ok (.getfield 7, 3) := by decide +kernel
theorem dX4_fresh_26 : decode cX4_fresh 26 = .ok (.iconst 0, 1) := by decide +kernel
theorem dX4_fresh_27 : decode cX4_fresh 27 = .ok (.iconst 1, 1) := by decide +kernel
theorem dX4_fresh_28 : decode cX4_fresh 28 = .ok (.iastore, 1) := by decide +kernel
theorem dX4_fresh_29 : decode cX4_fresh 29 = .ok (.aload_n 0, 1) := by decide +kernel
theorem dX4_fresh_30 : decode cX4_fresh 30 = .ok (.getfield 7, 3) := by decide +kernel
theorem dX4_fresh_33 : decode cX4_fresh 33 = .ok (.iconst 4, 1) := by decide +kernel
theorem dX4_fresh_34 : decode cX4_fresh 34 = .ok (.iconst (-1), 1) := by decide +kernel
theorem dX4_fresh_35 : decode cX4_fresh 35 = .ok (.iastore, 1) := by decide +kernel
theorem dX4_fresh_36 : decode cX4_fresh 36 = .ok (.aload_n 0, 1) := by decide +kernel
theorem dX4_fresh_37 : decode cX4_fresh 37 = .ok (.iconst 0, 1) := by decide +kernel
theorem dX4_fresh_38 : decode cX4_fresh 38 = .ok (.putfield 49, 3) := by decide +kernel
theorem dX4_fresh_41 : decode cX4_fresh 41 = .ok (.return_, 1) := by decide +kernel
theorem dX4_bits_0 : decode cX4_bits 0 = .ok (.iconst 0, 1) := by decide +kernel
theorem dX4_bits_1 : decode cX4_bits 1 = .ok (.istore_n 1, 1) := by decide +kernel
theorem dX4_bits_2 : decode cX4_bits 2 = .ok (.iconst 0, 1) := by decide +kernel
theorem dX4_bits_3 : decode cX4_bits 3 = .ok (.istore_n 2, 1) := by decide +kernel
theorem dX4_bits_4 : decode cX4_bits 4 = .ok (.iload_n 2, 1) := by decide +kernel
theorem dX4_bits_5 : decode cX4_bits 5 = .ok (.bipush 30, 2) := by decide +kernel
theorem dX4_bits_7 : decode cX4_bits 7 = .ok (.if_icmp .ge 17, 3) := by decide +kernel
theorem dX4_bits_10 : decode cX4_bits 10 = .ok (.iload_n 1, 1) := by decide +kernel
theorem dX4_bits_11 : decode cX4_bits 11 = .ok (.iload_n 0, 1) := by decide +kernel
theorem dX4_bits_12 : decode cX4_bits 12 = .ok (.iload_n 2, 1) := by decide +kernel
theorem dX4_bits_13 : decode cX4_bits 13 = .ok (.ishr, 1) := by decide +kernel
theorem dX4_bits_14 : decode cX4_bits 14 = .ok (.iconst 1, 1) := by decide +kernel
theorem dX4_bits_15 : decode cX4_bits 15 = .ok (.iand, 1) := by decide +kernel
theorem dX4_bits_16 : decode cX4_bits 16 = .ok (.iadd, 1) := by decide +kernel
theorem dX4_bits_17 : decode cX4_bits 17 = .ok (.istore_n 1, 1) := by decide +kernel
theorem dX4_bits_18 : decode cX4_bits 18 = .ok (.iinc 2 1, 3) := by decide +kernel
theorem dX4_bits_21 : decode cX4_bits 21 = .ok (.goto (-17), 3) := by decide +kernel
theorem dX4_bits_24 : decode cX4_bits 24 = .ok (.iload_n 1, 1) := by decide +kernel
theorem dX4_bits_25 : decode cX4_bits 25 = .ok (.ireturn, 1) := by decide +kernel
theorem dX4_declaredIn_0 : decode cX4_declaredIn 0 = .ok (.iconst (-1), 1) := by decide +kernel
theorem dX4_declaredIn_1 : decode cX4_declaredIn 1 = .ok (.istore_n 3, 1) := by decide +kernel
theorem dX4_declaredIn_2 : decode cX4_declaredIn 2 = .ok (.iconst 0, 1) := by decide +kernel
theorem dX4_declaredIn_3 : decode cX4_declaredIn 3 = .ok (.istore 4, 2) := by decide +kernel
theorem dX4_declaredIn_5 : decode cX4_declaredIn 5 = .ok (.iload 4, 2) := by decide +kernel
theorem dX4_declaredIn_7 : decode cX4_declaredIn 7 = .ok (.aload_n 0, 1) := by decide +kernel
theorem dX4_declaredIn_8 : decode cX4_declaredIn 8 = .ok (.getfield 7, 3) := by decide +kernel
theorem dX4_declaredIn_11 : decode cX4_declaredIn 11 = .ok (.iconst 1, 1) := by decide +kernel
theorem dX4_declaredIn_12 : decode cX4_declaredIn 12 = .ok (.iaload, 1) := by decide +kernel
theorem dX4_declaredIn_13 : decode cX4_declaredIn 13 = .ok (.if_icmp .ge 38, 3) := by decide +kernel
theorem dX4_declaredIn_16 : decode cX4_declaredIn 16 = .ok (.aload_n 0, 1) := by decide +kernel
theorem dX4_declaredIn_17 : decode cX4_declaredIn 17 = .ok (.iload 4, 2) := by decide +kernel
theorem dX4_declaredIn_19 : decode cX4_declaredIn 19 = .ok (.iconst 0, 1) := by decide +kernel
theorem dX4_declaredIn_20 : decode cX4_declaredIn 20 = .ok (.invokevirtual 53, 3) := by decide +kernel
theorem dX4_declaredIn_23 : decode cX4_declaredIn 23 = .ok (.iload_n 1, 1) := by decide +kernel
theorem dX4_declaredIn_24 : decode cX4_declaredIn 24 = .ok (.if_icmp .ne 19, 3) := by decide +kernel
theorem dX4_declaredIn_27 : decode cX4_declaredIn 27 = .ok (.aload_n 0, 1) := by decide +kernel
theorem dX4_declaredIn_28 : decode cX4_declaredIn 28 = .ok (.iload 4, 2) := by decide +kernel
theorem dX4_declaredIn_30 : decode cX4_declaredIn 30 = .ok (.iconst 1, 1) := by decide +kernel
theorem dX4_declaredIn_31 : decode cX4_declaredIn 31 = .ok (.invokevirtual 53, 3) := by decide +kernel
theorem dX4_declaredIn_34 : decode cX4_declaredIn 34 = .ok (.iload_n 2, 1) := by decide +kernel
theorem dX4_declaredIn_35 : decode cX4_declaredIn 35 = .ok (.if_icmp .ne 8, 3) := by decide +kernel
theorem dX4_declaredIn_38 : decode cX4_declaredIn 38 = .ok (.iload 4, 2) := by decide +kernel
theorem dX4_declaredIn_40 : decode cX4_declaredIn 40 = .ok (.goto 4, 3) := by decide +kernel
theorem dX4_declaredIn_43 : decode cX4_declaredIn 43 = .ok (.iload_n 3, 1) := by decide +kernel
theorem dX4_declaredIn_44 : decode cX4_declaredIn 44 = .ok (.istore_n 3, 1) := by decide +kernel
theorem dX4_declaredIn_45 : decode cX4_declaredIn 45 = .ok (.iinc 4 1, 3) := by decide +kernel
theorem dX4_declaredIn_48 : decode cX4_declaredIn 48 = .ok (.goto (-43), 3) := by decide +kernel
theorem dX4_declaredIn_51 : decode cX4_declaredIn 51 = .ok (.iload_n 3, 1) := by decide +kernel
theorem dX4_declaredIn_52 : decode cX4_declaredIn 52 = .ok (.ireturn, 1) := by decide +kernel
theorem dX4_offer_0 : decode cX4_offer 0 = .ok (.aload_n 0, 1) := by decide +kernel
theorem dX4_offer_1 : decode cX4_offer 1 = .ok (.getfield 16, 3) := by decide +kernel
theorem dX4_offer_4 : decode cX4_offer 4 = .ok (.bipush 26, 2) := by decide +kernel
theorem dX4_offer_6 : decode cX4_offer 6 = .ok (.iload_n 1, 1) := by decide +kernel
theorem dX4_offer_7 : decode cX4_offer 7 = .ok (.imul, 1) := by decide +kernel
theorem dX4_offer_8 : decode cX4_offer 8 = .ok (.iload_n 2, 1) := by decide +kernel
theorem dX4_offer_9 : decode cX4_offer 9 = .ok (.iadd, 1) := by decide +kernel
theorem dX4_offer_10 : decode cX4_offer 10 = .ok (.iaload, 1) := by decide +kernel
theorem dX4_offer_11 : decode cX4_offer 11 = .ok (.ireturn, 1) := by decide +kernel
theorem dX4_brought_0 : decode cX4_brought 0 = .ok (.aload_n 0, 1) := by decide +kernel
theorem dX4_brought_1 : decode cX4_brought 1 = .ok (.iload_n 1, 1) := by decide +kernel
theorem dX4_brought_2 : decode cX4_brought 2 = .ok (.invokevirtual 56, 3) := by decide +kernel
theorem dX4_brought_5 : decode cX4_brought 5 = .ok (.ifCond .eq 34, 3) := by decide +kernel
theorem dX4_brought_8 : decode cX4_brought 8 = .ok (.iload_n 2, 1) := by decide +kernel
theorem dX4_brought_9 : decode cX4_brought 9 = .ok (.aload_n 0, 1) := by decide +kernel
theorem dX4_brought_10 : decode cX4_brought 10 = .ok (.iload_n 1, 1) := by decide +kernel
theorem dX4_brought_11 : decode cX4_brought 11 = .ok (.iconst 3, 1) := by decide +kernel
theorem dX4_brought_12 : decode cX4_brought 12 = .ok (.invokevirtual 45, 3) := by decide +kernel
theorem dX4_brought_15 : decode cX4_brought 15 = .ok (.if_icmp .ne 22, 3) := by decide +kernel
theorem dX4_brought_18 : decode cX4_brought 18 = .ok (.aload_n 0, 1) := by decide +kernel
theorem dX4_brought_19 : decode cX4_brought 19 = .ok (.aload_n 0, 1) := by decide +kernel
theorem dX4_brought_20 : decode cX4_brought 20 = .ok (.iload_n 1, 1) := by decide +kernel
theorem dX4_brought_21 : decode cX4_brought 21 = .ok (.iconst 1, 1) := by decide +kernel
theorem dX4_brought_22 : decode cX4_brought 22 = .ok (.invokevirtual 45, 3) := by decide +kernel
theorem dX4_brought_25 : decode cX4_brought 25 = .ok (.aload_n 0, 1) := by decide +kernel
theorem dX4_brought_26 : decode cX4_brought 26 = .ok (.iload_n 1, 1) := by decide +kernel
theorem dX4_brought_27 : decode cX4_brought 27 = .ok (.iconst 2, 1) := by decide +kernel
theorem dX4_brought_28 : decode cX4_brought 28 = .ok (.invokevirtual 45, 3) := by decide +kernel
theorem dX4_brought_31 : decode cX4_brought 31 = .ok (.invokevirtual 60, 3) := by decide +kernel
theorem dX4_brought_34 : decode cX4_brought 34 = .ok (.goto 4, 3) := by decide +kernel
theorem dX4_brought_37 : decode cX4_brought 37 = .ok (.iconst 0, 1) := by decide +kernel
theorem dX4_brought_38 : decode cX4_brought 38 = .ok (.ireturn, 1) := by decide +kernel
theorem dX4_brought_39 : decode cX4_brought 39 = .ok (.aload_n 0, 1) := by decide +kernel
theorem dX4_brought_40 : decode cX4_brought 40 = .ok (.iload_n 1, 1) := by decide +kernel
theorem dX4_brought_41 : decode cX4_brought 41 = .ok (.iconst 4, 1) := by decide +kernel
theorem dX4_brought_42 : decode cX4_brought 42 = .ok (.invokevirtual 45, 3) := by decide +kernel
theorem dX4_brought_45 : decode cX4_brought 45 = .ok (.iload_n 2, 1) := by decide +kernel
theorem dX4_brought_46 : decode cX4_brought 46 = .ok (.ishr, 1) := by decide +kernel
theorem dX4_brought_47 : decode cX4_brought 47 = .ok (.iconst 1, 1) := by decide +kernel
theorem dX4_brought_48 : decode cX4_brought 48 = .ok (.iand, 1) := by decide +kernel
theorem dX4_brought_49 : decode cX4_brought 49 = .ok (.iconst 1, 1) := by decide +kernel
theorem dX4_brought_50 : decode cX4_brought 50 = .ok (.if_icmp .ne 7, 3) := by decide +kernel
theorem dX4_brought_53 : decode cX4_brought 53 = .ok (.iconst 0, 1) := by decide +kernel
theorem dX4_brought_54 : decode cX4_brought 54 = .ok (.goto 14, 3) := by decide +kernel
theorem dX4_brought_57 : decode cX4_brought 57 = .ok (.aload_n 0, 1) := by decide +kernel
theorem dX4_brought_58 : decode cX4_brought 58 = .ok (.aload_n 0, 1) := by decide +kernel
theorem dX4_brought_59 : decode cX4_brought 59 = .ok (.iload_n 1, 1) := by decide +kernel
theorem dX4_brought_60 : decode cX4_brought 60 = .ok (.iconst 1, 1) := by decide +kernel
theorem dX4_brought_61 : decode cX4_brought 61 = .ok (.invokevirtual 45, 3) := by decide +kernel
theorem dX4_brought_64 : decode cX4_brought 64 = .ok (.iload_n 2, 1) := by decide +kernel
theorem dX4_brought_65 : decode cX4_brought 65 = .ok (.invokevirtual 60, 3) := by decide +kernel
theorem dX4_brought_68 : decode cX4_brought 68 = .ok (.ireturn, 1) := by decide +kernel
theorem dX4_passOn_0 : decode cX4_passOn 0 = .ok (.iconst 0, 1) := by decide +kernel
theorem dX4_passOn_1 : decode cX4_passOn 1 = .ok (.istore_n 1, 1) := by decide +kernel
theorem dX4_passOn_2 : decode cX4_passOn 2 = .ok (.iconst 0, 1) := by decide +kernel
theorem dX4_passOn_3 : decode cX4_passOn 3 = .ok (.istore_n 2, 1) := by decide +kernel
theorem dX4_passOn_4 : decode cX4_passOn 4 = .ok (.iload_n 2, 1) := by decide +kernel
theorem dX4_passOn_5 : decode cX4_passOn 5 = .ok (.aload_n 0, 1) := by decide +kernel
theorem dX4_passOn_6 : decode cX4_passOn 6 = .ok (.getfield 7, 3) := by decide +kernel
theorem dX4_passOn_9 : decode cX4_passOn 9 = .ok (.iconst 2, 1) := by decide +kernel
theorem dX4_passOn_10 : decode cX4_passOn 10 = .ok (.iaload, 1) := by decide +kernel
theorem dX4_passOn_11 : decode cX4_passOn 11 = .ok (.if_icmp .ge 112, 3) := by decide +kernel
theorem dX4_passOn_14 : decode cX4_passOn 14 = .ok (.iconst 0, 1) := by decide +kernel
theorem dX4_passOn_15 : decode cX4_passOn 15 = .ok (.istore_n 3, 1) := by decide +kernel
theorem dX4_passOn_16 : decode cX4_passOn 16 = .ok (.iload_n 3, 1) := by decide +kernel
theorem dX4_passOn_17 : decode cX4_passOn 17 = .ok (.bipush 26, 2) := by decide +kernel
theorem dX4_passOn_19 : decode cX4_passOn 19 = .ok (.if_icmp .ge 98, 3) := by decide +kernel
theorem dX4_passOn_22 : decode cX4_passOn 22 = .ok (.aload_n 0, 1) := by decide +kernel
theorem dX4_passOn_23 : decode cX4_passOn 23 = .ok (.iload_n 2, 1) := by decide +kernel
theorem dX4_passOn_24 : decode cX4_passOn 24 = .ok (.iconst 5, 1) := by decide +kernel
theorem dX4_passOn_25 : decode cX4_passOn 25 = .ok (.invokevirtual 45, 3) := by decide +kernel
theorem dX4_passOn_28 : decode cX4_passOn 28 = .ok (.iconst 1, 1) := by decide +kernel
theorem dX4_passOn_29 : decode cX4_passOn 29 = .ok (.if_icmp .ne 88, 3) := by decide +kernel
theorem dX4_passOn_32 : decode cX4_passOn 32 = .ok (.bipush 26, 2) := by decide +kernel
theorem dX4_passOn_34 : decode cX4_passOn 34 = .ok (.aload_n 0, 1) := by decide +kernel
theorem dX4_passOn_35 : decode cX4_passOn 35 = .ok (.iload_n 2, 1) := by decide +kernel
theorem dX4_passOn_36 : decode cX4_passOn 36 = .ok (.iconst 0, 1) := by decide +kernel
theorem dX4_passOn_37 : decode cX4_passOn 37 = .ok (.invokevirtual 45, 3) := by decide +kernel
theorem dX4_passOn_40 : decode cX4_passOn 40 = .ok (.imul, 1) := by decide +kernel
theorem dX4_passOn_41 : decode cX4_passOn 41 = .ok (.iload_n 3, 1) := by decide +kernel
theorem dX4_passOn_42 : decode cX4_passOn 42 = .ok (.iadd, 1) := by decide +kernel
theorem dX4_passOn_43 : decode cX4_passOn 43 = .ok (.istore 4, 2) := by decide +kernel
theorem dX4_passOn_45 : decode cX4_passOn 45 = .ok (.aload_n 0, 1) := by decide +kernel
theorem dX4_passOn_46 : decode cX4_passOn 46 = .ok (.getfield 16, 3) := by decide +kernel
theorem dX4_passOn_49 : decode cX4_passOn 49 = .ok (.iload 4, 2) := by decide +kernel
theorem dX4_passOn_51 : decode cX4_passOn 51 = .ok (.iaload, 1) := by decide +kernel
theorem dX4_passOn_52 : decode cX4_passOn 52 = .ok (.aload_n 0, 1) := by decide +kernel
theorem dX4_passOn_53 : decode cX4_passOn 53 = .ok (.aload_n 0, 1) := by decide +kernel
theorem dX4_passOn_54 : decode cX4_passOn 54 = .ok (.iload_n 2, 1) := by decide +kernel
theorem dX4_passOn_55 : decode cX4_passOn 55 = .ok (.iconst 0, 1) := by decide +kernel
theorem dX4_passOn_56 : decode cX4_passOn 56 = .ok (.invokevirtual 45, 3) := by decide +kernel
theorem dX4_passOn_59 : decode cX4_passOn 59 = .ok (.iload_n 3, 1) := by decide +kernel
theorem dX4_passOn_60 : decode cX4_passOn 60 = .ok (.invokevirtual 63, 3) := by decide +kernel
theorem dX4_passOn_63 : decode cX4_passOn 63 = .ok (.iconst (-1), 1) := by decide +kernel
theorem dX4_passOn_64 : decode cX4_passOn 64 = .ok (.if_icmp .ne 12, 3) := by decide +kernel
theorem dX4_passOn_67 : decode cX4_passOn 67 = .ok (.aload_n 0, 1) := by decide +kernel
theorem dX4_passOn_68 : decode cX4_passOn 68 = .ok (.iload_n 2, 1) := by decide +kernel
theorem dX4_passOn_69 : decode cX4_passOn 69 = .ok (.iload_n 3, 1) := by decide +kernel
theorem dX4_passOn_70 : decode cX4_passOn 70 = .ok (.invokevirtual 66, 3) := by decide +kernel
theorem dX4_passOn_73 : decode cX4_passOn 73 = .ok (.goto 4, 3) := by decide +kernel
theorem dX4_passOn_76 : decode cX4_passOn 76 = .ok (.iconst 0, 1) := by decide +kernel
theorem dX4_passOn_77 : decode cX4_passOn 77 = .ok (.ior, 1) := by decide +kernel
theorem dX4_passOn_78 : decode cX4_passOn 78 = .ok (.istore 5, 2) := by decide +kernel
theorem dX4_passOn_80 : decode cX4_passOn 80 = .ok (.iload_n 1, 1) := by decide +kernel
theorem dX4_passOn_81 : decode cX4_passOn 81 = .ok (.ifCond .ne 15, 3) := by decide +kernel
theorem dX4_passOn_84 : decode cX4_passOn 84 = .ok (.iload 5, 2) := by decide +kernel
theorem dX4_passOn_86 : decode cX4_passOn 86 = .ok (.aload_n 0, 1) := by decide +kernel
theorem dX4_passOn_87 : decode cX4_passOn 87 = .ok (.getfield 16, 3) := by decide +kernel
theorem dX4_passOn_90 : decode cX4_passOn 90 = .ok (.iload 4, 2) := by decide +kernel
theorem dX4_passOn_92 : decode cX4_passOn 92 = .ok (.iaload, 1) := by decide +kernel
theorem dX4_passOn_93 : decode cX4_passOn 93 = .ok (.if_icmp .eq 7, 3) := by decide +kernel
theorem dX4_passOn_96 : decode cX4_passOn 96 = .ok (.iconst 1, 1) := by decide +kernel
theorem dX4_passOn_97 : decode cX4_passOn 97 = .ok (.goto 4, 3) := by decide +kernel
theorem dX4_passOn_100 : decode cX4_passOn 100 = .ok (.iconst 0, 1) := by decide +kernel
theorem dX4_passOn_101 : decode cX4_passOn 101 = .ok (.istore_n 1, 1) := by decide +kernel
theorem dX4_passOn_102 : decode cX4_passOn 102 = .ok (.aload_n 0, 1) := by decide +kernel
theorem dX4_passOn_103 : decode cX4_passOn 103 = .ok (.getfield 16, 3) := by decide +kernel
theorem dX4_passOn_106 : decode cX4_passOn 106 = .ok (.iload 4, 2) := by decide +kernel
theorem dX4_passOn_108 : decode cX4_passOn 108 = .ok (.iload 5, 2) := by decide +kernel
theorem dX4_passOn_110 : decode cX4_passOn 110 = .ok (.iastore, 1) := by decide +kernel
theorem dX4_passOn_111 : decode cX4_passOn 111 = .ok (.iinc 3 1, 3) := by decide +kernel
theorem dX4_passOn_114 : decode cX4_passOn 114 = .ok (.goto (-98), 3) := by decide +kernel
theorem dX4_passOn_117 : decode cX4_passOn 117 = .ok (.iinc 2 1, 3) := by decide +kernel
theorem dX4_passOn_120 : decode cX4_passOn 120 = .ok (.goto (-116), 3) := by decide +kernel
theorem dX4_passOn_123 : decode cX4_passOn 123 = .ok (.iload_n 1, 1) := by decide +kernel
theorem dX4_passOn_124 : decode cX4_passOn 124 = .ok (.ireturn, 1) := by decide +kernel
theorem dX4_lay_0 : decode cX4_lay 0 = .ok (.aload_n 0, 1) := by decide +kernel
theorem dX4_lay_1 : decode cX4_lay 1 = .ok (.getfield 49, 3) := by decide +kernel
theorem dX4_lay_4 : decode cX4_lay 4 = .ok (.ifCond .eq 4, 3) := by decide +kernel
theorem dX4_lay_7 : decode cX4_lay 7 = .ok (.return_, 1) := by decide +kernel
theorem dX4_lay_8 : decode cX4_lay 8 = .ok (.iconst 0, 1) := by decide +kernel
theorem dX4_lay_9 : decode cX4_lay 9 = .ok (.istore_n 1, 1) := by decide +kernel
theorem dX4_lay_10 : decode cX4_lay 10 = .ok (.iload_n 1, 1) := by decide +kernel
theorem dX4_lay_11 : decode cX4_lay 11 = .ok (.sipush 416, 3) := by decide +kernel
theorem dX4_lay_14 : decode cX4_lay 14 = .ok (.if_icmp .ge 16, 3) := by decide +kernel
theorem dX4_lay_17 : decode cX4_lay 17 = .ok (.aload_n 0, 1) := by decide +kernel
theorem dX4_lay_18 : decode cX4_lay 18 = .ok (.getfield 16, 3) := by decide +kernel
theorem dX4_lay_21 : decode cX4_lay 21 = .ok (.iload_n 1, 1) := by decide +kernel
theorem dX4_lay_22 : decode cX4_lay 22 = .ok (.iconst 0, 1) := by decide +kernel
theorem dX4_lay_23 : decode cX4_lay 23 = .ok (.iastore, 1) := by decide +kernel
theorem dX4_lay_24 : decode cX4_lay 24 = .ok (.iinc 1 1, 3) := by decide +kernel
theorem dX4_lay_27 : decode cX4_lay 27 = .ok (.goto (-17), 3) := by decide +kernel
theorem dX4_lay_30 : decode cX4_lay 30 = .ok (.iconst 0, 1) := by decide +kernel
theorem dX4_lay_31 : decode cX4_lay 31 = .ok (.istore_n 1, 1) := by decide +kernel
theorem dX4_lay_32 : decode cX4_lay 32 = .ok (.iload_n 1, 1) := by decide +kernel
theorem dX4_lay_33 : decode cX4_lay 33 = .ok (.aload_n 0, 1) := by decide +kernel
theorem dX4_lay_34 : decode cX4_lay 34 = .ok (.getfield 7, 3) := by decide +kernel
theorem dX4_lay_37 : decode cX4_lay 37 = .ok (.iconst 1, 1) := by decide +kernel
theorem dX4_lay_38 : decode cX4_lay 38 = .ok (.iaload, 1) := by decide +kernel
theorem dX4_lay_39 : decode cX4_lay 39 = .ok (.if_icmp .ge 50, 3) := by decide +kernel
theorem dX4_lay_42 : decode cX4_lay 42 = .ok (.aload_n 0, 1) := by decide +kernel
theorem dX4_lay_43 : decode cX4_lay 43 = .ok (.getfield 16, 3) := by decide +kernel
theorem dX4_lay_46 : decode cX4_lay 46 = .ok (.bipush 26, 2) := by decide +kernel
theorem dX4_lay_48 : decode cX4_lay 48 = .ok (.aload_n 0, 1) := by decide +kernel
theorem dX4_lay_49 : decode cX4_lay 49 = .ok (.iload_n 1, 1) := by decide +kernel
theorem dX4_lay_50 : decode cX4_lay 50 = .ok (.iconst 0, 1) := by decide +kernel
theorem dX4_lay_51 : decode cX4_lay 51 = .ok (.invokevirtual 53, 3) := by decide +kernel
theorem dX4_lay_54 : decode cX4_lay 54 = .ok (.imul, 1) := by decide +kernel
theorem dX4_lay_55 : decode cX4_lay 55 = .ok (.aload_n 0, 1) := by decide +kernel
theorem dX4_lay_56 : decode cX4_lay 56 = .ok (.iload_n 1, 1) := by decide +kernel
theorem dX4_lay_57 : decode cX4_lay 57 = .ok (.iconst 1, 1) := by decide +kernel
theorem dX4_lay_58 : decode cX4_lay 58 = .ok (.invokevirtual 53, 3) := by decide +kernel
theorem dX4_lay_61 : decode cX4_lay 61 = .ok (.iadd, 1) := by decide +kernel
theorem dX4_lay_62 : decode cX4_lay 62 = .ok (.dup2, 1) := by decide +kernel
theorem dX4_lay_63 : decode cX4_lay 63 = .ok (.iaload, 1) := by decide +kernel
theorem dX4_lay_64 : decode cX4_lay 64 = .ok (.aload_n 0, 1) := by decide +kernel
theorem dX4_lay_65 : decode cX4_lay 65 = .ok (.iload_n 1, 1) := by decide +kernel
theorem dX4_lay_66 : decode cX4_lay 66 = .ok (.iconst 2, 1) := by decide +kernel
theorem dX4_lay_67 : decode cX4_lay 67 = .ok (.invokevirtual 53, 3) := by decide +kernel
theorem dX4_lay_70 : decode cX4_lay 70 = .ok (.iconst 1, 1) := by decide +kernel
theorem dX4_lay_71 : decode cX4_lay 71 = .ok (.if_icmp .ne 9, 3) := by decide +kernel
theorem dX4_lay_74 : decode cX4_lay 74 = .ok (.iconst 1, 1) := by decide +kernel
theorem dX4_lay_75 : decode cX4_lay 75 = .ok (.iload_n 1, 1) := by decide +kernel
theorem dX4_lay_76 : decode cX4_lay 76 = .ok (.ishl, 1) := by decide +kernel
theorem dX4_lay_77 : decode cX4_lay 77 = .ok (.goto 4, 3) := by decide +kernel
theorem dX4_lay_80 : decode cX4_lay 80 = .ok (.iconst 0, 1) := by decide +kernel
theorem dX4_lay_81 : decode cX4_lay 81 = .ok (.ior, 1) := by decide +kernel
theorem dX4_lay_82 : decode cX4_lay 82 = .ok (.iastore, 1) := by decide +kernel
theorem dX4_lay_83 : decode cX4_lay 83 = .ok (.iinc 1 1, 3) := by decide +kernel
theorem dX4_lay_86 : decode cX4_lay 86 = .ok (.goto (-54), 3) := by decide +kernel
theorem dX4_lay_89 : decode cX4_lay 89 = .ok (.iconst 1, 1) := by decide +kernel
theorem dX4_lay_90 : decode cX4_lay 90 = .ok (.istore_n 1, 1) := by decide +kernel
theorem dX4_lay_91 : decode cX4_lay 91 = .ok (.iload_n 1, 1) := by decide +kernel
theorem dX4_lay_92 : decode cX4_lay 92 = .ok (.ifCond .eq 11, 3) := by decide +kernel
theorem dX4_lay_95 : decode cX4_lay 95 = .ok (.aload_n 0, 1) := by decide +kernel
theorem dX4_lay_96 : decode cX4_lay 96 = .ok (.invokevirtual 69, 3) := by decide +kernel
theorem dX4_lay_99 : decode cX4_lay 99 = .ok (.istore_n 1, 1) := by decide +kernel
theorem dX4_lay_100 : decode cX4_lay 100 = .ok (.goto (-9), 3) := by decide +kernel
theorem dX4_lay_103 : decode cX4_lay 103 = .ok (.aload_n 0, 1) := by decide +kernel
theorem dX4_lay_104 : decode cX4_lay 104 = .ok (.iconst 1, 1) := by decide +kernel
theorem dX4_lay_105 : decode cX4_lay 105 = .ok (.putfield 49, 3) := by decide +kernel
theorem dX4_lay_108 : decode cX4_lay 108 = .ok (.return_, 1) := by decide +kernel
theorem dX4_layer_0 : decode cX4_layer 0 = .ok (.iload_n 3, 1) := by decide +kernel
theorem dX4_layer_1 : decode cX4_layer 1 = .ok (.ifCond .ne 26, 3) := by decide +kernel
theorem dX4_layer_4 : decode cX4_layer 4 = .ok (.aload_n 0, 1) := by decide +kernel
theorem dX4_layer_5 : decode cX4_layer 5 = .ok (.iload_n 1, 1) := by decide +kernel
theorem dX4_layer_6 : decode cX4_layer 6 = .ok (.iload_n 2, 1) := by decide +kernel
theorem dX4_layer_7 : decode cX4_layer 7 = .ok (.invokevirtual 63, 3) := by decide +kernel
theorem dX4_layer_10 : decode cX4_layer 10 = .ok (.istore 4, 2) := by decide +kernel
theorem dX4_layer_12 : decode cX4_layer 12 = .ok (.iload 4, 2) := by decide +kernel
theorem dX4_layer_14 : decode cX4_layer 14 = .ok (.iconst (-1), 1) := by decide +kernel
theorem dX4_layer_15 : decode cX4_layer 15 = .ok (.if_icmp .ne 7, 3) := by decide +kernel
theorem dX4_layer_18 : decode cX4_layer 18 = .ok (.iconst 0, 1) := by decide +kernel
theorem dX4_layer_19 : decode cX4_layer 19 = .ok (.goto 7, 3) := by decide +kernel
theorem dX4_layer_22 : decode cX4_layer 22 = .ok (.iconst 1, 1) := by decide +kernel
theorem dX4_layer_23 : decode cX4_layer 23 = .ok (.iload 4, 2) := by decide +kernel
theorem dX4_layer_25 : decode cX4_layer 25 = .ok (.ishl, 1) := by decide +kernel
theorem dX4_layer_26 : decode cX4_layer 26 = .ok (.ireturn, 1) := by decide +kernel
theorem dX4_layer_27 : decode cX4_layer 27 = .ok (.iconst 0, 1) := by decide +kernel
theorem dX4_layer_28 : decode cX4_layer 28 = .ok (.istore 4, 2) := by decide +kernel
theorem dX4_layer_30 : decode cX4_layer 30 = .ok (.iconst 0, 1) := by decide +kernel
theorem dX4_layer_31 : decode cX4_layer 31 = .ok (.istore 5, 2) := by decide +kernel
theorem dX4_layer_33 : decode cX4_layer 33 = .ok (.iload 5, 2) := by decide +kernel
theorem dX4_layer_35 : decode cX4_layer 35 = .ok (.aload_n 0, 1) := by decide +kernel
theorem dX4_layer_36 : decode cX4_layer 36 = .ok (.getfield 7, 3) := by decide +kernel
theorem dX4_layer_39 : decode cX4_layer 39 = .ok (.iconst 2, 1) := by decide +kernel
theorem dX4_layer_40 : decode cX4_layer 40 = .ok (.iaload, 1) := by decide +kernel
theorem dX4_layer_41 : decode cX4_layer 41 = .ok (.if_icmp .ge 67, 3) := by decide +kernel
theorem dX4_layer_44 : decode cX4_layer 44 = .ok (.aload_n 0, 1) := by decide +kernel
theorem dX4_layer_45 : decode cX4_layer 45 = .ok (.iload 5, 2) := by decide +kernel
theorem dX4_layer_47 : decode cX4_layer 47 = .ok (.iconst 0, 1) := by decide +kernel
theorem dX4_layer_48 : decode cX4_layer 48 = .ok (.invokevirtual 45, 3) := by decide +kernel
theorem dX4_layer_51 : decode cX4_layer 51 = .ok (.iload_n 1, 1) := by decide +kernel
theorem dX4_layer_52 : decode cX4_layer 52 = .ok (.if_icmp .ne 26, 3) := by decide +kernel
theorem dX4_layer_55 : decode cX4_layer 55 = .ok (.aload_n 0, 1) := by decide +kernel
theorem dX4_layer_56 : decode cX4_layer 56 = .ok (.iload 5, 2) := by decide +kernel
theorem dX4_layer_58 : decode cX4_layer 58 = .ok (.invokevirtual 56, 3) := by decide +kernel
theorem dX4_layer_61 : decode cX4_layer 61 = .ok (.iload_n 3, 1) := by decide +kernel
theorem dX4_layer_62 : decode cX4_layer 62 = .ok (.iconst 1, 1) := by decide +kernel
theorem dX4_layer_63 : decode cX4_layer 63 = .ok (.if_icmp .ne 7, 3) := by decide +kernel
theorem dX4_layer_66 : decode cX4_layer 66 = .ok (.iconst 1, 1) := by decide +kernel
theorem dX4_layer_67 : decode cX4_layer 67 = .ok (.goto 4, 3) := by decide +kernel
theorem dX4_layer_70 : decode cX4_layer 70 = .ok (.iconst 0, 1) := by decide +kernel
theorem dX4_layer_71 : decode cX4_layer 71 = .ok (.if_icmp .ne 7, 3) := by decide +kernel
theorem dX4_layer_74 : decode cX4_layer 74 = .ok (.iconst 1, 1) := by decide +kernel
theorem dX4_layer_75 : decode cX4_layer 75 = .ok (.goto 4, 3) := by decide +kernel
theorem dX4_layer_78 : decode cX4_layer 78 = .ok (.iconst 0, 1) := by decide +kernel
theorem dX4_layer_79 : decode cX4_layer 79 = .ok (.istore 6, 2) := by decide +kernel
theorem dX4_layer_81 : decode cX4_layer 81 = .ok (.iload 4, 2) := by decide +kernel
theorem dX4_layer_83 : decode cX4_layer 83 = .ok (.iload 6, 2) := by decide +kernel
theorem dX4_layer_85 : decode cX4_layer 85 = .ok (.ifCond .eq 13, 3) := by decide +kernel
theorem dX4_layer_88 : decode cX4_layer 88 = .ok (.aload_n 0, 1) := by decide +kernel
theorem dX4_layer_89 : decode cX4_layer 89 = .ok (.iload 5, 2) := by decide +kernel
theorem dX4_layer_91 : decode cX4_layer 91 = .ok (.iload_n 2, 1) := by decide +kernel
theorem dX4_layer_92 : decode cX4_layer 92 = .ok (.invokevirtual 66, 3) := by decide +kernel
theorem dX4_layer_95 : decode cX4_layer 95 = .ok (.goto 4, 3) := by decide +kernel
theorem dX4_layer_98 : decode cX4_layer 98 = .ok (.iconst 0, 1) := by decide +kernel
theorem dX4_layer_99 : decode cX4_layer 99 = .ok (.ior, 1) := by decide +kernel
theorem dX4_layer_100 : decode cX4_layer 100 = .ok (.istore 4, 2) := by decide +kernel
theorem dX4_layer_102 : decode cX4_layer 102 = .ok (.iinc 5 1, 3) := by decide +kernel
theorem dX4_layer_105 : decode cX4_layer 105 = .ok (.goto (-72), 3) := by decide +kernel
theorem dX4_layer_108 : decode cX4_layer 108 = .ok (.iload 4, 2) := by decide +kernel
theorem dX4_layer_110 : decode cX4_layer 110 = .ok (.ireturn, 1) := by decide +kernel
theorem dX4_layLayers_0 : decode cX4_layLayers 0 = .ok (.aload_n 0, 1) := by decide +kernel
theorem dX4_layLayers_1 : decode cX4_layLayers 1 = .ok (.invokevirtual 73, 3) := by decide +kernel
theorem dX4_layLayers_4 : decode cX4_layLayers 4 = .ok (.aload_n 0, 1) := by decide +kernel
theorem dX4_layLayers_5 : decode cX4_layLayers 5 = .ok (.iconst 0, 1) := by decide +kernel
theorem dX4_layLayers_6 : decode cX4_layLayers 6 = .ok (.putfield 76, 3) := by decide +kernel
theorem dX4_layLayers_9 : decode cX4_layLayers 9 = .ok (.iconst 0, 1) := by decide +kernel
theorem dX4_layLayers_10 : decode cX4_layLayers 10 = .ok (.istore_n 3, 1) := by decide +kernel
theorem dX4_layLayers_11 : decode cX4_layLayers 11 = .ok (.iload_n 1, 1) := by decide +kernel
theorem dX4_layLayers_12 : decode cX4_layLayers 12 = .ok (.istore 4, 2) := by decide +kernel
theorem dX4_layLayers_14 : decode cX4_layLayers 14 = .ok (.iload 4, 2) := by decide +kernel
theorem dX4_layLayers_16 : decode cX4_layLayers 16 = .ok (.iconst (-1), 1) := by decide +kernel
theorem dX4_layLayers_17 : decode cX4_layLayers 17 = .ok (.if_icmp .eq 97, 3) := by decide +kernel
theorem dX4_layLayers_20 : decode cX4_layLayers 20 = .ok (.iconst 0, 1) := by decide +kernel
theorem dX4_layLayers_21 : decode cX4_layLayers 21 = .ok (.istore 5, 2) := by decide +kernel
theorem dX4_layLayers_23 : decode cX4_layLayers 23 = .ok (.iload 5, 2) := by decide +kernel
theorem dX4_layLayers_25 : decode cX4_layLayers 25 = .ok (.iconst 3, 1) := by decide +kernel
theorem dX4_layLayers_26 : decode cX4_layLayers 26 = .ok (.if_icmp .ge 71, 3) := by decide +kernel
theorem dX4_layLayers_29 : decode cX4_layLayers 29 = .ok (.aload_n 0, 1) := by decide +kernel
theorem dX4_layLayers_30 : decode cX4_layLayers 30 = .ok (.iload 4, 2) := by decide +kernel
theorem dX4_layLayers_32 : decode cX4_layLayers 32 = .ok (.iload_n 2, 1) := by decide +kernel
theorem dX4_layLayers_33 : decode cX4_layLayers 33 = .ok (.iload 5, 2) := by decide +kernel
theorem dX4_layLayers_35 : decode cX4_layLayers 35 = .ok (.invokevirtual 79, 3) := by decide +kernel
theorem dX4_layLayers_38 : decode cX4_layLayers 38 = .ok (.istore 6, 2) := by decide +kernel
theorem dX4_layLayers_40 : decode cX4_layLayers 40 = .ok (.aload_n 0, 1) := by decide +kernel
theorem dX4_layLayers_41 : decode cX4_layLayers 41 = .ok (.getfield 22, 3) := by decide +kernel
theorem dX4_layLayers_44 : decode cX4_layLayers 44 = .ok (.aload_n 0, 1) := by decide +kernel
theorem dX4_layLayers_45 : decode cX4_layLayers 45 = .ok (.getfield 76, 3) := by decide +kernel
theorem dX4_layLayers_48 : decode cX4_layLayers 48 = .ok (.iload 6, 2) := by decide +kernel
theorem dX4_layLayers_50 : decode cX4_layLayers 50 = .ok (.iastore, 1) := by decide +kernel
theorem dX4_layLayers_51 : decode cX4_layLayers 51 = .ok (.aload_n 0, 1) := by decide +kernel
theorem dX4_layLayers_52 : decode cX4_layLayers 52 = .ok (.getfield 25, 3) := by decide +kernel
theorem dX4_layLayers_55 : decode cX4_layLayers 55 = .ok (.aload_n 0, 1) := by decide +kernel
theorem dX4_layLayers_56 : decode cX4_layLayers 56 = .ok (.getfield 76, 3) := by decide +kernel
theorem dX4_layLayers_59 : decode cX4_layLayers 59 = .ok (.iload 5, 2) := by decide +kernel
theorem dX4_layLayers_61 : decode cX4_layLayers 61 = .ok (.iastore, 1) := by decide +kernel
theorem dX4_layLayers_62 : decode cX4_layLayers 62 = .ok (.aload_n 0, 1) := by decide +kernel
theorem dX4_layLayers_63 : decode cX4_layLayers 63 = .ok (.getfield 28, 3) := by decide +kernel
theorem dX4_layLayers_66 : decode cX4_layLayers 66 = .ok (.aload_n 0, 1) := by decide +kernel
theorem dX4_layLayers_67 : decode cX4_layLayers 67 = .ok (.getfield 76, 3) := by decide +kernel
theorem dX4_layLayers_70 : decode cX4_layLayers 70 = .ok (.iload_n 3, 1) := by decide +kernel
theorem dX4_layLayers_71 : decode cX4_layLayers 71 = .ok (.iastore, 1) := by decide +kernel
theorem dX4_layLayers_72 : decode cX4_layLayers 72 = .ok (.aload_n 0, 1) := by decide +kernel
theorem dX4_layLayers_73 : decode cX4_layLayers 73 = .ok (.dup, 1) := by decide +kernel
theorem dX4_layLayers_74 : decode cX4_layLayers 74 = .ok (.getfield 76, 3) := by decide +kernel
theorem dX4_layLayers_77 : decode cX4_layLayers 77 = .ok (.iload 6, 2) := by decide +kernel
theorem dX4_layLayers_79 : decode cX4_layLayers 79 = .ok (.ifCond .ne 7, 3) := by decide +kernel
theorem dX4_layLayers_82 : decode cX4_layLayers 82 = .ok (.iconst 0, 1) := by decide +kernel
theorem dX4_layLayers_83 : decode cX4_layLayers 83 = .ok (.goto 4, 3) := by decide +kernel
theorem dX4_layLayers_86 : decode cX4_layLayers 86 = .ok (.iconst 1, 1) := by decide +kernel
theorem dX4_layLayers_87 : decode cX4_layLayers 87 = .ok (.iadd, 1) := by decide +kernel
theorem dX4_layLayers_88 : decode cX4_layLayers 88 = .ok (.putfield 76, 3) := by decide +kernel
theorem dX4_layLayers_91 : decode cX4_layLayers 91 = .ok (.iinc 5 1, 3) := by decide +kernel
theorem dX4_layLayers_94 : decode cX4_layLayers 94 = .ok (.goto (-71), 3) := by decide +kernel
theorem dX4_layLayers_97 : decode cX4_layLayers 97 = .ok (.iinc 3 1, 3) := by decide +kernel
theorem dX4_layLayers_100 : decode cX4_layLayers 100 = .ok (.aload_n 0, 1) := by decide +kernel
theorem dX4_layLayers_101 : decode cX4_layLayers 101 = .ok (.getfield 7, 3) := by decide +kernel
theorem dX4_layLayers_104 : decode cX4_layLayers 104 = .ok (.iconst 4, 1) := by decide +kernel
theorem dX4_layLayers_105 : decode cX4_layLayers 105 = .ok (.iload 4, 2) := by decide +kernel
theorem dX4_layLayers_107 : decode cX4_layLayers 107 = .ok (.iadd, 1) := by decide +kernel
theorem dX4_layLayers_108 : decode cX4_layLayers 108 = .ok (.iaload, 1) := by decide +kernel
theorem dX4_layLayers_109 : decode cX4_layLayers 109 = .ok (.istore 4, 2) := by decide +kernel
theorem dX4_layLayers_111 : decode cX4_layLayers 111 = .ok (.goto (-97), 3) := by decide +kernel
theorem dX4_layLayers_114 : decode cX4_layLayers 114 = .ok (.return_, 1) := by decide +kernel
theorem dX4_outcome_0 : decode cX4_outcome 0 = .ok (.aload_n 0, 1) := by decide +kernel
theorem dX4_outcome_1 : decode cX4_outcome 1 = .ok (.iload_n 1, 1) := by decide +kernel
theorem dX4_outcome_2 : decode cX4_outcome 2 = .ok (.iload_n 2, 1) := by decide +kernel
theorem dX4_outcome_3 : decode cX4_outcome 3 = .ok (.invokevirtual 83, 3) := by decide +kernel
theorem dX4_outcome_6 : decode cX4_outcome 6 = .ok (.aload_n 0, 1) := by decide +kernel
theorem dX4_outcome_7 : decode cX4_outcome 7 = .ok (.getfield 76, 3) := by decide +kernel
theorem dX4_outcome_10 : decode cX4_outcome 10 = .ok (.ifCond .ne 7, 3) := by decide +kernel
theorem dX4_outcome_13 : decode cX4_outcome 13 = .ok (.iconst 0, 1) := by decide +kernel
theorem dX4_outcome_14 : decode cX4_outcome 14 = .ok (.goto 9, 3) := by decide +kernel
theorem dX4_outcome_17 : decode cX4_outcome 17 = .ok (.aload_n 0, 1) := by decide +kernel
theorem dX4_outcome_18 : decode cX4_outcome 18 = .ok (.getfield 22, 3) := by decide +kernel
theorem dX4_outcome_21 : decode cX4_outcome 21 = .ok (.iconst 0, 1) := by decide +kernel
theorem dX4_outcome_22 : decode cX4_outcome 22 = .ok (.iaload, 1) := by decide +kernel
theorem dX4_outcome_23 : decode cX4_outcome 23 = .ok (.ireturn, 1) := by decide +kernel
theorem dX4_lowest_0 : decode cX4_lowest 0 = .ok (.iconst 0, 1) := by decide +kernel
theorem dX4_lowest_1 : decode cX4_lowest 1 = .ok (.istore_n 1, 1) := by decide +kernel
theorem dX4_lowest_2 : decode cX4_lowest 2 = .ok (.iload_n 0, 1) := by decide +kernel
theorem dX4_lowest_3 : decode cX4_lowest 3 = .ok (.iload_n 1, 1) := by decide +kernel
theorem dX4_lowest_4 : decode cX4_lowest 4 = .ok (.ishr, 1) := by decide +kernel
theorem dX4_lowest_5 : decode cX4_lowest 5 = .ok (.iconst 1, 1) := by decide +kernel
theorem dX4_lowest_6 : decode cX4_lowest 6 = .ok (.iand, 1) := by decide +kernel
theorem dX4_lowest_7 : decode cX4_lowest 7 = .ok (.ifCond .ne 9, 3) := by decide +kernel
theorem dX4_lowest_10 : decode cX4_lowest 10 = .ok (.iinc 1 1, 3) := by decide +kernel
theorem dX4_lowest_13 : decode cX4_lowest 13 = .ok (.goto (-11), 3) := by decide +kernel
theorem dX4_lowest_16 : decode cX4_lowest 16 = .ok (.iload_n 1, 1) := by decide +kernel
theorem dX4_lowest_17 : decode cX4_lowest 17 = .ok (.ireturn, 1) := by decide +kernel
theorem dX4_only_0 : decode cX4_only 0 = .ok (.iload_n 0, 1) := by decide +kernel
theorem dX4_only_1 : decode cX4_only 1 = .ok (.invokestatic 87, 3) := by decide +kernel
theorem dX4_only_4 : decode cX4_only 4 = .ok (.iconst 1, 1) := by decide +kernel
theorem dX4_only_5 : decode cX4_only 5 = .ok (.if_icmp .ne 10, 3) := by decide +kernel
theorem dX4_only_8 : decode cX4_only 8 = .ok (.iload_n 0, 1) := by decide +kernel
theorem dX4_only_9 : decode cX4_only 9 = .ok (.invokestatic 91, 3) := by decide +kernel
theorem dX4_only_12 : decode cX4_only 12 = .ok (.goto 4, 3) := by decide +kernel
theorem dX4_only_15 : decode cX4_only 15 = .ok (.iconst (-1), 1) := by decide +kernel
theorem dX4_only_16 : decode cX4_only 16 = .ok (.ireturn, 1) := by decide +kernel
theorem dX4_useScope_0 : decode cX4_useScope 0 = .ok (.aload_n 0, 1) := by decide +kernel
theorem dX4_useScope_1 : decode cX4_useScope 1 = .ok (.getfield 7, 3) := by decide +kernel
theorem dX4_useScope_4 : decode cX4_useScope 4 = .ok (.sipush 230, 3) := by decide +kernel
theorem dX4_useScope_7 : decode cX4_useScope 7 = .ok (.iconst 2, 1) := by decide +kernel
theorem dX4_useScope_8 : decode cX4_useScope 8 = .ok (.iload_n 1, 1) := by decide +kernel
theorem dX4_useScope_9 : decode cX4_useScope 9 = .ok (.imul, 1) := by decide +kernel
theorem dX4_useScope_10 : decode cX4_useScope 10 = .ok (.iadd, 1) := by decide +kernel
theorem dX4_useScope_11 : decode cX4_useScope 11 = .ok (.iaload, 1) := by decide +kernel
theorem dX4_useScope_12 : decode cX4_useScope 12 = .ok (.ireturn, 1) := by decide +kernel
theorem dX4_useName_0 : decode cX4_useName 0 = .ok (.aload_n 0, 1) := by decide +kernel
theorem dX4_useName_1 : decode cX4_useName 1 = .ok (.getfield 7, 3) := by decide +kernel
theorem dX4_useName_4 : decode cX4_useName 4 = .ok (.sipush 230, 3) := by decide +kernel
theorem dX4_useName_7 : decode cX4_useName 7 = .ok (.iconst 2, 1) := by decide +kernel
theorem dX4_useName_8 : decode cX4_useName 8 = .ok (.iload_n 1, 1) := by decide +kernel
theorem dX4_useName_9 : decode cX4_useName 9 = .ok (.imul, 1) := by decide +kernel
theorem dX4_useName_10 : decode cX4_useName 10 = .ok (.iadd, 1) := by decide +kernel
theorem dX4_useName_11 : decode cX4_useName 11 = .ok (.iconst 1, 1) := by decide +kernel
theorem dX4_useName_12 : decode cX4_useName 12 = .ok (.iadd, 1) := by decide +kernel
theorem dX4_useName_13 : decode cX4_useName 13 = .ok (.iaload, 1) := by decide +kernel
theorem dX4_useName_14 : decode cX4_useName 14 = .ok (.ireturn, 1) := by decide +kernel
theorem dX4_outcomeOf_0 : decode cX4_outcomeOf 0 = .ok (.aload_n 0, 1) := by decide +kernel
theorem dX4_outcomeOf_1 : decode cX4_outcomeOf 1 = .ok (.aload_n 0, 1) := by decide +kernel
theorem dX4_outcomeOf_2 : decode cX4_outcomeOf 2 = .ok (.iload_n 1, 1) := by decide +kernel
theorem dX4_outcomeOf_3 : decode cX4_outcomeOf 3 = .ok (.invokevirtual 94, 3) := by decide +kernel
theorem dX4_outcomeOf_6 : decode cX4_outcomeOf 6 = .ok (.aload_n 0, 1) := by decide +kernel
theorem dX4_outcomeOf_7 : decode cX4_outcomeOf 7 = .ok (.iload_n 1, 1) := by decide +kernel
theorem dX4_outcomeOf_8 : decode cX4_outcomeOf 8 = .ok (.invokevirtual 97, 3) := by decide +kernel
theorem dX4_outcomeOf_11 : decode cX4_outcomeOf 11 = .ok (.invokevirtual 100, 3) := by decide +kernel
theorem dX4_outcomeOf_14 : decode cX4_outcomeOf 14 = .ok (.ireturn, 1) := by decide +kernel
theorem dX4_begin_0 : decode cX4_begin 0 = .ok (.aload_n 0, 1) := by decide +kernel
theorem dX4_begin_1 : decode cX4_begin 1 = .ok (.iconst 0, 1) := by decide +kernel
theorem dX4_begin_2 : decode cX4_begin 2 = .ok (.putfield 37, 3) := by decide +kernel
theorem dX4_begin_5 : decode cX4_begin 5 = .ok (.aload_n 0, 1) := by decide +kernel
theorem dX4_begin_6 : decode cX4_begin 6 = .ok (.getfield 7, 3) := by decide +kernel
theorem dX4_begin_9 : decode cX4_begin 9 = .ok (.iconst 0, 1) := by decide +kernel
theorem dX4_begin_10 : decode cX4_begin 10 = .ok (.iaload, 1) := by decide +kernel
theorem dX4_begin_11 : decode cX4_begin 11 = .ok (.istore_n 1, 1) := by decide +kernel
theorem dX4_begin_12 : decode cX4_begin 12 = .ok (.aload_n 0, 1) := by decide +kernel
theorem dX4_begin_13 : decode cX4_begin 13 = .ok (.invokevirtual 34, 3) := by decide +kernel
theorem dX4_begin_16 : decode cX4_begin 16 = .ok (.iload_n 1, 1) := by decide +kernel
theorem dX4_begin_17 : decode cX4_begin 17 = .ok (.ireturn, 1) := by decide +kernel
theorem dX4_addScope_0 : decode cX4_addScope 0 = .ok (.aload_n 0, 1) := by decide +kernel
theorem dX4_addScope_1 : decode cX4_addScope 1 = .ok (.aload_n 0, 1) := by decide +kernel
theorem dX4_addScope_2 : decode cX4_addScope 2 = .ok (.iload_n 1, 1) := by decide +kernel
theorem dX4_addScope_3 : decode cX4_addScope 3 = .ok (.invokevirtual 103, 3) := by decide +kernel
theorem dX4_addScope_6 : decode cX4_addScope 6 = .ok (.ifCond .ne 7, 3) := by decide +kernel
theorem dX4_addScope_9 : decode cX4_addScope 9 = .ok (.iconst 1, 1) := by decide +kernel
theorem dX4_addScope_10 : decode cX4_addScope 10 = .ok (.goto 19, 3) := by decide +kernel
theorem dX4_addScope_13 : decode cX4_addScope 13 = .ok (.aload_n 0, 1) := by decide +kernel
theorem dX4_addScope_14 : decode cX4_addScope 14 = .ok (.getfield 7, 3) := by decide +kernel
theorem dX4_addScope_17 : decode cX4_addScope 17 = .ok (.iconst 0, 1) := by decide +kernel
theorem dX4_addScope_18 : decode cX4_addScope 18 = .ok (.iaload, 1) := by decide +kernel
theorem dX4_addScope_19 : decode cX4_addScope 19 = .ok (.bipush 16, 2) := by decide +kernel
theorem dX4_addScope_21 : decode cX4_addScope 21 = .ok (.if_icmp .ne 7, 3) := by decide +kernel
theorem dX4_addScope_24 : decode cX4_addScope 24 = .ok (.iconst 2, 1) := by decide +kernel
theorem dX4_addScope_25 : decode cX4_addScope 25 = .ok (.goto 4, 3) := by decide +kernel
theorem dX4_addScope_28 : decode cX4_addScope 28 = .ok (.iconst 0, 1) := by decide +kernel
theorem dX4_addScope_29 : decode cX4_addScope 29 = .ok (.putfield 37, 3) := by decide +kernel
theorem dX4_addScope_32 : decode cX4_addScope 32 = .ok (.aload_n 0, 1) := by decide +kernel
theorem dX4_addScope_33 : decode cX4_addScope 33 = .ok (.getfield 37, 3) := by decide +kernel
theorem dX4_addScope_36 : decode cX4_addScope 36 = .ok (.ifCond .le 5, 3) := by decide +kernel
theorem dX4_addScope_39 : decode cX4_addScope 39 = .ok (.iconst 0, 1) := by decide +kernel
theorem dX4_addScope_40 : decode cX4_addScope 40 = .ok (.ireturn, 1) := by decide +kernel
theorem dX4_addScope_41 : decode cX4_addScope 41 = .ok (.aload_n 0, 1) := by decide +kernel
theorem dX4_addScope_42 : decode cX4_addScope 42 = .ok (.getfield 7, 3) := by decide +kernel
theorem dX4_addScope_45 : decode cX4_addScope 45 = .ok (.iconst 4, 1) := by decide +kernel
theorem dX4_addScope_46 : decode cX4_addScope 46 = .ok (.aload_n 0, 1) := by decide +kernel
theorem dX4_addScope_47 : decode cX4_addScope 47 = .ok (.getfield 7, 3) := by decide +kernel
theorem dX4_addScope_50 : decode cX4_addScope 50 = .ok (.iconst 0, 1) := by decide +kernel
theorem dX4_addScope_51 : decode cX4_addScope 51 = .ok (.iaload, 1) := by decide +kernel
theorem dX4_addScope_52 : decode cX4_addScope 52 = .ok (.iadd, 1) := by decide +kernel
theorem dX4_addScope_53 : decode cX4_addScope 53 = .ok (.iload_n 1, 1) := by decide +kernel
theorem dX4_addScope_54 : decode cX4_addScope 54 = .ok (.iastore, 1) := by decide +kernel
theorem dX4_addScope_55 : decode cX4_addScope 55 = .ok (.aload_n 0, 1) := by decide +kernel
theorem dX4_addScope_56 : decode cX4_addScope 56 = .ok (.getfield 7, 3) := by decide +kernel
theorem dX4_addScope_59 : decode cX4_addScope 59 = .ok (.iconst 0, 1) := by decide +kernel
theorem dX4_addScope_60 : decode cX4_addScope 60 = .ok (.dup2, 1) := by decide +kernel
theorem dX4_addScope_61 : decode cX4_addScope 61 = .ok (.iaload, 1) := by decide +kernel
theorem dX4_addScope_62 : decode cX4_addScope 62 = .ok (.iconst 1, 1) := by decide +kernel
theorem dX4_addScope_63 : decode cX4_addScope 63 = .ok (.iadd, 1) := by decide +kernel
theorem dX4_addScope_64 : decode cX4_addScope 64 = .ok (.iastore, 1) := by decide +kernel
theorem dX4_addScope_65 : decode cX4_addScope 65 = .ok (.aload_n 0, 1) := by decide +kernel
theorem dX4_addScope_66 : decode cX4_addScope 66 = .ok (.iconst 0, 1) := by decide +kernel
theorem dX4_addScope_67 : decode cX4_addScope 67 = .ok (.putfield 49, 3) := by decide +kernel
theorem dX4_addScope_70 : decode cX4_addScope 70 = .ok (.aload_n 0, 1) := by decide +kernel
theorem dX4_addScope_71 : decode cX4_addScope 71 = .ok (.getfield 7, 3) := by decide +kernel
theorem dX4_addScope_74 : decode cX4_addScope 74 = .ok (.iconst 0, 1) := by decide +kernel
theorem dX4_addScope_75 : decode cX4_addScope 75 = .ok (.iaload, 1) := by decide +kernel
theorem dX4_addScope_76 : decode cX4_addScope 76 = .ok (.iconst 1, 1) := by decide +kernel
theorem dX4_addScope_77 : decode cX4_addScope 77 = .ok (.isub, 1) := by decide +kernel
theorem dX4_addScope_78 : decode cX4_addScope 78 = .ok (.ireturn, 1) := by decide +kernel
theorem dX4_declare_0 : decode cX4_declare 0 = .ok (.aload_n 0, 1) := by decide +kernel
theorem dX4_declare_1 : decode cX4_declare 1 = .ok (.aload_n 0, 1) := by decide +kernel
theorem dX4_declare_2 : decode cX4_declare 2 = .ok (.iload_n 1, 1) := by decide +kernel
theorem dX4_declare_3 : decode cX4_declare 3 = .ok (.invokevirtual 103, 3) := by decide +kernel
theorem dX4_declare_6 : decode cX4_declare 6 = .ok (.ifCond .ne 7, 3) := by decide +kernel
theorem dX4_declare_9 : decode cX4_declare 9 = .ok (.iconst 1, 1) := by decide +kernel
theorem dX4_declare_10 : decode cX4_declare 10 = .ok (.goto 40, 3) := by decide +kernel
theorem dX4_declare_13 : decode cX4_declare 13 = .ok (.iload_n 2, 1) := by decide +kernel
theorem dX4_declare_14 : decode cX4_declare 14 = .ok (.invokestatic 106, 3) := by decide +kernel
theorem dX4_declare_17 : decode cX4_declare 17 = .ok (.ifCond .eq 13, 3) := by decide +kernel
theorem dX4_declare_20 : decode cX4_declare 20 = .ok (.aload_n 0, 1) := by decide +kernel
theorem dX4_declare_21 : decode cX4_declare 21 = .ok (.iload_n 1, 1) := by decide +kernel
theorem dX4_declare_22 : decode cX4_declare 22 = .ok (.iload_n 2, 1) := by decide +kernel
theorem dX4_declare_23 : decode cX4_declare 23 = .ok (.invokevirtual 63, 3) := by decide +kernel
theorem dX4_declare_26 : decode cX4_declare 26 = .ok (.iconst (-1), 1) := by decide +kernel
theorem dX4_declare_27 : decode cX4_declare 27 = .ok (.if_icmp .eq 7, 3) := by decide +kernel
theorem dX4_declare_30 : decode cX4_declare 30 = .ok (.iconst 2, 1) := by decide +kernel
theorem dX4_declare_31 : decode cX4_declare 31 = .ok (.goto 19, 3) := by decide +kernel
theorem dX4_declare_34 : decode cX4_declare 34 = .ok (.aload_n 0, 1) := by decide +kernel
theorem dX4_declare_35 : decode cX4_declare 35 = .ok (.getfield 7, 3) := by decide +kernel
theorem dX4_declare_38 : decode cX4_declare 38 = .ok (.iconst 1, 1) := by decide +kernel
theorem dX4_declare_39 : decode cX4_declare 39 = .ok (.iaload, 1) := by decide +kernel
theorem dX4_declare_40 : decode cX4_declare 40 = .ok (.bipush 30, 2) := by decide +kernel
theorem dX4_declare_42 : decode cX4_declare 42 = .ok (.if_icmp .ne 7, 3) := by decide +kernel
theorem dX4_declare_45 : decode cX4_declare 45 = .ok (.iconst 3, 1) := by decide +kernel
theorem dX4_declare_46 : decode cX4_declare 46 = .ok (.goto 4, 3) := by decide +kernel
theorem dX4_declare_49 : decode cX4_declare 49 = .ok (.iconst 0, 1) := by decide +kernel
theorem dX4_declare_50 : decode cX4_declare 50 = .ok (.putfield 37, 3) := by decide +kernel
theorem dX4_declare_53 : decode cX4_declare 53 = .ok (.aload_n 0, 1) := by decide +kernel
theorem dX4_declare_54 : decode cX4_declare 54 = .ok (.getfield 37, 3) := by decide +kernel
theorem dX4_declare_57 : decode cX4_declare 57 = .ok (.ifCond .le 5, 3) := by decide +kernel
theorem dX4_declare_60 : decode cX4_declare 60 = .ok (.iconst 0, 1) := by decide +kernel
theorem dX4_declare_61 : decode cX4_declare 61 = .ok (.ireturn, 1) := by decide +kernel
theorem dX4_declare_62 : decode cX4_declare 62 = .ok (.aload_n 0, 1) := by decide +kernel
theorem dX4_declare_63 : decode cX4_declare 63 = .ok (.getfield 7, 3) := by decide +kernel
theorem dX4_declare_66 : decode cX4_declare 66 = .ok (.iconst 1, 1) := by decide +kernel
theorem dX4_declare_67 : decode cX4_declare 67 = .ok (.iaload, 1) := by decide +kernel
theorem dX4_declare_68 : decode cX4_declare 68 = .ok (.istore 4, 2) := by decide +kernel
theorem dX4_declare_70 : decode cX4_declare 70 = .ok (.aload_n 0, 1) := by decide +kernel
theorem dX4_declare_71 : decode cX4_declare 71 = .ok (.getfield 7, 3) := by decide +kernel
theorem dX4_declare_74 : decode cX4_declare 74 = .ok (.bipush 20, 2) := by decide +kernel
theorem dX4_declare_76 : decode cX4_declare 76 = .ok (.iconst 3, 1) := by decide +kernel
theorem dX4_declare_77 : decode cX4_declare 77 = .ok (.iload 4, 2) := by decide +kernel
theorem dX4_declare_79 : decode cX4_declare 79 = .ok (.imul, 1) := by decide +kernel
theorem dX4_declare_80 : decode cX4_declare 80 = .ok (.iadd, 1) := by decide +kernel
theorem dX4_declare_81 : decode cX4_declare 81 = .ok (.iload_n 1, 1) := by decide +kernel
theorem dX4_declare_82 : decode cX4_declare 82 = .ok (.iastore, 1) := by decide +kernel
theorem dX4_declare_83 : decode cX4_declare 83 = .ok (.aload_n 0, 1) := by decide +kernel
theorem dX4_declare_84 : decode cX4_declare 84 = .ok (.getfield 7, 3) := by decide +kernel
theorem dX4_declare_87 : decode cX4_declare 87 = .ok (.bipush 20, 2) := by decide +kernel
theorem dX4_declare_89 : decode cX4_declare 89 = .ok (.iconst 3, 1) := by decide +kernel
theorem dX4_declare_90 : decode cX4_declare 90 = .ok (.iload 4, 2) := by decide +kernel
theorem dX4_declare_92 : decode cX4_declare 92 = .ok (.imul, 1) := by decide +kernel
theorem dX4_declare_93 : decode cX4_declare 93 = .ok (.iadd, 1) := by decide +kernel
theorem dX4_declare_94 : decode cX4_declare 94 = .ok (.iconst 1, 1) := by decide +kernel
theorem dX4_declare_95 : decode cX4_declare 95 = .ok (.iadd, 1) := by decide +kernel
theorem dX4_declare_96 : decode cX4_declare 96 = .ok (.iload_n 2, 1) := by decide +kernel
theorem dX4_declare_97 : decode cX4_declare 97 = .ok (.iastore, 1) := by decide +kernel
theorem dX4_declare_98 : decode cX4_declare 98 = .ok (.aload_n 0, 1) := by decide +kernel
theorem dX4_declare_99 : decode cX4_declare 99 = .ok (.getfield 7, 3) := by decide +kernel
theorem dX4_declare_102 : decode cX4_declare 102 = .ok (.bipush 20, 2) := by decide +kernel
theorem dX4_declare_104 : decode cX4_declare 104 = .ok (.iconst 3, 1) := by decide +kernel
theorem dX4_declare_105 : decode cX4_declare 105 = .ok (.iload 4, 2) := by decide +kernel
theorem dX4_declare_107 : decode cX4_declare 107 = .ok (.imul, 1) := by decide +kernel
theorem dX4_declare_108 : decode cX4_declare 108 = .ok (.iadd, 1) := by decide +kernel
theorem dX4_declare_109 : decode cX4_declare 109 = .ok (.iconst 2, 1) := by decide +kernel
theorem dX4_declare_110 : decode cX4_declare 110 = .ok (.iadd, 1) := by decide +kernel
theorem dX4_declare_111 : decode cX4_declare 111 = .ok (.iload_n 3, 1) := by decide +kernel
theorem dX4_declare_112 : decode cX4_declare 112 = .ok (.ifCond .eq 7, 3) := by decide +kernel
theorem dX4_declare_115 : decode cX4_declare 115 = .ok (.iconst 1, 1) := by decide +kernel
theorem dX4_declare_116 : decode cX4_declare 116 = .ok (.goto 4, 3) := by decide +kernel
theorem dX4_declare_119 : decode cX4_declare 119 = .ok (.iconst 0, 1) := by decide +kernel
theorem dX4_declare_120 : decode cX4_declare 120 = .ok (.iastore, 1) := by decide +kernel
theorem dX4_declare_121 : decode cX4_declare 121 = .ok (.aload_n 0, 1) := by decide +kernel
theorem dX4_declare_122 : decode cX4_declare 122 = .ok (.getfield 7, 3) := by decide +kernel
theorem dX4_declare_125 : decode cX4_declare 125 = .ok (.iconst 1, 1) := by decide +kernel
theorem dX4_declare_126 : decode cX4_declare 126 = .ok (.dup2, 1) := by decide +kernel
theorem dX4_declare_127 : decode cX4_declare 127 = .ok (.iaload, 1) := by decide +kernel
theorem dX4_declare_128 : decode cX4_declare 128 = .ok (.iconst 1, 1) := by decide +kernel
theorem dX4_declare_129 : decode cX4_declare 129 = .ok (.iadd, 1) := by decide +kernel
theorem dX4_declare_130 : decode cX4_declare 130 = .ok (.iastore, 1) := by decide +kernel
theorem dX4_declare_131 : decode cX4_declare 131 = .ok (.aload_n 0, 1) := by decide +kernel
theorem dX4_declare_132 : decode cX4_declare 132 = .ok (.iconst 0, 1) := by decide +kernel
theorem dX4_declare_133 : decode cX4_declare 133 = .ok (.putfield 49, 3) := by decide +kernel
theorem dX4_declare_136 : decode cX4_declare 136 = .ok (.iload 4, 2) := by decide +kernel
theorem dX4_declare_138 : decode cX4_declare 138 = .ok (.ireturn, 1) := by decide +kernel
theorem dX4_addImport_0 : decode cX4_addImport 0 = .ok (.bipush 110, 2) := by decide +kernel
theorem dX4_addImport_2 : decode cX4_addImport 2 = .ok (.bipush 6, 2) := by decide +kernel
theorem dX4_addImport_4 : decode cX4_addImport 4 = .ok (.aload_n 0, 1) := by decide +kernel
theorem dX4_addImport_5 : decode cX4_addImport 5 = .ok (.getfield 7, 3) := by decide +kernel
theorem dX4_addImport_8 : decode cX4_addImport 8 = .ok (.iconst 2, 1) := by decide +kernel
theorem dX4_addImport_9 : decode cX4_addImport 9 = .ok (.iaload, 1) := by decide +kernel
theorem dX4_addImport_10 : decode cX4_addImport 10 = .ok (.imul, 1) := by decide +kernel
theorem dX4_addImport_11 : decode cX4_addImport 11 = .ok (.iadd, 1) := by decide +kernel
theorem dX4_addImport_12 : decode cX4_addImport 12 = .ok (.istore 7, 2) := by decide +kernel
theorem dX4_addImport_14 : decode cX4_addImport 14 = .ok (.aload_n 0, 1) := by decide +kernel
theorem dX4_addImport_15 : decode cX4_addImport 15 = .ok (.getfield 7, 3) := by decide +kernel
theorem dX4_addImport_18 : decode cX4_addImport 18 = .ok (.iload 7, 2) := by decide +kernel
theorem dX4_addImport_20 : decode cX4_addImport 20 = .ok (.iload_n 1, 1) := by decide +kernel
theorem dX4_addImport_21 : decode cX4_addImport 21 = .ok (.iastore, 1) := by decide +kernel
theorem dX4_addImport_22 : decode cX4_addImport 22 = .ok (.aload_n 0, 1) := by decide +kernel
theorem dX4_addImport_23 : decode cX4_addImport 23 = .ok (.getfield 7, 3) := by decide +kernel
theorem dX4_addImport_26 : decode cX4_addImport 26 = .ok (.iload 7, 2) := by decide +kernel
theorem dX4_addImport_28 : decode cX4_addImport 28 = .ok (.iconst 1, 1) := by decide +kernel
theorem dX4_addImport_29 : decode cX4_addImport 29 = .ok (.iadd, 1) := by decide +kernel
theorem dX4_addImport_30 : decode cX4_addImport 30 = .ok (.iload_n 2, 1) := by decide +kernel
theorem dX4_addImport_31 : decode cX4_addImport 31 = .ok (.iastore, 1) := by decide +kernel
theorem dX4_addImport_32 : decode cX4_addImport 32 = .ok (.aload_n 0, 1) := by decide +kernel
theorem dX4_addImport_33 : decode cX4_addImport 33 = .ok (.getfield 7, 3) := by decide +kernel
theorem dX4_addImport_36 : decode cX4_addImport 36 = .ok (.iload 7, 2) := by decide +kernel
theorem dX4_addImport_38 : decode cX4_addImport 38 = .ok (.iconst 2, 1) := by decide +kernel
theorem dX4_addImport_39 : decode cX4_addImport 39 = .ok (.iadd, 1) := by decide +kernel
theorem dX4_addImport_40 : decode cX4_addImport 40 = .ok (.iload_n 3, 1) := by decide +kernel
theorem dX4_addImport_41 : decode cX4_addImport 41 = .ok (.iastore, 1) := by decide +kernel
theorem dX4_addImport_42 : decode cX4_addImport 42 = .ok (.aload_n 0, 1) := by decide +kernel
theorem dX4_addImport_43 : decode cX4_addImport 43 = .ok (.getfield 7, 3) := by decide +kernel
theorem dX4_addImport_46 : decode cX4_addImport 46 = .ok (.iload 7, 2) := by decide +kernel
theorem dX4_addImport_48 : decode cX4_addImport 48 = .ok (.iconst 3, 1) := by decide +kernel
theorem dX4_addImport_49 : decode cX4_addImport 49 = .ok (.iadd, 1) := by decide +kernel
theorem dX4_addImport_50 : decode cX4_addImport 50 = .ok (.iload 4, 2) := by decide +kernel
theorem dX4_addImport_52 : decode cX4_addImport 52 = .ok (.iastore, 1) := by decide +kernel
theorem dX4_addImport_53 : decode cX4_addImport 53 = .ok (.aload_n 0, 1) := by decide +kernel
theorem dX4_addImport_54 : decode cX4_addImport 54 = .ok (.getfield 7, 3) := by decide +kernel
theorem dX4_addImport_57 : decode cX4_addImport 57 = .ok (.iload 7, 2) := by decide +kernel
theorem dX4_addImport_59 : decode cX4_addImport 59 = .ok (.iconst 4, 1) := by decide +kernel
theorem dX4_addImport_60 : decode cX4_addImport 60 = .ok (.iadd, 1) := by decide +kernel
theorem dX4_addImport_61 : decode cX4_addImport 61 = .ok (.iload 5, 2) := by decide +kernel
theorem dX4_addImport_63 : decode cX4_addImport 63 = .ok (.iastore, 1) := by decide +kernel
theorem dX4_addImport_64 : decode cX4_addImport 64 = .ok (.aload_n 0, 1) := by decide +kernel
theorem dX4_addImport_65 : decode cX4_addImport 65 = .ok (.getfield 7, 3) := by decide +kernel
theorem dX4_addImport_68 : decode cX4_addImport 68 = .ok (.iload 7, 2) := by decide +kernel
theorem dX4_addImport_70 : decode cX4_addImport 70 = .ok (.iconst 5, 1) := by decide +kernel
theorem dX4_addImport_71 : decode cX4_addImport 71 = .ok (.iadd, 1) := by decide +kernel
theorem dX4_addImport_72 : decode cX4_addImport 72 = .ok (.iload 6, 2) := by decide +kernel
theorem dX4_addImport_74 : decode cX4_addImport 74 = .ok (.ifCond .eq 7, 3) := by decide +kernel
theorem dX4_addImport_77 : decode cX4_addImport 77 = .ok (.iconst 1, 1) := by decide +kernel
theorem dX4_addImport_78 : decode cX4_addImport 78 = .ok (.goto 4, 3) := by decide +kernel
theorem dX4_addImport_81 : decode cX4_addImport 81 = .ok (.iconst 0, 1) := by decide +kernel
theorem dX4_addImport_82 : decode cX4_addImport 82 = .ok (.iastore, 1) := by decide +kernel
theorem dX4_addImport_83 : decode cX4_addImport 83 = .ok (.aload_n 0, 1) := by decide +kernel
theorem dX4_addImport_84 : decode cX4_addImport 84 = .ok (.getfield 7, 3) := by decide +kernel
theorem dX4_addImport_87 : decode cX4_addImport 87 = .ok (.iconst 2, 1) := by decide +kernel
theorem dX4_addImport_88 : decode cX4_addImport 88 = .ok (.dup2, 1) := by decide +kernel
theorem dX4_addImport_89 : decode cX4_addImport 89 = .ok (.iaload, 1) := by decide +kernel
theorem dX4_addImport_90 : decode cX4_addImport 90 = .ok (.iconst 1, 1) := by decide +kernel
theorem dX4_addImport_91 : decode cX4_addImport 91 = .ok (.iadd, 1) := by decide +kernel
theorem dX4_addImport_92 : decode cX4_addImport 92 = .ok (.iastore, 1) := by decide +kernel
theorem dX4_addImport_93 : decode cX4_addImport 93 = .ok (.aload_n 0, 1) := by decide +kernel
theorem dX4_addImport_94 : decode cX4_addImport 94 = .ok (.iconst 0, 1) := by decide +kernel
theorem dX4_addImport_95 : decode cX4_addImport 95 = .ok (.putfield 49, 3) := by decide +kernel
theorem dX4_addImport_98 : decode cX4_addImport 98 = .ok (.aload_n 0, 1) := by decide +kernel
theorem dX4_addImport_99 : decode cX4_addImport 99 = .ok (.getfield 7, 3) := by decide +kernel
theorem dX4_addImport_102 : decode cX4_addImport 102 = .ok (.iconst 2, 1) := by decide +kernel
theorem dX4_addImport_103 : decode cX4_addImport 103 = .ok (.iaload, 1) := by decide +kernel
theorem dX4_addImport_104 : decode cX4_addImport 104 = .ok (.iconst 1, 1) := by decide +kernel
theorem dX4_addImport_105 : decode cX4_addImport 105 = .ok (.isub, 1) := by decide +kernel
theorem dX4_addImport_106 : decode cX4_addImport 106 = .ok (.ireturn, 1) := by decide +kernel
theorem dX4_wrongImport_0 : decode cX4_wrongImport 0 = .ok (.aload_n 0, 1) := by decide +kernel
theorem dX4_wrongImport_1 : decode cX4_wrongImport 1 = .ok (.iload_n 1, 1) := by decide +kernel
theorem dX4_wrongImport_2 : decode cX4_wrongImport 2 = .ok (.invokevirtual 103, 3) := by decide +kernel
theorem dX4_wrongImport_5 : decode cX4_wrongImport 5 = .ok (.ifCond .eq 11, 3) := by decide +kernel
theorem dX4_wrongImport_8 : decode cX4_wrongImport 8 = .ok (.aload_n 0, 1) := by decide +kernel
theorem dX4_wrongImport_9 : decode cX4_wrongImport 9 = .ok (.iload_n 2, 1) := by decide +kernel
theorem dX4_wrongImport_10 : decode cX4_wrongImport 10 = .ok (.invokevirtual 103, 3) := by decide +kernel
theorem dX4_wrongImport_13 : decode cX4_wrongImport 13 = .ok (.ifCond .ne 7, 3) := by decide +kernel
theorem dX4_wrongImport_16 : decode cX4_wrongImport 16 = .ok (.iconst 1, 1) := by decide +kernel
theorem dX4_wrongImport_17 : decode cX4_wrongImport 17 = .ok (.goto 32, 3) := by decide +kernel
theorem dX4_wrongImport_20 : decode cX4_wrongImport 20 = .ok (.iload_n 1, 1) := by decide +kernel
theorem dX4_wrongImport_21 : decode cX4_wrongImport 21 = .ok (.iload_n 2, 1) := by decide +kernel
theorem dX4_wrongImport_22 : decode cX4_wrongImport 22 = .ok (.if_icmp .eq 7, 3) := by decide +kernel
theorem dX4_wrongImport_25 : decode cX4_wrongImport 25 = .ok (.iload_n 3, 1) := by decide +kernel
theorem dX4_wrongImport_26 : decode cX4_wrongImport 26 = .ok (.ifCond .ne 7, 3) := by decide +kernel
theorem dX4_wrongImport_29 : decode cX4_wrongImport 29 = .ok (.iconst 2, 1) := by decide +kernel
theorem dX4_wrongImport_30 : decode cX4_wrongImport 30 = .ok (.goto 19, 3) := by decide +kernel
theorem dX4_wrongImport_33 : decode cX4_wrongImport 33 = .ok (.aload_n 0, 1) := by decide +kernel
theorem dX4_wrongImport_34 : decode cX4_wrongImport 34 = .ok (.getfield 7, 3) := by decide +kernel
theorem dX4_wrongImport_37 : decode cX4_wrongImport 37 = .ok (.iconst 2, 1) := by decide +kernel
theorem dX4_wrongImport_38 : decode cX4_wrongImport 38 = .ok (.iaload, 1) := by decide +kernel
theorem dX4_wrongImport_39 : decode cX4_wrongImport 39 = .ok (.bipush 20, 2) := by decide +kernel
theorem dX4_wrongImport_41 : decode cX4_wrongImport 41 = .ok (.if_icmp .ne 7, 3) := by decide +kernel
theorem dX4_wrongImport_44 : decode cX4_wrongImport 44 = .ok (.iconst 3, 1) := by decide +kernel
theorem dX4_wrongImport_45 : decode cX4_wrongImport 45 = .ok (.goto 4, 3) := by decide +kernel
theorem dX4_wrongImport_48 : decode cX4_wrongImport 48 = .ok (.iconst 0, 1) := by decide +kernel
theorem dX4_wrongImport_49 : decode cX4_wrongImport 49 = .ok (.ireturn, 1) := by decide +kernel
theorem dX4_importOne_0 : decode cX4_importOne 0 = .ok (.aload_n 0, 1) := by decide +kernel
theorem dX4_importOne_1 : decode cX4_importOne 1 = .ok (.aload_n 0, 1) := by decide +kernel
theorem dX4_importOne_2 : decode cX4_importOne 2 = .ok (.iload_n 1, 1) := by decide +kernel
theorem dX4_importOne_3 : decode cX4_importOne 3 = .ok (.iload_n 2, 1) := by decide +kernel
theorem dX4_importOne_4 : decode cX4_importOne 4 = .ok (.iload_n 3, 1) := by decide +kernel
theorem dX4_importOne_5 : decode cX4_importOne 5 = .ok (.invokestatic 106, 3) := by decide +kernel
theorem dX4_importOne_8 : decode cX4_importOne 8 = .ok (.ifCond .eq 15, 3) := by decide +kernel
theorem dX4_importOne_11 : decode cX4_importOne 11 = .ok (.iload 4, 2) := by decide +kernel
theorem dX4_importOne_13 : decode cX4_importOne 13 = .ok (.invokestatic 106, 3) := by decide +kernel
theorem dX4_importOne_16 : decode cX4_importOne 16 = .ok (.ifCond .eq 7, 3) := by decide +kernel
theorem dX4_importOne_19 : decode cX4_importOne 19 = .ok (.iconst 1, 1) := by decide +kernel
theorem dX4_importOne_20 : decode cX4_importOne 20 = .ok (.goto 4, 3) := by decide +kernel
theorem dX4_importOne_23 : decode cX4_importOne 23 = .ok (.iconst 0, 1) := by decide +kernel
theorem dX4_importOne_24 : decode cX4_importOne 24 = .ok (.invokevirtual 109, 3) := by decide +kernel
theorem dX4_importOne_27 : decode cX4_importOne 27 = .ok (.putfield 37, 3) := by decide +kernel
theorem dX4_importOne_30 : decode cX4_importOne 30 = .ok (.aload_n 0, 1) := by decide +kernel
theorem dX4_importOne_31 : decode cX4_importOne 31 = .ok (.getfield 37, 3) := by decide +kernel
theorem dX4_importOne_34 : decode cX4_importOne 34 = .ok (.ifCond .le 7, 3) := by decide +kernel
theorem dX4_importOne_37 : decode cX4_importOne 37 = .ok (.iconst 0, 1) := by decide +kernel
theorem dX4_importOne_38 : decode cX4_importOne 38 = .ok (.goto 15, 3) := by decide +kernel
theorem dX4_importOne_41 : decode cX4_importOne 41 = .ok (.aload_n 0, 1) := by decide +kernel
theorem dX4_importOne_42 : decode cX4_importOne 42 = .ok (.iload_n 1, 1) := by decide +kernel
theorem dX4_importOne_43 : decode cX4_importOne 43 = .ok (.iload_n 2, 1) := by decide +kernel
theorem dX4_importOne_44 : decode cX4_importOne 44 = .ok (.iload_n 3, 1) := by decide +kernel
theorem dX4_importOne_45 : decode cX4_importOne 45 = .ok (.iload 4, 2) := by decide +kernel
theorem dX4_importOne_47 : decode cX4_importOne 47 = .ok (.iconst 0, 1) := by decide +kernel
theorem dX4_importOne_48 : decode cX4_importOne 48 = .ok (.iload 5, 2) := by decide +kernel
theorem dX4_importOne_50 : decode cX4_importOne 50 = .ok (.invokevirtual 113, 3) := by decide +kernel
theorem dX4_importOne_53 : decode cX4_importOne 53 = .ok (.ireturn, 1) := by decide +kernel
theorem dX4_importAll_0 : decode cX4_importAll 0 = .ok (.aload_n 0, 1) := by decide +kernel
theorem dX4_importAll_1 : decode cX4_importAll 1 = .ok (.aload_n 0, 1) := by decide +kernel
theorem dX4_importAll_2 : decode cX4_importAll 2 = .ok (.iload_n 1, 1) := by decide +kernel
theorem dX4_importAll_3 : decode cX4_importAll 3 = .ok (.iload_n 2, 1) := by decide +kernel
theorem dX4_importAll_4 : decode cX4_importAll 4 = .ok (.iload_n 3, 1) := by decide +kernel
theorem dX4_importAll_5 : decode cX4_importAll 5 = .ok (.iconst 0, 1) := by decide +kernel
theorem dX4_importAll_6 : decode cX4_importAll 6 = .ok (.ldc 117, 2) := by decide +kernel
theorem dX4_importAll_8 : decode cX4_importAll 8 = .ok (.invokestatic 41, 3) := by decide +kernel
theorem dX4_importAll_11 : decode cX4_importAll 11 = .ok (.invokevirtual 109, 3) := by decide +kernel
theorem dX4_importAll_14 : decode cX4_importAll 14 = .ok (.putfield 37, 3) := by decide +kernel
theorem dX4_importAll_17 : decode cX4_importAll 17 = .ok (.aload_n 0, 1) := by decide +kernel
theorem dX4_importAll_18 : decode cX4_importAll 18 = .ok (.getfield 37, 3) := by decide +kernel
theorem dX4_importAll_21 : decode cX4_importAll 21 = .ok (.ifCond .le 7, 3) := by decide +kernel
theorem dX4_importAll_24 : decode cX4_importAll 24 = .ok (.iconst 0, 1) := by decide +kernel
theorem dX4_importAll_25 : decode cX4_importAll 25 = .ok (.goto 14, 3) := by decide +kernel
theorem dX4_importAll_28 : decode cX4_importAll 28 = .ok (.aload_n 0, 1) := by decide +kernel
theorem dX4_importAll_29 : decode cX4_importAll 29 = .ok (.iload_n 1, 1) := by decide +kernel
theorem dX4_importAll_30 : decode cX4_importAll 30 = .ok (.iload_n 2, 1) := by decide +kernel
theorem dX4_importAll_31 : decode cX4_importAll 31 = .ok (.iconst (-1), 1) := by decide +kernel
theorem dX4_importAll_32 : decode cX4_importAll 32 = .ok (.iconst (-1), 1) := by decide +kernel
theorem dX4_importAll_33 : decode cX4_importAll 33 = .ok (.iload_n 3, 1) := by decide +kernel
theorem dX4_importAll_34 : decode cX4_importAll 34 = .ok (.iload 4, 2) := by decide +kernel
theorem dX4_importAll_36 : decode cX4_importAll 36 = .ok (.invokevirtual 113, 3) := by decide +kernel
theorem dX4_importAll_39 : decode cX4_importAll 39 = .ok (.ireturn, 1) := by decide +kernel
theorem dX4_use_0 : decode cX4_use 0 = .ok (.aload_n 0, 1) := by decide +kernel
theorem dX4_use_1 : decode cX4_use 1 = .ok (.aload_n 0, 1) := by decide +kernel
theorem dX4_use_2 : decode cX4_use 2 = .ok (.iload_n 1, 1) := by decide +kernel
theorem dX4_use_3 : decode cX4_use 3 = .ok (.invokevirtual 103, 3) := by decide +kernel
theorem dX4_use_6 : decode cX4_use 6 = .ok (.ifCond .ne 7, 3) := by decide +kernel
theorem dX4_use_9 : decode cX4_use 9 = .ok (.iconst 1, 1) := by decide +kernel
theorem dX4_use_10 : decode cX4_use 10 = .ok (.goto 30, 3) := by decide +kernel
theorem dX4_use_13 : decode cX4_use 13 = .ok (.iload_n 2, 1) := by decide +kernel
theorem dX4_use_14 : decode cX4_use 14 = .ok (.invokestatic 106, 3) := by decide +kernel
theorem dX4_use_17 : decode cX4_use 17 = .ok (.ifCond .ne 7, 3) := by decide +kernel
theorem dX4_use_20 : decode cX4_use 20 = .ok (.iconst 2, 1) := by decide +kernel
theorem dX4_use_21 : decode cX4_use 21 = .ok (.goto 19, 3) := by decide +kernel
theorem dX4_use_24 : decode cX4_use 24 = .ok (.aload_n 0, 1) := by decide +kernel
theorem dX4_use_25 : decode cX4_use 25 = .ok (.getfield 7, 3) := by decide +kernel
theorem dX4_use_28 : decode cX4_use 28 = .ok (.iconst 3, 1) := by decide +kernel
theorem dX4_use_29 : decode cX4_use 29 = .ok (.iaload, 1) := by decide +kernel
theorem dX4_use_30 : decode cX4_use 30 = .ok (.bipush 30, 2) := by decide +kernel
theorem dX4_use_32 : decode cX4_use 32 = .ok (.if_icmp .ne 7, 3) := by decide +kernel
theorem dX4_use_35 : decode cX4_use 35 = .ok (.iconst 3, 1) := by decide +kernel
theorem dX4_use_36 : decode cX4_use 36 = .ok (.goto 4, 3) := by decide +kernel
theorem dX4_use_39 : decode cX4_use 39 = .ok (.iconst 0, 1) := by decide +kernel
theorem dX4_use_40 : decode cX4_use 40 = .ok (.putfield 37, 3) := by decide +kernel
theorem dX4_use_43 : decode cX4_use 43 = .ok (.aload_n 0, 1) := by decide +kernel
theorem dX4_use_44 : decode cX4_use 44 = .ok (.getfield 37, 3) := by decide +kernel
theorem dX4_use_47 : decode cX4_use 47 = .ok (.ifCond .le 5, 3) := by decide +kernel
theorem dX4_use_50 : decode cX4_use 50 = .ok (.iconst 0, 1) := by decide +kernel
theorem dX4_use_51 : decode cX4_use 51 = .ok (.ireturn, 1) := by decide +kernel
theorem dX4_use_52 : decode cX4_use 52 = .ok (.aload_n 0, 1) := by decide +kernel
theorem dX4_use_53 : decode cX4_use 53 = .ok (.getfield 7, 3) := by decide +kernel
theorem dX4_use_56 : decode cX4_use 56 = .ok (.sipush 230, 3) := by decide +kernel
theorem dX4_use_59 : decode cX4_use 59 = .ok (.iconst 2, 1) := by decide +kernel
theorem dX4_use_60 : decode cX4_use 60 = .ok (.aload_n 0, 1) := by decide +kernel
theorem dX4_use_61 : decode cX4_use 61 = .ok (.getfield 7, 3) := by decide +kernel
theorem dX4_use_64 : decode cX4_use 64 = .ok (.iconst 3, 1) := by decide +kernel
theorem dX4_use_65 : decode cX4_use 65 = .ok (.iaload, 1) := by decide +kernel
theorem dX4_use_66 : decode cX4_use 66 = .ok (.imul, 1) := by decide +kernel
theorem dX4_use_67 : decode cX4_use 67 = .ok (.iadd, 1) := by decide +kernel
theorem dX4_use_68 : decode cX4_use 68 = .ok (.iload_n 1, 1) := by decide +kernel
theorem dX4_use_69 : decode cX4_use 69 = .ok (.iastore, 1) := by decide +kernel
theorem dX4_use_70 : decode cX4_use 70 = .ok (.aload_n 0, 1) := by decide +kernel
theorem dX4_use_71 : decode cX4_use 71 = .ok (.getfield 7, 3) := by decide +kernel
theorem dX4_use_74 : decode cX4_use 74 = .ok (.sipush 230, 3) := by decide +kernel
theorem dX4_use_77 : decode cX4_use 77 = .ok (.iconst 2, 1) := by decide +kernel
theorem dX4_use_78 : decode cX4_use 78 = .ok (.aload_n 0, 1) := by decide +kernel
theorem dX4_use_79 : decode cX4_use 79 = .ok (.getfield 7, 3) := by decide +kernel
theorem dX4_use_82 : decode cX4_use 82 = .ok (.iconst 3, 1) := by decide +kernel
theorem dX4_use_83 : decode cX4_use 83 = .ok (.iaload, 1) := by decide +kernel
theorem dX4_use_84 : decode cX4_use 84 = .ok (.imul, 1) := by decide +kernel
theorem dX4_use_85 : decode cX4_use 85 = .ok (.iadd, 1) := by decide +kernel
theorem dX4_use_86 : decode cX4_use 86 = .ok (.iconst 1, 1) := by decide +kernel
theorem dX4_use_87 : decode cX4_use 87 = .ok (.iadd, 1) := by decide +kernel
theorem dX4_use_88 : decode cX4_use 88 = .ok (.iload_n 2, 1) := by decide +kernel
theorem dX4_use_89 : decode cX4_use 89 = .ok (.iastore, 1) := by decide +kernel
theorem dX4_use_90 : decode cX4_use 90 = .ok (.aload_n 0, 1) := by decide +kernel
theorem dX4_use_91 : decode cX4_use 91 = .ok (.getfield 7, 3) := by decide +kernel
theorem dX4_use_94 : decode cX4_use 94 = .ok (.iconst 3, 1) := by decide +kernel
theorem dX4_use_95 : decode cX4_use 95 = .ok (.dup2, 1) := by decide +kernel
theorem dX4_use_96 : decode cX4_use 96 = .ok (.iaload, 1) := by decide +kernel
theorem dX4_use_97 : decode cX4_use 97 = .ok (.iconst 1, 1) := by decide +kernel
theorem dX4_use_98 : decode cX4_use 98 = .ok (.iadd, 1) := by decide +kernel
theorem dX4_use_99 : decode cX4_use 99 = .ok (.iastore, 1) := by decide +kernel
theorem dX4_use_100 : decode cX4_use 100 = .ok (.aload_n 0, 1) := by decide +kernel
theorem dX4_use_101 : decode cX4_use 101 = .ok (.getfield 7, 3) := by decide +kernel
theorem dX4_use_104 : decode cX4_use 104 = .ok (.iconst 3, 1) := by decide +kernel
theorem dX4_use_105 : decode cX4_use 105 = .ok (.iaload, 1) := by decide +kernel
theorem dX4_use_106 : decode cX4_use 106 = .ok (.iconst 1, 1) := by decide +kernel
theorem dX4_use_107 : decode cX4_use 107 = .ok (.isub, 1) := by decide +kernel
theorem dX4_use_108 : decode cX4_use 108 = .ok (.ireturn, 1) := by decide +kernel
theorem dX4_layOutcomes_0 : decode cX4_layOutcomes 0 = .ok (.iconst 0, 1) := by decide +kernel
theorem dX4_layOutcomes_1 : decode cX4_layOutcomes 1 = .ok (.istore_n 1, 1) := by decide +kernel
theorem dX4_layOutcomes_2 : decode cX4_layOutcomes 2 = .ok (.iload_n 1, 1) := by decide +kernel
theorem dX4_layOutcomes_3 : decode cX4_layOutcomes 3 = .ok (.aload_n 0, 1) := by decide +kernel
theorem dX4_layOutcomes_4 : decode cX4_layOutcomes 4 = .ok (.getfield 7, 3) := by decide +kernel
theorem dX4_layOutcomes_7 : decode cX4_layOutcomes 7 = .ok (.iconst 3, 1) := by decide +kernel
theorem dX4_layOutcomes_8 : decode cX4_layOutcomes 8 = .ok (.iaload, 1) := by decide +kernel
theorem dX4_layOutcomes_9 : decode cX4_layOutcomes 9 = .ok (.if_icmp .ge 20, 3) := by decide +kernel
theorem dX4_layOutcomes_12 : decode cX4_layOutcomes 12 = .ok (.aload_n 0, 1) := by decide +kernel
theorem dX4_layOutcomes_13 : decode cX4_layOutcomes 13 = .ok (.getfield 31, 3) := by decide +kernel
theorem dX4_layOutcomes_16 : decode cX4_layOutcomes 16 = .ok (.iload_n 1, 1) := by decide +kernel
theorem dX4_layOutcomes_17 : decode cX4_layOutcomes 17 = .ok (.aload_n 0, 1) := by decide +kernel
theorem dX4_layOutcomes_18 : decode cX4_layOutcomes 18 = .ok (.iload_n 1, 1) := by decide +kernel
theorem dX4_layOutcomes_19 : decode cX4_layOutcomes 19 = .ok (.invokevirtual 118, 3) := by decide +kernel
theorem dX4_layOutcomes_22 : decode cX4_layOutcomes 22 = .ok (.iastore, 1) := by decide +kernel
theorem dX4_layOutcomes_23 : decode cX4_layOutcomes 23 = .ok (.iinc 1 1, 3) := by decide +kernel
theorem dX4_layOutcomes_26 : decode cX4_layOutcomes 26 = .ok (.goto (-24), 3) := by decide +kernel
theorem dX4_layOutcomes_29 : decode cX4_layOutcomes 29 = .ok (.return_, 1) := by decide +kernel
theorem dX4_otherOutcomes_0 : decode cX4_otherOutcomes 0 = .ok (.iconst 0, 1) := by decide +kernel
theorem dX4_otherOutcomes_1 : decode cX4_otherOutcomes 1 = .ok (.istore_n 1, 1) := by decide +kernel
theorem dX4_otherOutcomes_2 : decode cX4_otherOutcomes 2 = .ok (.iconst 0, 1) := by decide +kernel
theorem dX4_otherOutcomes_3 : decode cX4_otherOutcomes 3 = .ok (.istore_n 2, 1) := by decide +kernel
theorem dX4_otherOutcomes_4 : decode cX4_otherOutcomes 4 = .ok (.iload_n 2, 1) := by decide +kernel
theorem dX4_otherOutcomes_5 : decode cX4_otherOutcomes 5 = .ok (.aload_n 0, 1) := by decide +kernel
theorem dX4_otherOutcomes_6 : decode cX4_otherOutcomes 6 = .ok (.getfield 7, 3) := by decide +kernel
theorem dX4_otherOutcomes_9 : decode cX4_otherOutcomes 9 = .ok (.iconst 3, 1) := by decide +kernel
theorem dX4_otherOutcomes_10 : decode cX4_otherOutcomes 10 = .ok (.iaload, 1) := by decide +kernel
theorem dX4_otherOutcomes_11 : decode cX4_otherOutcomes 11 = .ok (.if_icmp .ge 31, 3) := by decide +kernel
theorem dX4_otherOutcomes_14 : decode cX4_otherOutcomes 14 = .ok (.iload_n 1, 1) := by decide +kernel
theorem dX4_otherOutcomes_15 : decode cX4_otherOutcomes 15 = .ok (.aload_n 0, 1) := by decide +kernel
theorem dX4_otherOutcomes_16 : decode cX4_otherOutcomes 16 = .ok (.iload_n 2, 1) := by decide +kernel
theorem dX4_otherOutcomes_17 : decode cX4_otherOutcomes 17 = .ok (.invokevirtual 118, 3) := by decide +kernel
theorem dX4_otherOutcomes_20 : decode cX4_otherOutcomes 20 = .ok (.aload_n 0, 1) := by decide +kernel
theorem dX4_otherOutcomes_21 : decode cX4_otherOutcomes 21 = .ok (.getfield 31, 3) := by decide +kernel
theorem dX4_otherOutcomes_24 : decode cX4_otherOutcomes 24 = .ok (.iload_n 2, 1) := by decide +kernel
theorem dX4_otherOutcomes_25 : decode cX4_otherOutcomes 25 = .ok (.iaload, 1) := by decide +kernel
theorem dX4_otherOutcomes_26 : decode cX4_otherOutcomes 26 = .ok (.if_icmp .ne 7, 3) := by decide +kernel
theorem dX4_otherOutcomes_29 : decode cX4_otherOutcomes 29 = .ok (.iconst 0, 1) := by decide +kernel
theorem dX4_otherOutcomes_30 : decode cX4_otherOutcomes 30 = .ok (.goto 4, 3) := by decide +kernel
theorem dX4_otherOutcomes_33 : decode cX4_otherOutcomes 33 = .ok (.iconst 1, 1) := by decide +kernel
theorem dX4_otherOutcomes_34 : decode cX4_otherOutcomes 34 = .ok (.iadd, 1) := by decide +kernel
theorem dX4_otherOutcomes_35 : decode cX4_otherOutcomes 35 = .ok (.istore_n 1, 1) := by decide +kernel
theorem dX4_otherOutcomes_36 : decode cX4_otherOutcomes 36 = .ok (.iinc 2 1, 3) := by decide +kernel
theorem dX4_otherOutcomes_39 : decode cX4_otherOutcomes 39 = .ok (.goto (-35), 3) := by decide +kernel
theorem dX4_otherOutcomes_42 : decode cX4_otherOutcomes 42 = .ok (.iload_n 1, 1) := by decide +kernel
theorem dX4_otherOutcomes_43 : decode cX4_otherOutcomes 43 = .ok (.ireturn, 1) := by decide +kernel
theorem dX4_cut_0 : decode cX4_cut 0 = .ok (.aload_n 0, 1) := by decide +kernel
theorem dX4_cut_1 : decode cX4_cut 1 = .ok (.getfield 7, 3) := by decide +kernel
theorem dX4_cut_4 : decode cX4_cut 4 = .ok (.iload 4, 2) := by decide +kernel
theorem dX4_cut_6 : decode cX4_cut 6 = .ok (.dup2, 1) := by decide +kernel
theorem dX4_cut_7 : decode cX4_cut 7 = .ok (.iaload, 1) := by decide +kernel
theorem dX4_cut_8 : decode cX4_cut 8 = .ok (.iconst 1, 1) := by decide +kernel
theorem dX4_cut_9 : decode cX4_cut 9 = .ok (.isub, 1) := by decide +kernel
theorem dX4_cut_10 : decode cX4_cut 10 = .ok (.iastore, 1) := by decide +kernel
theorem dX4_cut_11 : decode cX4_cut 11 = .ok (.iload_n 1, 1) := by decide +kernel
theorem dX4_cut_12 : decode cX4_cut 12 = .ok (.iload_n 2, 1) := by decide +kernel
theorem dX4_cut_13 : decode cX4_cut 13 = .ok (.iload_n 3, 1) := by decide +kernel
theorem dX4_cut_14 : decode cX4_cut 14 = .ok (.imul, 1) := by decide +kernel
theorem dX4_cut_15 : decode cX4_cut 15 = .ok (.iadd, 1) := by decide +kernel
theorem dX4_cut_16 : decode cX4_cut 16 = .ok (.istore 5, 2) := by decide +kernel
theorem dX4_cut_18 : decode cX4_cut 18 = .ok (.iload 5, 2) := by decide +kernel
theorem dX4_cut_20 : decode cX4_cut 20 = .ok (.iload_n 1, 1) := by decide +kernel
theorem dX4_cut_21 : decode cX4_cut 21 = .ok (.iload_n 2, 1) := by decide +kernel
theorem dX4_cut_22 : decode cX4_cut 22 = .ok (.aload_n 0, 1) := by decide +kernel
theorem dX4_cut_23 : decode cX4_cut 23 = .ok (.getfield 7, 3) := by decide +kernel
theorem dX4_cut_26 : decode cX4_cut 26 = .ok (.iload 4, 2) := by decide +kernel
theorem dX4_cut_28 : decode cX4_cut 28 = .ok (.iaload, 1) := by decide +kernel
theorem dX4_cut_29 : decode cX4_cut 29 = .ok (.imul, 1) := by decide +kernel
theorem dX4_cut_30 : decode cX4_cut 30 = .ok (.iadd, 1) := by decide +kernel
theorem dX4_cut_31 : decode cX4_cut 31 = .ok (.if_icmp .ge 25, 3) := by decide +kernel
theorem dX4_cut_34 : decode cX4_cut 34 = .ok (.aload_n 0, 1) := by decide +kernel
theorem dX4_cut_35 : decode cX4_cut 35 = .ok (.getfield 7, 3) := by decide +kernel
theorem dX4_cut_38 : decode cX4_cut 38 = .ok (.iload 5, 2) := by decide +kernel
theorem dX4_cut_40 : decode cX4_cut 40 = .ok (.aload_n 0, 1) := by decide +kernel
theorem dX4_cut_41 : decode cX4_cut 41 = .ok (.getfield 7, 3) := by decide +kernel
theorem dX4_cut_44 : decode cX4_cut 44 = .ok (.iload 5, 2) := by decide +kernel
theorem dX4_cut_46 : decode cX4_cut 46 = .ok (.iload_n 2, 1) := by decide +kernel
theorem dX4_cut_47 : decode cX4_cut 47 = .ok (.iadd, 1) := by decide +kernel
theorem dX4_cut_48 : decode cX4_cut 48 = .ok (.iaload, 1) := by decide +kernel
theorem dX4_cut_49 : decode cX4_cut 49 = .ok (.iastore, 1) := by decide +kernel
theorem dX4_cut_50 : decode cX4_cut 50 = .ok (.iinc 5 1, 3) := by decide +kernel
theorem dX4_cut_53 : decode cX4_cut 53 = .ok (.goto (-35), 3) := by decide +kernel
theorem dX4_cut_56 : decode cX4_cut 56 = .ok (.aload_n 0, 1) := by decide +kernel
theorem dX4_cut_57 : decode cX4_cut 57 = .ok (.iconst 0, 1) := by decide +kernel
theorem dX4_cut_58 : decode cX4_cut 58 = .ok (.putfield 49, 3) := by decide +kernel
theorem dX4_cut_61 : decode cX4_cut 61 = .ok (.return_, 1) := by decide +kernel
theorem dX4_lowered_0 : decode cX4_lowered 0 = .ok (.iload_n 0, 1) := by decide +kernel
theorem dX4_lowered_1 : decode cX4_lowered 1 = .ok (.iload_n 1, 1) := by decide +kernel
theorem dX4_lowered_2 : decode cX4_lowered 2 = .ok (.ishr, 1) := by decide +kernel
theorem dX4_lowered_3 : decode cX4_lowered 3 = .ok (.iconst 1, 1) := by decide +kernel
theorem dX4_lowered_4 : decode cX4_lowered 4 = .ok (.iand, 1) := by decide +kernel
theorem dX4_lowered_5 : decode cX4_lowered 5 = .ok (.iconst 1, 1) := by decide +kernel
theorem dX4_lowered_6 : decode cX4_lowered 6 = .ok (.if_icmp .ne 5, 3) := by decide +kernel
theorem dX4_lowered_9 : decode cX4_lowered 9 = .ok (.iconst (-1), 1) := by decide +kernel
theorem dX4_lowered_10 : decode cX4_lowered 10 = .ok (.ireturn, 1) := by decide +kernel
theorem dX4_lowered_11 : decode cX4_lowered 11 = .ok (.iload_n 0, 1) := by decide +kernel
theorem dX4_lowered_12 : decode cX4_lowered 12 = .ok (.iconst 1, 1) := by decide +kernel
theorem dX4_lowered_13 : decode cX4_lowered 13 = .ok (.iload_n 1, 1) := by decide +kernel
theorem dX4_lowered_14 : decode cX4_lowered 14 = .ok (.ishl, 1) := by decide +kernel
theorem dX4_lowered_15 : decode cX4_lowered 15 = .ok (.iconst 1, 1) := by decide +kernel
theorem dX4_lowered_16 : decode cX4_lowered 16 = .ok (.isub, 1) := by decide +kernel
theorem dX4_lowered_17 : decode cX4_lowered 17 = .ok (.iand, 1) := by decide +kernel
theorem dX4_lowered_18 : decode cX4_lowered 18 = .ok (.istore_n 2, 1) := by decide +kernel
theorem dX4_lowered_19 : decode cX4_lowered 19 = .ok (.iload_n 2, 1) := by decide +kernel
theorem dX4_lowered_20 : decode cX4_lowered 20 = .ok (.iload_n 0, 1) := by decide +kernel
theorem dX4_lowered_21 : decode cX4_lowered 21 = .ok (.iload_n 1, 1) := by decide +kernel
theorem dX4_lowered_22 : decode cX4_lowered 22 = .ok (.iconst 1, 1) := by decide +kernel
theorem dX4_lowered_23 : decode cX4_lowered 23 = .ok (.iadd, 1) := by decide +kernel
theorem dX4_lowered_24 : decode cX4_lowered 24 = .ok (.ishr, 1) := by decide +kernel
theorem dX4_lowered_25 : decode cX4_lowered 25 = .ok (.iload_n 1, 1) := by decide +kernel
theorem dX4_lowered_26 : decode cX4_lowered 26 = .ok (.ishl, 1) := by decide +kernel
theorem dX4_lowered_27 : decode cX4_lowered 27 = .ok (.ior, 1) := by decide +kernel
theorem dX4_lowered_28 : decode cX4_lowered 28 = .ok (.ireturn, 1) := by decide +kernel
theorem dX4_removes_0 : decode cX4_removes 0 = .ok (.aload_n 0, 1) := by decide +kernel
theorem dX4_removes_1 : decode cX4_removes 1 = .ok (.invokevirtual 121, 3) := by decide +kernel
theorem dX4_removes_4 : decode cX4_removes 4 = .ok (.iload_n 1, 1) := by decide +kernel
theorem dX4_removes_5 : decode cX4_removes 5 = .ok (.ifCond .ne 49, 3) := by decide +kernel
theorem dX4_removes_8 : decode cX4_removes 8 = .ok (.iconst 0, 1) := by decide +kernel
theorem dX4_removes_9 : decode cX4_removes 9 = .ok (.istore_n 3, 1) := by decide +kernel
theorem dX4_removes_10 : decode cX4_removes 10 = .ok (.iload_n 3, 1) := by decide +kernel
theorem dX4_removes_11 : decode cX4_removes 11 = .ok (.aload_n 0, 1) := by decide +kernel
theorem dX4_removes_12 : decode cX4_removes 12 = .ok (.getfield 7, 3) := by decide +kernel
theorem dX4_removes_15 : decode cX4_removes 15 = .ok (.iconst 3, 1) := by decide +kernel
theorem dX4_removes_16 : decode cX4_removes 16 = .ok (.iaload, 1) := by decide +kernel
theorem dX4_removes_17 : decode cX4_removes 17 = .ok (.if_icmp .ge 25, 3) := by decide +kernel
theorem dX4_removes_20 : decode cX4_removes 20 = .ok (.aload_n 0, 1) := by decide +kernel
theorem dX4_removes_21 : decode cX4_removes 21 = .ok (.getfield 31, 3) := by decide +kernel
theorem dX4_removes_24 : decode cX4_removes 24 = .ok (.iload_n 3, 1) := by decide +kernel
theorem dX4_removes_25 : decode cX4_removes 25 = .ok (.aload_n 0, 1) := by decide +kernel
theorem dX4_removes_26 : decode cX4_removes 26 = .ok (.getfield 31, 3) := by decide +kernel
theorem dX4_removes_29 : decode cX4_removes 29 = .ok (.iload_n 3, 1) := by decide +kernel
theorem dX4_removes_30 : decode cX4_removes 30 = .ok (.iaload, 1) := by decide +kernel
theorem dX4_removes_31 : decode cX4_removes 31 = .ok (.iload_n 2, 1) := by decide +kernel
theorem dX4_removes_32 : decode cX4_removes 32 = .ok (.invokestatic 124, 3) := by decide +kernel
theorem dX4_removes_35 : decode cX4_removes 35 = .ok (.iastore, 1) := by decide +kernel
theorem dX4_removes_36 : decode cX4_removes 36 = .ok (.iinc 3 1, 3) := by decide +kernel
theorem dX4_removes_39 : decode cX4_removes 39 = .ok (.goto (-29), 3) := by decide +kernel
theorem dX4_removes_42 : decode cX4_removes 42 = .ok (.aload_n 0, 1) := by decide +kernel
theorem dX4_removes_43 : decode cX4_removes 43 = .ok (.bipush 20, 2) := by decide +kernel
theorem dX4_removes_45 : decode cX4_removes 45 = .ok (.iconst 3, 1) := by decide +kernel
theorem dX4_removes_46 : decode cX4_removes 46 = .ok (.iload_n 2, 1) := by decide +kernel
theorem dX4_removes_47 : decode cX4_removes 47 = .ok (.iconst 1, 1) := by decide +kernel
theorem dX4_removes_48 : decode cX4_removes 48 = .ok (.invokevirtual 127, 3) := by decide +kernel
theorem dX4_removes_51 : decode cX4_removes 51 = .ok (.goto 65, 3) := by decide +kernel
theorem dX4_removes_54 : decode cX4_removes 54 = .ok (.iload_n 1, 1) := by decide +kernel
theorem dX4_removes_55 : decode cX4_removes 55 = .ok (.iconst 1, 1) := by decide +kernel
theorem dX4_removes_56 : decode cX4_removes 56 = .ok (.if_icmp .ne 16, 3) := by decide +kernel
theorem dX4_removes_59 : decode cX4_removes 59 = .ok (.aload_n 0, 1) := by decide +kernel
theorem dX4_removes_60 : decode cX4_removes 60 = .ok (.bipush 110, 2) := by decide +kernel
theorem dX4_removes_62 : decode cX4_removes 62 = .ok (.bipush 6, 2) := by decide +kernel
theorem dX4_removes_64 : decode cX4_removes 64 = .ok (.iload_n 2, 1) := by decide +kernel
theorem dX4_removes_65 : decode cX4_removes 65 = .ok (.iconst 2, 1) := by decide +kernel
theorem dX4_removes_66 : decode cX4_removes 66 = .ok (.invokevirtual 127, 3) := by decide +kernel
theorem dX4_removes_69 : decode cX4_removes 69 = .ok (.goto 47, 3) := by decide +kernel
theorem dX4_removes_72 : decode cX4_removes 72 = .ok (.iload_n 2, 1) := by decide +kernel
theorem dX4_removes_73 : decode cX4_removes 73 = .ok (.istore_n 3, 1) := by decide +kernel
theorem dX4_removes_74 : decode cX4_removes 74 = .ok (.iload_n 3, 1) := by decide +kernel
theorem dX4_removes_75 : decode cX4_removes 75 = .ok (.aload_n 0, 1) := by decide +kernel
theorem dX4_removes_76 : decode cX4_removes 76 = .ok (.getfield 7, 3) := by decide +kernel
theorem dX4_removes_79 : decode cX4_removes 79 = .ok (.iconst 3, 1) := by decide +kernel
theorem dX4_removes_80 : decode cX4_removes 80 = .ok (.iaload, 1) := by decide +kernel
theorem dX4_removes_81 : decode cX4_removes 81 = .ok (.iconst 1, 1) := by decide +kernel
theorem dX4_removes_82 : decode cX4_removes 82 = .ok (.isub, 1) := by decide +kernel
theorem dX4_removes_83 : decode cX4_removes 83 = .ok (.if_icmp .ge 23, 3) := by decide +kernel
theorem dX4_removes_86 : decode cX4_removes 86 = .ok (.aload_n 0, 1) := by decide +kernel
theorem dX4_removes_87 : decode cX4_removes 87 = .ok (.getfield 31, 3) := by decide +kernel
theorem dX4_removes_90 : decode cX4_removes 90 = .ok (.iload_n 3, 1) := by decide +kernel
theorem dX4_removes_91 : decode cX4_removes 91 = .ok (.aload_n 0, 1) := by decide +kernel
theorem dX4_removes_92 : decode cX4_removes 92 = .ok (.getfield 31, 3) := by decide +kernel
theorem dX4_removes_95 : decode cX4_removes 95 = .ok (.iload_n 3, 1) := by decide +kernel
theorem dX4_removes_96 : decode cX4_removes 96 = .ok (.iconst 1, 1) := by decide +kernel
theorem dX4_removes_97 : decode cX4_removes 97 = .ok (.iadd, 1) := by decide +kernel
theorem dX4_removes_98 : decode cX4_removes 98 = .ok (.iaload, 1) := by decide +kernel
theorem dX4_removes_99 : decode cX4_removes 99 = .ok (.iastore, 1) := by decide +kernel
theorem dX4_removes_100 : decode cX4_removes 100 = .ok (.iinc 3 1, 3) := by decide +kernel
theorem dX4_removes_103 : decode cX4_removes 103 = .ok (.goto (-29), 3) := by decide +kernel
theorem dX4_removes_106 : decode cX4_removes 106 = .ok (.aload_n 0, 1) := by decide +kernel
theorem dX4_removes_107 : decode cX4_removes 107 = .ok (.sipush 230, 3) := by decide +kernel
theorem dX4_removes_110 : decode cX4_removes 110 = .ok (.iconst 2, 1) := by decide +kernel
theorem dX4_removes_111 : decode cX4_removes 111 = .ok (.iload_n 2, 1) := by decide +kernel
theorem dX4_removes_112 : decode cX4_removes 112 = .ok (.iconst 3, 1) := by decide +kernel
theorem dX4_removes_113 : decode cX4_removes 113 = .ok (.invokevirtual 127, 3) := by decide +kernel
theorem dX4_removes_116 : decode cX4_removes 116 = .ok (.aload_n 0, 1) := by decide +kernel
theorem dX4_removes_117 : decode cX4_removes 117 = .ok (.invokevirtual 131, 3) := by decide +kernel
theorem dX4_removes_120 : decode cX4_removes 120 = .ok (.ireturn, 1) := by decide +kernel
theorem dX4_remove_0 : decode cX4_remove 0 = .ok (.aload_n 0, 1) := by decide +kernel
theorem dX4_remove_1 : decode cX4_remove 1 = .ok (.iload_n 1, 1) := by decide +kernel
theorem dX4_remove_2 : decode cX4_remove 2 = .ok (.iconst 0, 1) := by decide +kernel
theorem dX4_remove_3 : decode cX4_remove 3 = .ok (.iconst 2, 1) := by decide +kernel
theorem dX4_remove_4 : decode cX4_remove 4 = .ok (.invokestatic 41, 3) := by decide +kernel
theorem dX4_remove_7 : decode cX4_remove 7 = .ok (.ifCond .ne 7, 3) := by decide +kernel
theorem dX4_remove_10 : decode cX4_remove 10 = .ok (.iconst 1, 1) := by decide +kernel
theorem dX4_remove_11 : decode cX4_remove 11 = .ok (.goto 26, 3) := by decide +kernel
theorem dX4_remove_14 : decode cX4_remove 14 = .ok (.iload_n 2, 1) := by decide +kernel
theorem dX4_remove_15 : decode cX4_remove 15 = .ok (.iconst 0, 1) := by decide +kernel
theorem dX4_remove_16 : decode cX4_remove 16 = .ok (.aload_n 0, 1) := by decide +kernel
theorem dX4_remove_17 : decode cX4_remove 17 = .ok (.getfield 7, 3) := by decide +kernel
theorem dX4_remove_20 : decode cX4_remove 20 = .ok (.iconst 1, 1) := by decide +kernel
theorem dX4_remove_21 : decode cX4_remove 21 = .ok (.iload_n 1, 1) := by decide +kernel
theorem dX4_remove_22 : decode cX4_remove 22 = .ok (.iadd, 1) := by decide +kernel
theorem dX4_remove_23 : decode cX4_remove 23 = .ok (.iaload, 1) := by decide +kernel
theorem dX4_remove_24 : decode cX4_remove 24 = .ok (.iconst 1, 1) := by decide +kernel
theorem dX4_remove_25 : decode cX4_remove 25 = .ok (.isub, 1) := by decide +kernel
theorem dX4_remove_26 : decode cX4_remove 26 = .ok (.invokestatic 41, 3) := by decide +kernel
theorem dX4_remove_29 : decode cX4_remove 29 = .ok (.ifCond .eq 7, 3) := by decide +kernel
theorem dX4_remove_32 : decode cX4_remove 32 = .ok (.iconst 0, 1) := by decide +kernel
theorem dX4_remove_33 : decode cX4_remove 33 = .ok (.goto 4, 3) := by decide +kernel
theorem dX4_remove_36 : decode cX4_remove 36 = .ok (.iconst 2, 1) := by decide +kernel
theorem dX4_remove_37 : decode cX4_remove 37 = .ok (.putfield 37, 3) := by decide +kernel
theorem dX4_remove_40 : decode cX4_remove 40 = .ok (.aload_n 0, 1) := by decide +kernel
theorem dX4_remove_41 : decode cX4_remove 41 = .ok (.getfield 37, 3) := by decide +kernel
theorem dX4_remove_44 : decode cX4_remove 44 = .ok (.ifCond .le 7, 3) := by decide +kernel
theorem dX4_remove_47 : decode cX4_remove 47 = .ok (.iconst 0, 1) := by decide +kernel
theorem dX4_remove_48 : decode cX4_remove 48 = .ok (.goto 9, 3) := by decide +kernel
theorem dX4_remove_51 : decode cX4_remove 51 = .ok (.aload_n 0, 1) := by decide +kernel
theorem dX4_remove_52 : decode cX4_remove 52 = .ok (.iload_n 1, 1) := by decide +kernel
theorem dX4_remove_53 : decode cX4_remove 53 = .ok (.iload_n 2, 1) := by decide +kernel
theorem dX4_remove_54 : decode cX4_remove 54 = .ok (.invokevirtual 135, 3) := by decide +kernel
theorem dX4_remove_57 : decode cX4_remove 57 = .ok (.ireturn, 1) := by decide +kernel
theorem dX4_append_0 : decode cX4_append 0 = .ok (.aload_n 0, 1) := by decide +kernel
theorem dX4_append_1 : decode cX4_append 1 = .ok (.iload_n 1, 1) := by decide +kernel
theorem dX4_append_2 : decode cX4_append 2 = .ok (.bipush 33, 2) := by decide +kernel
theorem dX4_append_4 : decode cX4_append 4 = .ok (.bipush 126, 2) := by decide +kernel
theorem dX4_append_6 : decode cX4_append 6 = .ok (.invokestatic 41, 3) := by decide +kernel
theorem dX4_append_9 : decode cX4_append 9 = .ok (.ifCond .ne 7, 3) := by decide +kernel
theorem dX4_append_12 : decode cX4_append 12 = .ok (.iconst 1, 1) := by decide +kernel
theorem dX4_append_13 : decode cX4_append 13 = .ok (.goto 17, 3) := by decide +kernel
theorem dX4_append_16 : decode cX4_append 16 = .ok (.aload_n 0, 1) := by decide +kernel
theorem dX4_append_17 : decode cX4_append 17 = .ok (.getfield 138, 3) := by decide +kernel
theorem dX4_append_20 : decode cX4_append 20 = .ok (.bipush 50, 2) := by decide +kernel
theorem dX4_append_22 : decode cX4_append 22 = .ok (.if_icmp .ne 7, 3) := by decide +kernel
theorem dX4_append_25 : decode cX4_append 25 = .ok (.iconst 2, 1) := by decide +kernel
theorem dX4_append_26 : decode cX4_append 26 = .ok (.goto 4, 3) := by decide +kernel
theorem dX4_append_29 : decode cX4_append 29 = .ok (.iconst 0, 1) := by decide +kernel
theorem dX4_append_30 : decode cX4_append 30 = .ok (.putfield 37, 3) := by decide +kernel
theorem dX4_append_33 : decode cX4_append 33 = .ok (.aload_n 0, 1) := by decide +kernel
theorem dX4_append_34 : decode cX4_append 34 = .ok (.getfield 37, 3) := by decide +kernel
theorem dX4_append_37 : decode cX4_append 37 = .ok (.ifCond .le 5, 3) := by decide +kernel
theorem dX4_append_40 : decode cX4_append 40 = .ok (.iconst 0, 1) := by decide +kernel
theorem dX4_append_41 : decode cX4_append 41 = .ok (.ireturn, 1) := by decide +kernel
theorem dX4_append_42 : decode cX4_append 42 = .ok (.aload_n 0, 1) := by decide +kernel
theorem dX4_append_43 : decode cX4_append 43 = .ok (.getfield 19, 3) := by decide +kernel
theorem dX4_append_46 : decode cX4_append 46 = .ok (.aload_n 0, 1) := by decide +kernel
theorem dX4_append_47 : decode cX4_append 47 = .ok (.getfield 138, 3) := by decide +kernel
theorem dX4_append_50 : decode cX4_append 50 = .ok (.iload_n 1, 1) := by decide +kernel
theorem dX4_append_51 : decode cX4_append 51 = .ok (.iastore, 1) := by decide +kernel
theorem dX4_append_52 : decode cX4_append 52 = .ok (.aload_n 0, 1) := by decide +kernel
theorem dX4_append_53 : decode cX4_append 53 = .ok (.dup, 1) := by decide +kernel
theorem dX4_append_54 : decode cX4_append 54 = .ok (.getfield 138, 3) := by decide +kernel
theorem dX4_append_57 : decode cX4_append 57 = .ok (.iconst 1, 1) := by decide +kernel
theorem dX4_append_58 : decode cX4_append 58 = .ok (.iadd, 1) := by decide +kernel
theorem dX4_append_59 : decode cX4_append 59 = .ok (.putfield 138, 3) := by decide +kernel
theorem dX4_append_62 : decode cX4_append 62 = .ok (.aload_n 0, 1) := by decide +kernel
theorem dX4_append_63 : decode cX4_append 63 = .ok (.getfield 138, 3) := by decide +kernel
theorem dX4_append_66 : decode cX4_append 66 = .ok (.ireturn, 1) := by decide +kernel
theorem dX4_clearBuffer_0 : decode cX4_clearBuffer 0 = .ok (.aload_n 0, 1) := by decide +kernel
theorem dX4_clearBuffer_1 : decode cX4_clearBuffer 1 = .ok (.iconst 0, 1) := by decide +kernel
theorem dX4_clearBuffer_2 : decode cX4_clearBuffer 2 = .ok (.putfield 37, 3) := by decide +kernel
theorem dX4_clearBuffer_5 : decode cX4_clearBuffer 5 = .ok (.aload_n 0, 1) := by decide +kernel
theorem dX4_clearBuffer_6 : decode cX4_clearBuffer 6 = .ok (.getfield 138, 3) := by decide +kernel
theorem dX4_clearBuffer_9 : decode cX4_clearBuffer 9 = .ok (.istore_n 1, 1) := by decide +kernel
theorem dX4_clearBuffer_10 : decode cX4_clearBuffer 10 = .ok (.aload_n 0, 1) := by decide +kernel
theorem dX4_clearBuffer_11 : decode cX4_clearBuffer 11 = .ok (.iconst 0, 1) := by decide +kernel
theorem dX4_clearBuffer_12 : decode cX4_clearBuffer 12 = .ok (.putfield 138, 3) := by decide +kernel
theorem dX4_clearBuffer_15 : decode cX4_clearBuffer 15 = .ok (.iload_n 1, 1) := by decide +kernel
theorem dX4_clearBuffer_16 : decode cX4_clearBuffer 16 = .ok (.ireturn, 1) := by decide +kernel
theorem dX4_isScopeLetter_0 : decode cX4_isScopeLetter 0 = .ok (.iload_n 0, 1) := by decide +kernel
theorem dX4_isScopeLetter_1 : decode cX4_isScopeLetter 1 = .ok (.bipush 65, 2) := by decide +kernel
theorem dX4_isScopeLetter_3 : decode cX4_isScopeLetter 3 = .ok (.bipush 80, 2) := by decide +kernel
theorem dX4_isScopeLetter_5 : decode cX4_isScopeLetter 5 = .ok (.invokestatic 41, 3) := by decide +kernel
theorem dX4_isScopeLetter_8 : decode cX4_isScopeLetter 8 = .ok (.ireturn, 1) := by decide +kernel
theorem dX4_isNameLetter_0 : decode cX4_isNameLetter 0 = .ok (.iload_n 0, 1) := by decide +kernel
theorem dX4_isNameLetter_1 : decode cX4_isNameLetter 1 = .ok (.bipush 97, 2) := by decide +kernel
theorem dX4_isNameLetter_3 : decode cX4_isNameLetter 3 = .ok (.bipush 122, 2) := by decide +kernel
theorem dX4_isNameLetter_5 : decode cX4_isNameLetter 5 = .ok (.invokestatic 41, 3) := by decide +kernel
theorem dX4_isNameLetter_8 : decode cX4_isNameLetter 8 = .ok (.ireturn, 1) := by decide +kernel
theorem dX4_goes_0 : decode cX4_goes 0 = .ok (.aload_n 0, 1) := by decide +kernel
theorem dX4_goes_1 : decode cX4_goes 1 = .ok (.iload_n 1, 1) := by decide +kernel
theorem dX4_goes_2 : decode cX4_goes 2 = .ok (.ifCond .eq 7, 3) := by decide +kernel
theorem dX4_goes_5 : decode cX4_goes 5 = .ok (.iload_n 2, 1) := by decide +kernel
theorem dX4_goes_6 : decode cX4_goes 6 = .ok (.goto 7, 3) := by decide +kernel
theorem dX4_goes_9 : decode cX4_goes 9 = .ok (.aload_n 0, 1) := by decide +kernel
theorem dX4_goes_10 : decode cX4_goes 10 = .ok (.getfield 141, 3) := by decide +kernel
theorem dX4_goes_13 : decode cX4_goes 13 = .ok (.putfield 141, 3) := by decide +kernel
theorem dX4_goes_16 : decode cX4_goes 16 = .ok (.iload_n 1, 1) := by decide +kernel
theorem dX4_goes_17 : decode cX4_goes 17 = .ok (.ireturn, 1) := by decide +kernel
theorem dX4_canEnd_0 : decode cX4_canEnd 0 = .ok (.aload_n 0, 1) := by decide +kernel
theorem dX4_canEnd_1 : decode cX4_canEnd 1 = .ok (.getfield 141, 3) := by decide +kernel
theorem dX4_canEnd_4 : decode cX4_canEnd 4 = .ok (.iconst 5, 1) := by decide +kernel
theorem dX4_canEnd_5 : decode cX4_canEnd 5 = .ok (.if_icmp .eq 21, 3) := by decide +kernel
theorem dX4_canEnd_8 : decode cX4_canEnd 8 = .ok (.aload_n 0, 1) := by decide +kernel
theorem dX4_canEnd_9 : decode cX4_canEnd 9 = .ok (.getfield 141, 3) := by decide +kernel
theorem dX4_canEnd_12 : decode cX4_canEnd 12 = .ok (.bipush 7, 2) := by decide +kernel
theorem dX4_canEnd_14 : decode cX4_canEnd 14 = .ok (.if_icmp .eq 12, 3) := by decide +kernel
theorem dX4_canEnd_17 : decode cX4_canEnd 17 = .ok (.aload_n 0, 1) := by decide +kernel
theorem dX4_canEnd_18 : decode cX4_canEnd 18 = .ok (.getfield 141, 3) := by decide +kernel
theorem dX4_canEnd_21 : decode cX4_canEnd 21 = .ok (.bipush 10, 2) := by decide +kernel
theorem dX4_canEnd_23 : decode cX4_canEnd 23 = .ok (.if_icmp .lt 7, 3) := by decide +kernel
theorem dX4_canEnd_26 : decode cX4_canEnd 26 = .ok (.iconst 1, 1) := by decide +kernel
theorem dX4_canEnd_27 : decode cX4_canEnd 27 = .ok (.goto 4, 3) := by decide +kernel
theorem dX4_canEnd_30 : decode cX4_canEnd 30 = .ok (.iconst 0, 1) := by decide +kernel
theorem dX4_canEnd_31 : decode cX4_canEnd 31 = .ok (.ireturn, 1) := by decide +kernel
theorem dX4_takesSign_0 : decode cX4_takesSign 0 = .ok (.iload_n 1, 1) := by decide +kernel
theorem dX4_takesSign_1 : decode cX4_takesSign 1 = .ok (.bipush 94, 2) := by decide +kernel
theorem dX4_takesSign_3 : decode cX4_takesSign 3 = .ok (.if_icmp .eq 27, 3) := by decide +kernel
theorem dX4_takesSign_6 : decode cX4_takesSign 6 = .ok (.iload_n 1, 1) := by decide +kernel
theorem dX4_takesSign_7 : decode cX4_takesSign 7 = .ok (.bipush 46, 2) := by decide +kernel
theorem dX4_takesSign_9 : decode cX4_takesSign 9 = .ok (.if_icmp .eq 21, 3) := by decide +kernel
theorem dX4_takesSign_12 : decode cX4_takesSign 12 = .ok (.iload_n 1, 1) := by decide +kernel
theorem dX4_takesSign_13 : decode cX4_takesSign 13 = .ok (.bipush 45, 2) := by decide +kernel
theorem dX4_takesSign_15 : decode cX4_takesSign 15 = .ok (.if_icmp .eq 15, 3) := by decide +kernel
theorem dX4_takesSign_18 : decode cX4_takesSign 18 = .ok (.iload_n 1, 1) := by decide +kernel
theorem dX4_takesSign_19 : decode cX4_takesSign 19 = .ok (.bipush 63, 2) := by decide +kernel
theorem dX4_takesSign_21 : decode cX4_takesSign 21 = .ok (.if_icmp .eq 9, 3) := by decide +kernel
theorem dX4_takesSign_24 : decode cX4_takesSign 24 = .ok (.iload_n 1, 1) := by decide +kernel
theorem dX4_takesSign_25 : decode cX4_takesSign 25 = .ok (.bipush 60, 2) := by decide +kernel
theorem dX4_takesSign_27 : decode cX4_takesSign 27 = .ok (.if_icmp .ne 7, 3) := by decide +kernel
theorem dX4_takesSign_30 : decode cX4_takesSign 30 = .ok (.iconst 1, 1) := by decide +kernel
theorem dX4_takesSign_31 : decode cX4_takesSign 31 = .ok (.goto 4, 3) := by decide +kernel
theorem dX4_takesSign_34 : decode cX4_takesSign 34 = .ok (.iconst 0, 1) := by decide +kernel
theorem dX4_takesSign_35 : decode cX4_takesSign 35 = .ok (.istore_n 2, 1) := by decide +kernel
theorem dX4_takesSign_36 : decode cX4_takesSign 36 = .ok (.iload_n 2, 1) := by decide +kernel
theorem dX4_takesSign_37 : decode cX4_takesSign 37 = .ok (.ifCond .eq 54, 3) := by decide +kernel
theorem dX4_takesSign_40 : decode cX4_takesSign 40 = .ok (.aload_n 0, 1) := by decide +kernel
theorem dX4_takesSign_41 : decode cX4_takesSign 41 = .ok (.iload_n 1, 1) := by decide +kernel
theorem dX4_takesSign_42 : decode cX4_takesSign 42 = .ok (.putfield 144, 3) := by decide +kernel
theorem dX4_takesSign_45 : decode cX4_takesSign 45 = .ok (.aload_n 0, 1) := by decide +kernel
theorem dX4_takesSign_46 : decode cX4_takesSign 46 = .ok (.iconst 0, 1) := by decide +kernel
theorem dX4_takesSign_47 : decode cX4_takesSign 47 = .ok (.putfield 147, 3) := by decide +kernel
theorem dX4_takesSign_50 : decode cX4_takesSign 50 = .ok (.aload_n 0, 1) := by decide +kernel
theorem dX4_takesSign_51 : decode cX4_takesSign 51 = .ok (.iconst (-1), 1) := by decide +kernel
theorem dX4_takesSign_52 : decode cX4_takesSign 52 = .ok (.putfield 150, 3) := by decide +kernel
theorem dX4_takesSign_55 : decode cX4_takesSign 55 = .ok (.aload_n 0, 1) := by decide +kernel
theorem dX4_takesSign_56 : decode cX4_takesSign 56 = .ok (.iconst (-1), 1) := by decide +kernel
theorem dX4_takesSign_57 : decode cX4_takesSign 57 = .ok (.putfield 153, 3) := by decide +kernel
theorem dX4_takesSign_60 : decode cX4_takesSign 60 = .ok (.aload_n 0, 1) := by decide +kernel
theorem dX4_takesSign_61 : decode cX4_takesSign 61 = .ok (.iconst 0, 1) := by decide +kernel
theorem dX4_takesSign_62 : decode cX4_takesSign 62 = .ok (.putfield 156, 3) := by decide +kernel
theorem dX4_takesSign_65 : decode cX4_takesSign 65 = .ok (.aload_n 0, 1) := by decide +kernel
theorem dX4_takesSign_66 : decode cX4_takesSign 66 = .ok (.iload_n 1, 1) := by decide +kernel
theorem dX4_takesSign_67 : decode cX4_takesSign 67 = .ok (.bipush 94, 2) := by decide +kernel
theorem dX4_takesSign_69 : decode cX4_takesSign 69 = .ok (.if_icmp .ne 8, 3) := by decide +kernel
theorem dX4_takesSign_72 : decode cX4_takesSign 72 = .ok (.bipush 11, 2) := by decide +kernel
theorem dX4_takesSign_74 : decode cX4_takesSign 74 = .ok (.goto 14, 3) := by decide +kernel
theorem dX4_takesSign_77 : decode cX4_takesSign 77 = .ok (.iload_n 1, 1) := by decide +kernel
theorem dX4_takesSign_78 : decode cX4_takesSign 78 = .ok (.bipush 60, 2) := by decide +kernel
theorem dX4_takesSign_80 : decode cX4_takesSign 80 = .ok (.if_icmp .ne 7, 3) := by decide +kernel
theorem dX4_takesSign_83 : decode cX4_takesSign 83 = .ok (.iconst 3, 1) := by decide +kernel
theorem dX4_takesSign_84 : decode cX4_takesSign 84 = .ok (.goto 4, 3) := by decide +kernel
theorem dX4_takesSign_87 : decode cX4_takesSign 87 = .ok (.iconst 2, 1) := by decide +kernel
theorem dX4_takesSign_88 : decode cX4_takesSign 88 = .ok (.putfield 141, 3) := by decide +kernel
theorem dX4_takesSign_91 : decode cX4_takesSign 91 = .ok (.iload_n 2, 1) := by decide +kernel
theorem dX4_takesSign_92 : decode cX4_takesSign 92 = .ok (.ireturn, 1) := by decide +kernel
theorem dX4_takesFrom_0 : decode cX4_takesFrom 0 = .ok (.aload_n 0, 1) := by decide +kernel
theorem dX4_takesFrom_1 : decode cX4_takesFrom 1 = .ok (.getfield 141, 3) := by decide +kernel
theorem dX4_takesFrom_4 : decode cX4_takesFrom 4 = .ok (.iconst 3, 1) := by decide +kernel
theorem dX4_takesFrom_5 : decode cX4_takesFrom 5 = .ok (.if_icmp .ne 21, 3) := by decide +kernel
theorem dX4_takesFrom_8 : decode cX4_takesFrom 8 = .ok (.iload_n 1, 1) := by decide +kernel
theorem dX4_takesFrom_9 : decode cX4_takesFrom 9 = .ok (.bipush 60, 2) := by decide +kernel
theorem dX4_takesFrom_11 : decode cX4_takesFrom 11 = .ok (.if_icmp .ne 15, 3) := by decide +kernel
theorem dX4_takesFrom_14 : decode cX4_takesFrom 14 = .ok (.aload_n 0, 1) := by decide +kernel
theorem dX4_takesFrom_15 : decode cX4_takesFrom 15 = .ok (.iconst 1, 1) := by decide +kernel
theorem dX4_takesFrom_16 : decode cX4_takesFrom 16 = .ok (.putfield 147, 3) := by decide +kernel
theorem dX4_takesFrom_19 : decode cX4_takesFrom 19 = .ok (.aload_n 0, 1) := by decide +kernel
theorem dX4_takesFrom_20 : decode cX4_takesFrom 20 = .ok (.iconst 1, 1) := by decide +kernel
theorem dX4_takesFrom_21 : decode cX4_takesFrom 21 = .ok (.iconst 4, 1) := by decide +kernel
theorem dX4_takesFrom_22 : decode cX4_takesFrom 22 = .ok (.invokevirtual 159, 3) := by decide +kernel
theorem dX4_takesFrom_25 : decode cX4_takesFrom 25 = .ok (.ireturn, 1) := by decide +kernel
theorem dX4_takesFrom_26 : decode cX4_takesFrom 26 = .ok (.aload_n 0, 1) := by decide +kernel
theorem dX4_takesFrom_27 : decode cX4_takesFrom 27 = .ok (.iload_n 1, 1) := by decide +kernel
theorem dX4_takesFrom_28 : decode cX4_takesFrom 28 = .ok (.invokestatic 163, 3) := by decide +kernel
theorem dX4_takesFrom_31 : decode cX4_takesFrom 31 = .ok (.ifCond .eq 10, 3) := by decide +kernel
theorem dX4_takesFrom_34 : decode cX4_takesFrom 34 = .ok (.iload_n 1, 1) := by decide +kernel
theorem dX4_takesFrom_35 : decode cX4_takesFrom 35 = .ok (.bipush 65, 2) := by decide +kernel
theorem dX4_takesFrom_37 : decode cX4_takesFrom 37 = .ok (.isub, 1) := by decide +kernel
theorem dX4_takesFrom_38 : decode cX4_takesFrom 38 = .ok (.goto 7, 3) := by decide +kernel
theorem dX4_takesFrom_41 : decode cX4_takesFrom 41 = .ok (.aload_n 0, 1) := by decide +kernel
theorem dX4_takesFrom_42 : decode cX4_takesFrom 42 = .ok (.getfield 166, 3) := by decide +kernel
theorem dX4_takesFrom_45 : decode cX4_takesFrom 45 = .ok (.putfield 166, 3) := by decide +kernel
theorem dX4_takesFrom_48 : decode cX4_takesFrom 48 = .ok (.aload_n 0, 1) := by decide +kernel
theorem dX4_takesFrom_49 : decode cX4_takesFrom 49 = .ok (.iload_n 1, 1) := by decide +kernel
theorem dX4_takesFrom_50 : decode cX4_takesFrom 50 = .ok (.invokestatic 163, 3) := by decide +kernel
theorem dX4_takesFrom_53 : decode cX4_takesFrom 53 = .ok (.iconst 5, 1) := by decide +kernel
theorem dX4_takesFrom_54 : decode cX4_takesFrom 54 = .ok (.invokevirtual 159, 3) := by decide +kernel
theorem dX4_takesFrom_57 : decode cX4_takesFrom 57 = .ok (.ireturn, 1) := by decide +kernel
theorem dX4_takesName_0 : decode cX4_takesName 0 = .ok (.iload_n 1, 1) := by decide +kernel
theorem dX4_takesName_1 : decode cX4_takesName 1 = .ok (.invokestatic 169, 3) := by decide +kernel
theorem dX4_takesName_4 : decode cX4_takesName 4 = .ok (.istore_n 2, 1) := by decide +kernel
theorem dX4_takesName_5 : decode cX4_takesName 5 = .ok (.iload_n 2, 1) := by decide +kernel
theorem dX4_takesName_6 : decode cX4_takesName 6 = .ok (.ifCond .eq 23, 3) := by decide +kernel
theorem dX4_takesName_9 : decode cX4_takesName 9 = .ok (.aload_n 0, 1) := by decide +kernel
theorem dX4_takesName_10 : decode cX4_takesName 10 = .ok (.getfield 141, 3) := by decide +kernel
theorem dX4_takesName_13 : decode cX4_takesName 13 = .ok (.bipush 8, 2) := by decide +kernel
theorem dX4_takesName_15 : decode cX4_takesName 15 = .ok (.if_icmp .ne 14, 3) := by decide +kernel
theorem dX4_takesName_18 : decode cX4_takesName 18 = .ok (.aload_n 0, 1) := by decide +kernel
theorem dX4_takesName_19 : decode cX4_takesName 19 = .ok (.iload_n 1, 1) := by decide +kernel
theorem dX4_takesName_20 : decode cX4_takesName 20 = .ok (.bipush 97, 2) := by decide +kernel
theorem dX4_takesName_22 : decode cX4_takesName 22 = .ok (.isub, 1) := by decide +kernel
theorem dX4_takesName_23 : decode cX4_takesName 23 = .ok (.putfield 153, 3) := by decide +kernel
theorem dX4_takesName_26 : decode cX4_takesName 26 = .ok (.goto 46, 3) := by decide +kernel
theorem dX4_takesName_29 : decode cX4_takesName 29 = .ok (.iload_n 2, 1) := by decide +kernel
theorem dX4_takesName_30 : decode cX4_takesName 30 = .ok (.ifCond .eq 30, 3) := by decide +kernel
theorem dX4_takesName_33 : decode cX4_takesName 33 = .ok (.aload_n 0, 1) := by decide +kernel
theorem dX4_takesName_34 : decode cX4_takesName 34 = .ok (.getfield 141, 3) := by decide +kernel
theorem dX4_takesName_37 : decode cX4_takesName 37 = .ok (.bipush 9, 2) := by decide +kernel
theorem dX4_takesName_39 : decode cX4_takesName 39 = .ok (.if_icmp .lt 21, 3) := by decide +kernel
theorem dX4_takesName_42 : decode cX4_takesName 42 = .ok (.aload_n 0, 1) := by decide +kernel
theorem dX4_takesName_43 : decode cX4_takesName 43 = .ok (.dup, 1) := by decide +kernel
theorem dX4_takesName_44 : decode cX4_takesName 44 = .ok (.getfield 156, 3) := by decide +kernel
theorem dX4_takesName_47 : decode cX4_takesName 47 = .ok (.iconst 1, 1) := by decide +kernel
theorem dX4_takesName_48 : decode cX4_takesName 48 = .ok (.iload_n 1, 1) := by decide +kernel
theorem dX4_takesName_49 : decode cX4_takesName 49 = .ok (.bipush 97, 2) := by decide +kernel
theorem dX4_takesName_51 : decode cX4_takesName 51 = .ok (.isub, 1) := by decide +kernel
theorem dX4_takesName_52 : decode cX4_takesName 52 = .ok (.ishl, 1) := by decide +kernel
theorem dX4_takesName_53 : decode cX4_takesName 53 = .ok (.ior, 1) := by decide +kernel
theorem dX4_takesName_54 : decode cX4_takesName 54 = .ok (.putfield 156, 3) := by decide +kernel
theorem dX4_takesName_57 : decode cX4_takesName 57 = .ok (.goto 15, 3) := by decide +kernel
theorem dX4_takesName_60 : decode cX4_takesName 60 = .ok (.iload_n 2, 1) := by decide +kernel
theorem dX4_takesName_61 : decode cX4_takesName 61 = .ok (.ifCond .eq 11, 3) := by decide +kernel
theorem dX4_takesName_64 : decode cX4_takesName 64 = .ok (.aload_n 0, 1) := by decide +kernel
theorem dX4_takesName_65 : decode cX4_takesName 65 = .ok (.iload_n 1, 1) := by decide +kernel
theorem dX4_takesName_66 : decode cX4_takesName 66 = .ok (.bipush 97, 2) := by decide +kernel
theorem dX4_takesName_68 : decode cX4_takesName 68 = .ok (.isub, 1) := by decide +kernel
theorem dX4_takesName_69 : decode cX4_takesName 69 = .ok (.putfield 150, 3) := by decide +kernel
theorem dX4_takesName_72 : decode cX4_takesName 72 = .ok (.aload_n 0, 1) := by decide +kernel
theorem dX4_takesName_73 : decode cX4_takesName 73 = .ok (.iload_n 2, 1) := by decide +kernel
theorem dX4_takesName_74 : decode cX4_takesName 74 = .ok (.aload_n 0, 1) := by decide +kernel
theorem dX4_takesName_75 : decode cX4_takesName 75 = .ok (.getfield 141, 3) := by decide +kernel
theorem dX4_takesName_78 : decode cX4_takesName 78 = .ok (.bipush 6, 2) := by decide +kernel
theorem dX4_takesName_80 : decode cX4_takesName 80 = .ok (.if_icmp .ne 8, 3) := by decide +kernel
theorem dX4_takesName_83 : decode cX4_takesName 83 = .ok (.bipush 7, 2) := by decide +kernel
theorem dX4_takesName_85 : decode cX4_takesName 85 = .ok (.goto 19, 3) := by decide +kernel
theorem dX4_takesName_88 : decode cX4_takesName 88 = .ok (.aload_n 0, 1) := by decide +kernel
theorem dX4_takesName_89 : decode cX4_takesName 89 = .ok (.getfield 141, 3) := by decide +kernel
theorem dX4_takesName_92 : decode cX4_takesName 92 = .ok (.bipush 9, 2) := by decide +kernel
theorem dX4_takesName_94 : decode cX4_takesName 94 = .ok (.if_icmp .lt 8, 3) := by decide +kernel
theorem dX4_takesName_97 : decode cX4_takesName 97 = .ok (.bipush 10, 2) := by decide +kernel
theorem dX4_takesName_99 : decode cX4_takesName 99 = .ok (.goto 5, 3) := by decide +kernel
theorem dX4_takesName_102 : decode cX4_takesName 102 = .ok (.bipush 11, 2) := by decide +kernel
theorem dX4_takesName_104 : decode cX4_takesName 104 = .ok (.invokevirtual 159, 3) := by decide +kernel
theorem dX4_takesName_107 : decode cX4_takesName 107 = .ok (.ireturn, 1) := by decide +kernel
theorem dX4_takes_0 : decode cX4_takes 0 = .ok (.iload_n 1, 1) := by decide +kernel
theorem dX4_takes_1 : decode cX4_takes 1 = .ok (.bipush 44, 2) := by decide +kernel
theorem dX4_takes_3 : decode cX4_takes 3 = .ok (.if_icmp .ne 16, 3) := by decide +kernel
theorem dX4_takes_6 : decode cX4_takes 6 = .ok (.aload_n 0, 1) := by decide +kernel
theorem dX4_takes_7 : decode cX4_takes 7 = .ok (.invokevirtual 172, 3) := by decide +kernel
theorem dX4_takes_10 : decode cX4_takes 10 = .ok (.ifCond .eq 9, 3) := by decide +kernel
theorem dX4_takes_13 : decode cX4_takes 13 = .ok (.aload_n 0, 1) := by decide +kernel
theorem dX4_takes_14 : decode cX4_takes 14 = .ok (.invokevirtual 175, 3) := by decide +kernel
theorem dX4_takes_17 : decode cX4_takes 17 = .ok (.iconst 1, 1) := by decide +kernel
theorem dX4_takes_18 : decode cX4_takes 18 = .ok (.ireturn, 1) := by decide +kernel
theorem dX4_takes_19 : decode cX4_takes 19 = .ok (.aload_n 0, 1) := by decide +kernel
theorem dX4_takes_20 : decode cX4_takes 20 = .ok (.getfield 141, 3) := by decide +kernel
theorem dX4_takes_23 : decode cX4_takes 23 = .ok (.tableswitch 171 0 11 #[61, 93, 171, 99, 99, 105, 171, 151, 171, 171, 171, 169], 61) := by decide +kernel
theorem dX4_takes_84 : decode cX4_takes 84 = .ok (.aload_n 0, 1) := by decide +kernel
theorem dX4_takes_85 : decode cX4_takes 85 = .ok (.iload_n 1, 1) := by decide +kernel
theorem dX4_takes_86 : decode cX4_takes 86 = .ok (.invokestatic 163, 3) := by decide +kernel
theorem dX4_takes_89 : decode cX4_takes 89 = .ok (.ifCond .eq 10, 3) := by decide +kernel
theorem dX4_takes_92 : decode cX4_takes 92 = .ok (.iload_n 1, 1) := by decide +kernel
theorem dX4_takes_93 : decode cX4_takes 93 = .ok (.bipush 65, 2) := by decide +kernel
theorem dX4_takes_95 : decode cX4_takes 95 = .ok (.isub, 1) := by decide +kernel
theorem dX4_takes_96 : decode cX4_takes 96 = .ok (.goto 7, 3) := by decide +kernel
theorem dX4_takes_99 : decode cX4_takes 99 = .ok (.aload_n 0, 1) := by decide +kernel
theorem dX4_takes_100 : decode cX4_takes 100 = .ok (.getfield 178, 3) := by decide +kernel
theorem dX4_takes_103 : decode cX4_takes 103 = .ok (.putfield 178, 3) := by decide +kernel
theorem dX4_takes_106 : decode cX4_takes 106 = .ok (.aload_n 0, 1) := by decide +kernel
theorem dX4_takes_107 : decode cX4_takes 107 = .ok (.iload_n 1, 1) := by decide +kernel
theorem dX4_takes_108 : decode cX4_takes 108 = .ok (.invokestatic 163, 3) := by decide +kernel
theorem dX4_takes_111 : decode cX4_takes 111 = .ok (.iconst 1, 1) := by decide +kernel
theorem dX4_takes_112 : decode cX4_takes 112 = .ok (.invokevirtual 159, 3) := by decide +kernel
theorem dX4_takes_115 : decode cX4_takes 115 = .ok (.ireturn, 1) := by decide +kernel
theorem dX4_takes_116 : decode cX4_takes 116 = .ok (.aload_n 0, 1) := by decide +kernel
theorem dX4_takes_117 : decode cX4_takes 117 = .ok (.iload_n 1, 1) := by decide +kernel
theorem dX4_takes_118 : decode cX4_takes 118 = .ok (.invokevirtual 181, 3) := by decide +kernel
theorem dX4_takes_121 : decode cX4_takes 121 = .ok (.ireturn, 1) := by decide +kernel
theorem dX4_takes_122 : decode cX4_takes 122 = .ok (.aload_n 0, 1) := by decide +kernel
theorem dX4_takes_123 : decode cX4_takes 123 = .ok (.iload_n 1, 1) := by decide +kernel
theorem dX4_takes_124 : decode cX4_takes 124 = .ok (.invokevirtual 184, 3) := by decide +kernel
theorem dX4_takes_127 : decode cX4_takes 127 = .ok (.ireturn, 1) := by decide +kernel
theorem dX4_takes_128 : decode cX4_takes 128 = .ok (.aload_n 0, 1) := by decide +kernel
theorem dX4_takes_129 : decode cX4_takes 129 = .ok (.iload_n 1, 1) := by decide +kernel
theorem dX4_takes_130 : decode cX4_takes 130 = .ok (.bipush 46, 2) := by decide +kernel
theorem dX4_takes_132 : decode cX4_takes 132 = .ok (.if_icmp .ne 7, 3) := by decide +kernel
theorem dX4_takes_135 : decode cX4_takes 135 = .ok (.iconst 1, 1) := by decide +kernel
theorem dX4_takes_136 : decode cX4_takes 136 = .ok (.goto 4, 3) := by decide +kernel
theorem dX4_takes_139 : decode cX4_takes 139 = .ok (.iconst 0, 1) := by decide +kernel
theorem dX4_takes_140 : decode cX4_takes 140 = .ok (.bipush 6, 2) := by decide +kernel
theorem dX4_takes_142 : decode cX4_takes 142 = .ok (.invokevirtual 159, 3) := by decide +kernel
theorem dX4_takes_145 : decode cX4_takes 145 = .ok (.ifCond .ne 23, 3) := by decide +kernel
theorem dX4_takes_148 : decode cX4_takes 148 = .ok (.aload_n 0, 1) := by decide +kernel
theorem dX4_takes_149 : decode cX4_takes 149 = .ok (.iload_n 1, 1) := by decide +kernel
theorem dX4_takes_150 : decode cX4_takes 150 = .ok (.bipush 47, 2) := by decide +kernel
theorem dX4_takes_152 : decode cX4_takes 152 = .ok (.if_icmp .ne 7, 3) := by decide +kernel
theorem dX4_takes_155 : decode cX4_takes 155 = .ok (.iconst 1, 1) := by decide +kernel
theorem dX4_takes_156 : decode cX4_takes 156 = .ok (.goto 4, 3) := by decide +kernel
theorem dX4_takes_159 : decode cX4_takes 159 = .ok (.iconst 0, 1) := by decide +kernel
theorem dX4_takes_160 : decode cX4_takes 160 = .ok (.bipush 9, 2) := by decide +kernel
theorem dX4_takes_162 : decode cX4_takes 162 = .ok (.invokevirtual 159, 3) := by decide +kernel
theorem dX4_takes_165 : decode cX4_takes 165 = .ok (.ifCond .eq 7, 3) := by decide +kernel
theorem dX4_takes_168 : decode cX4_takes 168 = .ok (.iconst 1, 1) := by decide +kernel
theorem dX4_takes_169 : decode cX4_takes 169 = .ok (.goto 4, 3) := by decide +kernel
theorem dX4_takes_172 : decode cX4_takes 172 = .ok (.iconst 0, 1) := by decide +kernel
theorem dX4_takes_173 : decode cX4_takes 173 = .ok (.ireturn, 1) := by decide +kernel
theorem dX4_takes_174 : decode cX4_takes 174 = .ok (.aload_n 0, 1) := by decide +kernel
theorem dX4_takes_175 : decode cX4_takes 175 = .ok (.iload_n 1, 1) := by decide +kernel
theorem dX4_takes_176 : decode cX4_takes 176 = .ok (.bipush 61, 2) := by decide +kernel
theorem dX4_takes_178 : decode cX4_takes 178 = .ok (.if_icmp .ne 7, 3) := by decide +kernel
theorem dX4_takes_181 : decode cX4_takes 181 = .ok (.iconst 1, 1) := by decide +kernel
theorem dX4_takes_182 : decode cX4_takes 182 = .ok (.goto 4, 3) := by decide +kernel
theorem dX4_takes_185 : decode cX4_takes 185 = .ok (.iconst 0, 1) := by decide +kernel
theorem dX4_takes_186 : decode cX4_takes 186 = .ok (.bipush 8, 2) := by decide +kernel
theorem dX4_takes_188 : decode cX4_takes 188 = .ok (.invokevirtual 159, 3) := by decide +kernel
theorem dX4_takes_191 : decode cX4_takes 191 = .ok (.ireturn, 1) := by decide +kernel
theorem dX4_takes_192 : decode cX4_takes 192 = .ok (.iconst 0, 1) := by decide +kernel
theorem dX4_takes_193 : decode cX4_takes 193 = .ok (.ireturn, 1) := by decide +kernel
theorem dX4_takes_194 : decode cX4_takes 194 = .ok (.aload_n 0, 1) := by decide +kernel
theorem dX4_takes_195 : decode cX4_takes 195 = .ok (.iload_n 1, 1) := by decide +kernel
theorem dX4_takes_196 : decode cX4_takes 196 = .ok (.invokevirtual 187, 3) := by decide +kernel
theorem dX4_takes_199 : decode cX4_takes 199 = .ok (.ireturn, 1) := by decide +kernel
theorem dX4_endItem_0 : decode cX4_endItem 0 = .ok (.aload_n 0, 1) := by decide +kernel
theorem dX4_endItem_1 : decode cX4_endItem 1 = .ok (.dup, 1) := by decide +kernel
theorem dX4_endItem_2 : decode cX4_endItem 2 = .ok (.getfield 190, 3) := by decide +kernel
theorem dX4_endItem_5 : decode cX4_endItem 5 = .ok (.iconst 1, 1) := by decide +kernel
theorem dX4_endItem_6 : decode cX4_endItem 6 = .ok (.iadd, 1) := by decide +kernel
theorem dX4_endItem_7 : decode cX4_endItem 7 = .ok (.putfield 190, 3) := by decide +kernel
theorem dX4_endItem_10 : decode cX4_endItem 10 = .ok (.aload_n 0, 1) := by decide +kernel
theorem dX4_endItem_11 : decode cX4_endItem 11 = .ok (.iconst 0, 1) := by decide +kernel
theorem dX4_endItem_12 : decode cX4_endItem 12 = .ok (.putfield 141, 3) := by decide +kernel
theorem dX4_endItem_15 : decode cX4_endItem 15 = .ok (.aload_n 0, 1) := by decide +kernel
theorem dX4_endItem_16 : decode cX4_endItem 16 = .ok (.getfield 193, 3) := by decide +kernel
theorem dX4_endItem_19 : decode cX4_endItem 19 = .ok (.ifCond .eq 10, 3) := by decide +kernel
theorem dX4_endItem_22 : decode cX4_endItem 22 = .ok (.aload_n 0, 1) := by decide +kernel
theorem dX4_endItem_23 : decode cX4_endItem 23 = .ok (.getfield 196, 3) := by decide +kernel
theorem dX4_endItem_26 : decode cX4_endItem 26 = .ok (.ifCond .eq 4, 3) := by decide +kernel
theorem dX4_endItem_29 : decode cX4_endItem 29 = .ok (.return_, 1) := by decide +kernel
theorem dX4_endItem_30 : decode cX4_endItem 30 = .ok (.aload_n 0, 1) := by decide +kernel
theorem dX4_endItem_31 : decode cX4_endItem 31 = .ok (.getfield 144, 3) := by decide +kernel
theorem dX4_endItem_34 : decode cX4_endItem 34 = .ok (.bipush 94, 2) := by decide +kernel
theorem dX4_endItem_36 : decode cX4_endItem 36 = .ok (.if_icmp .ne 15, 3) := by decide +kernel
theorem dX4_endItem_39 : decode cX4_endItem 39 = .ok (.aload_n 0, 1) := by decide +kernel
theorem dX4_endItem_40 : decode cX4_endItem 40 = .ok (.aload_n 0, 1) := by decide +kernel
theorem dX4_endItem_41 : decode cX4_endItem 41 = .ok (.getfield 178, 3) := by decide +kernel
theorem dX4_endItem_44 : decode cX4_endItem 44 = .ok (.invokevirtual 199, 3) := by decide +kernel
theorem dX4_endItem_47 : decode cX4_endItem 47 = .ok (.pop, 1) := by decide +kernel
theorem dX4_endItem_48 : decode cX4_endItem 48 = .ok (.goto 148, 3) := by decide +kernel
theorem dX4_endItem_51 : decode cX4_endItem 51 = .ok (.aload_n 0, 1) := by decide +kernel
theorem dX4_endItem_52 : decode cX4_endItem 52 = .ok (.getfield 144, 3) := by decide +kernel
theorem dX4_endItem_55 : decode cX4_endItem 55 = .ok (.bipush 46, 2) := by decide +kernel
theorem dX4_endItem_57 : decode cX4_endItem 57 = .ok (.if_icmp .eq 12, 3) := by decide +kernel
theorem dX4_endItem_60 : decode cX4_endItem 60 = .ok (.aload_n 0, 1) := by decide +kernel
theorem dX4_endItem_61 : decode cX4_endItem 61 = .ok (.getfield 144, 3) := by decide +kernel
theorem dX4_endItem_64 : decode cX4_endItem 64 = .ok (.bipush 45, 2) := by decide +kernel
theorem dX4_endItem_66 : decode cX4_endItem 66 = .ok (.if_icmp .ne 33, 3) := by decide +kernel
theorem dX4_endItem_69 : decode cX4_endItem 69 = .ok (.aload_n 0, 1) := by decide +kernel
theorem dX4_endItem_70 : decode cX4_endItem 70 = .ok (.aload_n 0, 1) := by decide +kernel
theorem dX4_endItem_71 : decode cX4_endItem 71 = .ok (.getfield 178, 3) := by decide +kernel
theorem dX4_endItem_74 : decode cX4_endItem 74 = .ok (.aload_n 0, 1) := by decide +kernel
theorem dX4_endItem_75 : decode cX4_endItem 75 = .ok (.getfield 150, 3) := by decide +kernel
theorem dX4_endItem_78 : decode cX4_endItem 78 = .ok (.aload_n 0, 1) := by decide +kernel
theorem dX4_endItem_79 : decode cX4_endItem 79 = .ok (.getfield 144, 3) := by decide +kernel
theorem dX4_endItem_82 : decode cX4_endItem 82 = .ok (.bipush 46, 2) := by decide +kernel
theorem dX4_endItem_84 : decode cX4_endItem 84 = .ok (.if_icmp .ne 7, 3) := by decide +kernel
theorem dX4_endItem_87 : decode cX4_endItem 87 = .ok (.iconst 1, 1) := by decide +kernel
theorem dX4_endItem_88 : decode cX4_endItem 88 = .ok (.goto 4, 3) := by decide +kernel
theorem dX4_endItem_91 : decode cX4_endItem 91 = .ok (.iconst 0, 1) := by decide +kernel
theorem dX4_endItem_92 : decode cX4_endItem 92 = .ok (.invokevirtual 202, 3) := by decide +kernel
theorem dX4_endItem_95 : decode cX4_endItem 95 = .ok (.pop, 1) := by decide +kernel
theorem dX4_endItem_96 : decode cX4_endItem 96 = .ok (.goto 100, 3) := by decide +kernel
theorem dX4_endItem_99 : decode cX4_endItem 99 = .ok (.aload_n 0, 1) := by decide +kernel
theorem dX4_endItem_100 : decode cX4_endItem 100 = .ok (.getfield 144, 3) := by decide +kernel
theorem dX4_endItem_103 : decode cX4_endItem 103 = .ok (.bipush 63, 2) := by decide +kernel
theorem dX4_endItem_105 : decode cX4_endItem 105 = .ok (.if_icmp .ne 19, 3) := by decide +kernel
theorem dX4_endItem_108 : decode cX4_endItem 108 = .ok (.aload_n 0, 1) := by decide +kernel
theorem dX4_endItem_109 : decode cX4_endItem 109 = .ok (.aload_n 0, 1) := by decide +kernel
theorem dX4_endItem_110 : decode cX4_endItem 110 = .ok (.getfield 178, 3) := by decide +kernel
theorem dX4_endItem_113 : decode cX4_endItem 113 = .ok (.aload_n 0, 1) := by decide +kernel
theorem dX4_endItem_114 : decode cX4_endItem 114 = .ok (.getfield 150, 3) := by decide +kernel
theorem dX4_endItem_117 : decode cX4_endItem 117 = .ok (.invokevirtual 205, 3) := by decide +kernel
theorem dX4_endItem_120 : decode cX4_endItem 120 = .ok (.pop, 1) := by decide +kernel
theorem dX4_endItem_121 : decode cX4_endItem 121 = .ok (.goto 75, 3) := by decide +kernel
theorem dX4_endItem_124 : decode cX4_endItem 124 = .ok (.aload_n 0, 1) := by decide +kernel
theorem dX4_endItem_125 : decode cX4_endItem 125 = .ok (.getfield 150, 3) := by decide +kernel
theorem dX4_endItem_128 : decode cX4_endItem 128 = .ok (.iconst (-1), 1) := by decide +kernel
theorem dX4_endItem_129 : decode cX4_endItem 129 = .ok (.if_icmp .eq 46, 3) := by decide +kernel
theorem dX4_endItem_132 : decode cX4_endItem 132 = .ok (.aload_n 0, 1) := by decide +kernel
theorem dX4_endItem_133 : decode cX4_endItem 133 = .ok (.aload_n 0, 1) := by decide +kernel
theorem dX4_endItem_134 : decode cX4_endItem 134 = .ok (.getfield 178, 3) := by decide +kernel
theorem dX4_endItem_137 : decode cX4_endItem 137 = .ok (.aload_n 0, 1) := by decide +kernel
theorem dX4_endItem_138 : decode cX4_endItem 138 = .ok (.getfield 166, 3) := by decide +kernel
theorem dX4_endItem_141 : decode cX4_endItem 141 = .ok (.aload_n 0, 1) := by decide +kernel
theorem dX4_endItem_142 : decode cX4_endItem 142 = .ok (.getfield 150, 3) := by decide +kernel
theorem dX4_endItem_145 : decode cX4_endItem 145 = .ok (.aload_n 0, 1) := by decide +kernel
theorem dX4_endItem_146 : decode cX4_endItem 146 = .ok (.getfield 153, 3) := by decide +kernel
theorem dX4_endItem_149 : decode cX4_endItem 149 = .ok (.iconst (-1), 1) := by decide +kernel
theorem dX4_endItem_150 : decode cX4_endItem 150 = .ok (.if_icmp .ne 10, 3) := by decide +kernel
theorem dX4_endItem_153 : decode cX4_endItem 153 = .ok (.aload_n 0, 1) := by decide +kernel
theorem dX4_endItem_154 : decode cX4_endItem 154 = .ok (.getfield 150, 3) := by decide +kernel
theorem dX4_endItem_157 : decode cX4_endItem 157 = .ok (.goto 7, 3) := by decide +kernel
theorem dX4_endItem_160 : decode cX4_endItem 160 = .ok (.aload_n 0, 1) := by decide +kernel
theorem dX4_endItem_161 : decode cX4_endItem 161 = .ok (.getfield 153, 3) := by decide +kernel
theorem dX4_endItem_164 : decode cX4_endItem 164 = .ok (.aload_n 0, 1) := by decide +kernel
theorem dX4_endItem_165 : decode cX4_endItem 165 = .ok (.getfield 147, 3) := by decide +kernel
theorem dX4_endItem_168 : decode cX4_endItem 168 = .ok (.invokevirtual 208, 3) := by decide +kernel
theorem dX4_endItem_171 : decode cX4_endItem 171 = .ok (.pop, 1) := by decide +kernel
theorem dX4_endItem_172 : decode cX4_endItem 172 = .ok (.goto 24, 3) := by decide +kernel
theorem dX4_endItem_175 : decode cX4_endItem 175 = .ok (.aload_n 0, 1) := by decide +kernel
theorem dX4_endItem_176 : decode cX4_endItem 176 = .ok (.aload_n 0, 1) := by decide +kernel
theorem dX4_endItem_177 : decode cX4_endItem 177 = .ok (.getfield 178, 3) := by decide +kernel
theorem dX4_endItem_180 : decode cX4_endItem 180 = .ok (.aload_n 0, 1) := by decide +kernel
theorem dX4_endItem_181 : decode cX4_endItem 181 = .ok (.getfield 166, 3) := by decide +kernel
theorem dX4_endItem_184 : decode cX4_endItem 184 = .ok (.aload_n 0, 1) := by decide +kernel
theorem dX4_endItem_185 : decode cX4_endItem 185 = .ok (.getfield 156, 3) := by decide +kernel
theorem dX4_endItem_188 : decode cX4_endItem 188 = .ok (.aload_n 0, 1) := by decide +kernel
theorem dX4_endItem_189 : decode cX4_endItem 189 = .ok (.getfield 147, 3) := by decide +kernel
theorem dX4_endItem_192 : decode cX4_endItem 192 = .ok (.invokevirtual 212, 3) := by decide +kernel
theorem dX4_endItem_195 : decode cX4_endItem 195 = .ok (.pop, 1) := by decide +kernel
theorem dX4_endItem_196 : decode cX4_endItem 196 = .ok (.aload_n 0, 1) := by decide +kernel
theorem dX4_endItem_197 : decode cX4_endItem 197 = .ok (.aload_n 0, 1) := by decide +kernel
theorem dX4_endItem_198 : decode cX4_endItem 198 = .ok (.getfield 37, 3) := by decide +kernel
theorem dX4_endItem_201 : decode cX4_endItem 201 = .ok (.ifCond .le 7, 3) := by decide +kernel
theorem dX4_endItem_204 : decode cX4_endItem 204 = .ok (.iconst 1, 1) := by decide +kernel
theorem dX4_endItem_205 : decode cX4_endItem 205 = .ok (.goto 4, 3) := by decide +kernel
theorem dX4_endItem_208 : decode cX4_endItem 208 = .ok (.iconst 0, 1) := by decide +kernel
theorem dX4_endItem_209 : decode cX4_endItem 209 = .ok (.putfield 196, 3) := by decide +kernel
theorem dX4_endItem_212 : decode cX4_endItem 212 = .ok (.return_, 1) := by decide +kernel
theorem dX4_read_0 : decode cX4_read 0 = .ok (.aload_n 0, 1) := by decide +kernel
theorem dX4_read_1 : decode cX4_read 1 = .ok (.iconst 0, 1) := by decide +kernel
theorem dX4_read_2 : decode cX4_read 2 = .ok (.putfield 141, 3) := by decide +kernel
theorem dX4_read_5 : decode cX4_read 5 = .ok (.aload_n 0, 1) := by decide +kernel
theorem dX4_read_6 : decode cX4_read 6 = .ok (.iconst 0, 1) := by decide +kernel
theorem dX4_read_7 : decode cX4_read 7 = .ok (.putfield 190, 3) := by decide +kernel
theorem dX4_read_10 : decode cX4_read 10 = .ok (.aload_n 0, 1) := by decide +kernel
theorem dX4_read_11 : decode cX4_read 11 = .ok (.iload_n 1, 1) := by decide +kernel
theorem dX4_read_12 : decode cX4_read 12 = .ok (.putfield 193, 3) := by decide +kernel
theorem dX4_read_15 : decode cX4_read 15 = .ok (.aload_n 0, 1) := by decide +kernel
theorem dX4_read_16 : decode cX4_read 16 = .ok (.iconst 0, 1) := by decide +kernel
theorem dX4_read_17 : decode cX4_read 17 = .ok (.putfield 196, 3) := by decide +kernel
theorem dX4_read_20 : decode cX4_read 20 = .ok (.iconst 0, 1) := by decide +kernel
theorem dX4_read_21 : decode cX4_read 21 = .ok (.istore_n 2, 1) := by decide +kernel
theorem dX4_read_22 : decode cX4_read 22 = .ok (.iload_n 2, 1) := by decide +kernel
theorem dX4_read_23 : decode cX4_read 23 = .ok (.aload_n 0, 1) := by decide +kernel
theorem dX4_read_24 : decode cX4_read 24 = .ok (.getfield 138, 3) := by decide +kernel
theorem dX4_read_27 : decode cX4_read 27 = .ok (.if_icmp .ge 22, 3) := by decide +kernel
theorem dX4_read_30 : decode cX4_read 30 = .ok (.aload_n 0, 1) := by decide +kernel
theorem dX4_read_31 : decode cX4_read 31 = .ok (.aload_n 0, 1) := by decide +kernel
theorem dX4_read_32 : decode cX4_read 32 = .ok (.getfield 19, 3) := by decide +kernel
theorem dX4_read_35 : decode cX4_read 35 = .ok (.iload_n 2, 1) := by decide +kernel
theorem dX4_read_36 : decode cX4_read 36 = .ok (.iaload, 1) := by decide +kernel
theorem dX4_read_37 : decode cX4_read 37 = .ok (.invokevirtual 216, 3) := by decide +kernel
theorem dX4_read_40 : decode cX4_read 40 = .ok (.ifCond .eq 9, 3) := by decide +kernel
theorem dX4_read_43 : decode cX4_read 43 = .ok (.iinc 2 1, 3) := by decide +kernel
theorem dX4_read_46 : decode cX4_read 46 = .ok (.goto (-24), 3) := by decide +kernel
theorem dX4_read_49 : decode cX4_read 49 = .ok (.iload_n 2, 1) := by decide +kernel
theorem dX4_read_50 : decode cX4_read 50 = .ok (.ireturn, 1) := by decide +kernel
theorem dX4_firstError_0 : decode cX4_firstError 0 = .ok (.aload_n 0, 1) := by decide +kernel
theorem dX4_firstError_1 : decode cX4_firstError 1 = .ok (.iconst 0, 1) := by decide +kernel
theorem dX4_firstError_2 : decode cX4_firstError 2 = .ok (.putfield 37, 3) := by decide +kernel
theorem dX4_firstError_5 : decode cX4_firstError 5 = .ok (.aload_n 0, 1) := by decide +kernel
theorem dX4_firstError_6 : decode cX4_firstError 6 = .ok (.iconst 0, 1) := by decide +kernel
theorem dX4_firstError_7 : decode cX4_firstError 7 = .ok (.invokevirtual 219, 3) := by decide +kernel
theorem dX4_firstError_10 : decode cX4_firstError 10 = .ok (.ireturn, 1) := by decide +kernel
theorem dX4_copy_0 : decode cX4_copy 0 = .ok (.iconst 0, 1) := by decide +kernel
theorem dX4_copy_1 : decode cX4_copy 1 = .ok (.istore_n 3, 1) := by decide +kernel
theorem dX4_copy_2 : decode cX4_copy 2 = .ok (.iload_n 3, 1) := by decide +kernel
theorem dX4_copy_3 : decode cX4_copy 3 = .ok (.sipush 290, 3) := by decide +kernel
theorem dX4_copy_6 : decode cX4_copy 6 = .ok (.if_icmp .ge 15, 3) := by decide +kernel
theorem dX4_copy_9 : decode cX4_copy 9 = .ok (.aload_n 2, 1) := by decide +kernel
theorem dX4_copy_10 : decode cX4_copy 10 = .ok (.iload_n 3, 1) := by decide +kernel
theorem dX4_copy_11 : decode cX4_copy 11 = .ok (.aload_n 1, 1) := by decide +kernel
theorem dX4_copy_12 : decode cX4_copy 12 = .ok (.iload_n 3, 1) := by decide +kernel
theorem dX4_copy_13 : decode cX4_copy 13 = .ok (.iaload, 1) := by decide +kernel
theorem dX4_copy_14 : decode cX4_copy 14 = .ok (.iastore, 1) := by decide +kernel
theorem dX4_copy_15 : decode cX4_copy 15 = .ok (.iinc 3 1, 3) := by decide +kernel
theorem dX4_copy_18 : decode cX4_copy 18 = .ok (.goto (-16), 3) := by decide +kernel
theorem dX4_copy_21 : decode cX4_copy 21 = .ok (.aload_n 0, 1) := by decide +kernel
theorem dX4_copy_22 : decode cX4_copy 22 = .ok (.iconst 0, 1) := by decide +kernel
theorem dX4_copy_23 : decode cX4_copy 23 = .ok (.putfield 49, 3) := by decide +kernel
theorem dX4_copy_26 : decode cX4_copy 26 = .ok (.return_, 1) := by decide +kernel
theorem dX4_load_0 : decode cX4_load 0 = .ok (.aload_n 0, 1) := by decide +kernel
theorem dX4_load_1 : decode cX4_load 1 = .ok (.iconst 0, 1) := by decide +kernel
theorem dX4_load_2 : decode cX4_load 2 = .ok (.invokevirtual 219, 3) := by decide +kernel
theorem dX4_load_5 : decode cX4_load 5 = .ok (.aload_n 0, 1) := by decide +kernel
theorem dX4_load_6 : decode cX4_load 6 = .ok (.getfield 138, 3) := by decide +kernel
theorem dX4_load_9 : decode cX4_load 9 = .ok (.if_icmp .ne 14, 3) := by decide +kernel
theorem dX4_load_12 : decode cX4_load 12 = .ok (.aload_n 0, 1) := by decide +kernel
theorem dX4_load_13 : decode cX4_load 13 = .ok (.invokevirtual 172, 3) := by decide +kernel
theorem dX4_load_16 : decode cX4_load 16 = .ok (.ifCond .eq 7, 3) := by decide +kernel
theorem dX4_load_19 : decode cX4_load 19 = .ok (.iconst 1, 1) := by decide +kernel
theorem dX4_load_20 : decode cX4_load 20 = .ok (.goto 4, 3) := by decide +kernel
theorem dX4_load_23 : decode cX4_load 23 = .ok (.iconst 0, 1) := by decide +kernel
theorem dX4_load_24 : decode cX4_load 24 = .ok (.istore_n 1, 1) := by decide +kernel
theorem dX4_load_25 : decode cX4_load 25 = .ok (.aload_n 0, 1) := by decide +kernel
theorem dX4_load_26 : decode cX4_load 26 = .ok (.iload_n 1, 1) := by decide +kernel
theorem dX4_load_27 : decode cX4_load 27 = .ok (.ifCond .eq 7, 3) := by decide +kernel
theorem dX4_load_30 : decode cX4_load 30 = .ok (.iconst 0, 1) := by decide +kernel
theorem dX4_load_31 : decode cX4_load 31 = .ok (.goto 4, 3) := by decide +kernel
theorem dX4_load_34 : decode cX4_load 34 = .ok (.iconst 1, 1) := by decide +kernel
theorem dX4_load_35 : decode cX4_load 35 = .ok (.putfield 37, 3) := by decide +kernel
theorem dX4_load_38 : decode cX4_load 38 = .ok (.aload_n 0, 1) := by decide +kernel
theorem dX4_load_39 : decode cX4_load 39 = .ok (.getfield 37, 3) := by decide +kernel
theorem dX4_load_42 : decode cX4_load 42 = .ok (.ifCond .le 5, 3) := by decide +kernel
theorem dX4_load_45 : decode cX4_load 45 = .ok (.iconst 0, 1) := by decide +kernel
theorem dX4_load_46 : decode cX4_load 46 = .ok (.ireturn, 1) := by decide +kernel
theorem dX4_load_47 : decode cX4_load 47 = .ok (.aload_n 0, 1) := by decide +kernel
theorem dX4_load_48 : decode cX4_load 48 = .ok (.aload_n 0, 1) := by decide +kernel
theorem dX4_load_49 : decode cX4_load 49 = .ok (.getfield 7, 3) := by decide +kernel
theorem dX4_load_52 : decode cX4_load 52 = .ok (.aload_n 0, 1) := by decide +kernel
theorem dX4_load_53 : decode cX4_load 53 = .ok (.getfield 13, 3) := by decide +kernel
theorem dX4_load_56 : decode cX4_load 56 = .ok (.invokevirtual 223, 3) := by decide +kernel
theorem dX4_load_59 : decode cX4_load 59 = .ok (.aload_n 0, 1) := by decide +kernel
theorem dX4_load_60 : decode cX4_load 60 = .ok (.iconst 1, 1) := by decide +kernel
theorem dX4_load_61 : decode cX4_load 61 = .ok (.invokevirtual 219, 3) := by decide +kernel
theorem dX4_load_64 : decode cX4_load 64 = .ok (.pop, 1) := by decide +kernel
theorem dX4_load_65 : decode cX4_load 65 = .ok (.aload_n 0, 1) := by decide +kernel
theorem dX4_load_66 : decode cX4_load 66 = .ok (.invokevirtual 175, 3) := by decide +kernel
theorem dX4_load_69 : decode cX4_load 69 = .ok (.aload_n 0, 1) := by decide +kernel
theorem dX4_load_70 : decode cX4_load 70 = .ok (.getfield 196, 3) := by decide +kernel
theorem dX4_load_73 : decode cX4_load 73 = .ok (.ifCond .eq 22, 3) := by decide +kernel
theorem dX4_load_76 : decode cX4_load 76 = .ok (.aload_n 0, 1) := by decide +kernel
theorem dX4_load_77 : decode cX4_load 77 = .ok (.aload_n 0, 1) := by decide +kernel
theorem dX4_load_78 : decode cX4_load 78 = .ok (.getfield 13, 3) := by decide +kernel
theorem dX4_load_81 : decode cX4_load 81 = .ok (.aload_n 0, 1) := by decide +kernel
theorem dX4_load_82 : decode cX4_load 82 = .ok (.getfield 7, 3) := by decide +kernel
theorem dX4_load_85 : decode cX4_load 85 = .ok (.invokevirtual 223, 3) := by decide +kernel
theorem dX4_load_88 : decode cX4_load 88 = .ok (.aload_n 0, 1) := by decide +kernel
theorem dX4_load_89 : decode cX4_load 89 = .ok (.iconst 2, 1) := by decide +kernel
theorem dX4_load_90 : decode cX4_load 90 = .ok (.putfield 37, 3) := by decide +kernel
theorem dX4_load_93 : decode cX4_load 93 = .ok (.iconst 0, 1) := by decide +kernel
theorem dX4_load_94 : decode cX4_load 94 = .ok (.ireturn, 1) := by decide +kernel
theorem dX4_load_95 : decode cX4_load 95 = .ok (.aload_n 0, 1) := by decide +kernel
theorem dX4_load_96 : decode cX4_load 96 = .ok (.iconst 0, 1) := by decide +kernel
theorem dX4_load_97 : decode cX4_load 97 = .ok (.putfield 37, 3) := by decide +kernel
theorem dX4_load_100 : decode cX4_load 100 = .ok (.aload_n 0, 1) := by decide +kernel
theorem dX4_load_101 : decode cX4_load 101 = .ok (.iconst 0, 1) := by decide +kernel
theorem dX4_load_102 : decode cX4_load 102 = .ok (.putfield 138, 3) := by decide +kernel
theorem dX4_load_105 : decode cX4_load 105 = .ok (.aload_n 0, 1) := by decide +kernel
theorem dX4_load_106 : decode cX4_load 106 = .ok (.getfield 190, 3) := by decide +kernel
theorem dX4_load_109 : decode cX4_load 109 = .ok (.ireturn, 1) := by decide +kernel
theorem dX4_resolved_0 : decode cX4_resolved 0 = .ok (.aload_n 0, 1) := by decide +kernel
theorem dX4_resolved_1 : decode cX4_resolved 1 = .ok (.iload_n 1, 1) := by decide +kernel
theorem dX4_resolved_2 : decode cX4_resolved 2 = .ok (.iload_n 2, 1) := by decide +kernel
theorem dX4_resolved_3 : decode cX4_resolved 3 = .ok (.invokevirtual 83, 3) := by decide +kernel
theorem dX4_resolved_6 : decode cX4_resolved 6 = .ok (.iload_n 3, 1) := by decide +kernel
theorem dX4_resolved_7 : decode cX4_resolved 7 = .ok (.tableswitch 107 0 3 #[29, 50, 71, 89], 29) := by decide +kernel
theorem dX4_resolved_36 : decode cX4_resolved 36 = .ok (.aload_n 0, 1) := by decide +kernel
theorem dX4_resolved_37 : decode cX4_resolved 37 = .ok (.getfield 76, 3) := by decide +kernel
theorem dX4_resolved_40 : decode cX4_resolved 40 = .ok (.ifCond .ne 7, 3) := by decide +kernel
theorem dX4_resolved_43 : decode cX4_resolved 43 = .ok (.iconst (-1), 1) := by decide +kernel
theorem dX4_resolved_44 : decode cX4_resolved 44 = .ok (.goto 12, 3) := by decide +kernel
theorem dX4_resolved_47 : decode cX4_resolved 47 = .ok (.aload_n 0, 1) := by decide +kernel
theorem dX4_resolved_48 : decode cX4_resolved 48 = .ok (.getfield 22, 3) := by decide +kernel
theorem dX4_resolved_51 : decode cX4_resolved 51 = .ok (.iconst 0, 1) := by decide +kernel
theorem dX4_resolved_52 : decode cX4_resolved 52 = .ok (.iaload, 1) := by decide +kernel
theorem dX4_resolved_53 : decode cX4_resolved 53 = .ok (.invokestatic 227, 3) := by decide +kernel
theorem dX4_resolved_56 : decode cX4_resolved 56 = .ok (.ireturn, 1) := by decide +kernel
theorem dX4_resolved_57 : decode cX4_resolved 57 = .ok (.aload_n 0, 1) := by decide +kernel
theorem dX4_resolved_58 : decode cX4_resolved 58 = .ok (.getfield 76, 3) := by decide +kernel
theorem dX4_resolved_61 : decode cX4_resolved 61 = .ok (.ifCond .ne 7, 3) := by decide +kernel
theorem dX4_resolved_64 : decode cX4_resolved 64 = .ok (.iconst 0, 1) := by decide +kernel
theorem dX4_resolved_65 : decode cX4_resolved 65 = .ok (.goto 12, 3) := by decide +kernel
theorem dX4_resolved_68 : decode cX4_resolved 68 = .ok (.aload_n 0, 1) := by decide +kernel
theorem dX4_resolved_69 : decode cX4_resolved 69 = .ok (.getfield 22, 3) := by decide +kernel
theorem dX4_resolved_72 : decode cX4_resolved 72 = .ok (.iconst 0, 1) := by decide +kernel
theorem dX4_resolved_73 : decode cX4_resolved 73 = .ok (.iaload, 1) := by decide +kernel
theorem dX4_resolved_74 : decode cX4_resolved 74 = .ok (.invokestatic 87, 3) := by decide +kernel
theorem dX4_resolved_77 : decode cX4_resolved 77 = .ok (.ireturn, 1) := by decide +kernel
theorem dX4_resolved_78 : decode cX4_resolved 78 = .ok (.aload_n 0, 1) := by decide +kernel
theorem dX4_resolved_79 : decode cX4_resolved 79 = .ok (.getfield 76, 3) := by decide +kernel
theorem dX4_resolved_82 : decode cX4_resolved 82 = .ok (.ifCond .ne 7, 3) := by decide +kernel
theorem dX4_resolved_85 : decode cX4_resolved 85 = .ok (.iconst (-1), 1) := by decide +kernel
theorem dX4_resolved_86 : decode cX4_resolved 86 = .ok (.goto 9, 3) := by decide +kernel
theorem dX4_resolved_89 : decode cX4_resolved 89 = .ok (.aload_n 0, 1) := by decide +kernel
theorem dX4_resolved_90 : decode cX4_resolved 90 = .ok (.getfield 25, 3) := by decide +kernel
theorem dX4_resolved_93 : decode cX4_resolved 93 = .ok (.iconst 0, 1) := by decide +kernel
theorem dX4_resolved_94 : decode cX4_resolved 94 = .ok (.iaload, 1) := by decide +kernel
theorem dX4_resolved_95 : decode cX4_resolved 95 = .ok (.ireturn, 1) := by decide +kernel
theorem dX4_resolved_96 : decode cX4_resolved 96 = .ok (.aload_n 0, 1) := by decide +kernel
theorem dX4_resolved_97 : decode cX4_resolved 97 = .ok (.getfield 76, 3) := by decide +kernel
theorem dX4_resolved_100 : decode cX4_resolved 100 = .ok (.ifCond .ne 7, 3) := by decide +kernel
theorem dX4_resolved_103 : decode cX4_resolved 103 = .ok (.iconst (-1), 1) := by decide +kernel
theorem dX4_resolved_104 : decode cX4_resolved 104 = .ok (.goto 9, 3) := by decide +kernel
theorem dX4_resolved_107 : decode cX4_resolved 107 = .ok (.aload_n 0, 1) := by decide +kernel
theorem dX4_resolved_108 : decode cX4_resolved 108 = .ok (.getfield 28, 3) := by decide +kernel
theorem dX4_resolved_111 : decode cX4_resolved 111 = .ok (.iconst 0, 1) := by decide +kernel
theorem dX4_resolved_112 : decode cX4_resolved 112 = .ok (.iaload, 1) := by decide +kernel
theorem dX4_resolved_113 : decode cX4_resolved 113 = .ok (.ireturn, 1) := by decide +kernel
theorem dX4_resolved_114 : decode cX4_resolved 114 = .ok (.aload_n 0, 1) := by decide +kernel
theorem dX4_resolved_115 : decode cX4_resolved 115 = .ok (.getfield 76, 3) := by decide +kernel
theorem dX4_resolved_118 : decode cX4_resolved 118 = .ok (.ifCond .ne 7, 3) := by decide +kernel
theorem dX4_resolved_121 : decode cX4_resolved 121 = .ok (.iconst 0, 1) := by decide +kernel
theorem dX4_resolved_122 : decode cX4_resolved 122 = .ok (.goto 9, 3) := by decide +kernel
theorem dX4_resolved_125 : decode cX4_resolved 125 = .ok (.aload_n 0, 1) := by decide +kernel
theorem dX4_resolved_126 : decode cX4_resolved 126 = .ok (.getfield 76, 3) := by decide +kernel
theorem dX4_resolved_129 : decode cX4_resolved 129 = .ok (.iconst 1, 1) := by decide +kernel
theorem dX4_resolved_130 : decode cX4_resolved 130 = .ok (.isub, 1) := by decide +kernel
theorem dX4_resolved_131 : decode cX4_resolved 131 = .ok (.ireturn, 1) := by decide +kernel
theorem dX4_resolve_0 : decode cX4_resolve 0 = .ok (.aload_n 0, 1) := by decide +kernel
theorem dX4_resolve_1 : decode cX4_resolve 1 = .ok (.aload_n 0, 1) := by decide +kernel
theorem dX4_resolve_2 : decode cX4_resolve 2 = .ok (.iload_n 1, 1) := by decide +kernel
theorem dX4_resolve_3 : decode cX4_resolve 3 = .ok (.invokevirtual 103, 3) := by decide +kernel
theorem dX4_resolve_6 : decode cX4_resolve 6 = .ok (.ifCond .ne 7, 3) := by decide +kernel
theorem dX4_resolve_9 : decode cX4_resolve 9 = .ok (.iconst 1, 1) := by decide +kernel
theorem dX4_resolve_10 : decode cX4_resolve 10 = .ok (.goto 24, 3) := by decide +kernel
theorem dX4_resolve_13 : decode cX4_resolve 13 = .ok (.iload_n 2, 1) := by decide +kernel
theorem dX4_resolve_14 : decode cX4_resolve 14 = .ok (.invokestatic 106, 3) := by decide +kernel
theorem dX4_resolve_17 : decode cX4_resolve 17 = .ok (.ifCond .eq 16, 3) := by decide +kernel
theorem dX4_resolve_20 : decode cX4_resolve 20 = .ok (.iload_n 3, 1) := by decide +kernel
theorem dX4_resolve_21 : decode cX4_resolve 21 = .ok (.iconst 0, 1) := by decide +kernel
theorem dX4_resolve_22 : decode cX4_resolve 22 = .ok (.iconst 4, 1) := by decide +kernel
theorem dX4_resolve_23 : decode cX4_resolve 23 = .ok (.invokestatic 41, 3) := by decide +kernel
theorem dX4_resolve_26 : decode cX4_resolve 26 = .ok (.ifCond .eq 7, 3) := by decide +kernel
theorem dX4_resolve_29 : decode cX4_resolve 29 = .ok (.iconst 0, 1) := by decide +kernel
theorem dX4_resolve_30 : decode cX4_resolve 30 = .ok (.goto 4, 3) := by decide +kernel
theorem dX4_resolve_33 : decode cX4_resolve 33 = .ok (.iconst 2, 1) := by decide +kernel
theorem dX4_resolve_34 : decode cX4_resolve 34 = .ok (.putfield 37, 3) := by decide +kernel
theorem dX4_resolve_37 : decode cX4_resolve 37 = .ok (.aload_n 0, 1) := by decide +kernel
theorem dX4_resolve_38 : decode cX4_resolve 38 = .ok (.getfield 37, 3) := by decide +kernel
theorem dX4_resolve_41 : decode cX4_resolve 41 = .ok (.ifCond .le 7, 3) := by decide +kernel
theorem dX4_resolve_44 : decode cX4_resolve 44 = .ok (.iconst 0, 1) := by decide +kernel
theorem dX4_resolve_45 : decode cX4_resolve 45 = .ok (.goto 10, 3) := by decide +kernel
theorem dX4_resolve_48 : decode cX4_resolve 48 = .ok (.aload_n 0, 1) := by decide +kernel
theorem dX4_resolve_49 : decode cX4_resolve 49 = .ok (.iload_n 1, 1) := by decide +kernel
theorem dX4_resolve_50 : decode cX4_resolve 50 = .ok (.iload_n 2, 1) := by decide +kernel
theorem dX4_resolve_51 : decode cX4_resolve 51 = .ok (.iload_n 3, 1) := by decide +kernel
theorem dX4_resolve_52 : decode cX4_resolve 52 = .ok (.invokevirtual 230, 3) := by decide +kernel
theorem dX4_resolve_55 : decode cX4_resolve 55 = .ok (.ireturn, 1) := by decide +kernel
theorem dX4_candidateOf_0 : decode cX4_candidateOf 0 = .ok (.aload_n 0, 1) := by decide +kernel
theorem dX4_candidateOf_1 : decode cX4_candidateOf 1 = .ok (.iload_n 1, 1) := by decide +kernel
theorem dX4_candidateOf_2 : decode cX4_candidateOf 2 = .ok (.iload_n 2, 1) := by decide +kernel
theorem dX4_candidateOf_3 : decode cX4_candidateOf 3 = .ok (.invokevirtual 83, 3) := by decide +kernel
theorem dX4_candidateOf_6 : decode cX4_candidateOf 6 = .ok (.iload_n 3, 1) := by decide +kernel
theorem dX4_candidateOf_7 : decode cX4_candidateOf 7 = .ok (.iconst 0, 1) := by decide +kernel
theorem dX4_candidateOf_8 : decode cX4_candidateOf 8 = .ok (.aload_n 0, 1) := by decide +kernel
theorem dX4_candidateOf_9 : decode cX4_candidateOf 9 = .ok (.getfield 76, 3) := by decide +kernel
theorem dX4_candidateOf_12 : decode cX4_candidateOf 12 = .ok (.iconst 1, 1) := by decide +kernel
theorem dX4_candidateOf_13 : decode cX4_candidateOf 13 = .ok (.isub, 1) := by decide +kernel
theorem dX4_candidateOf_14 : decode cX4_candidateOf 14 = .ok (.invokestatic 41, 3) := by decide +kernel
theorem dX4_candidateOf_17 : decode cX4_candidateOf 17 = .ok (.ifCond .eq 8, 3) := by decide +kernel
theorem dX4_candidateOf_20 : decode cX4_candidateOf 20 = .ok (.iload 4, 2) := by decide +kernel
theorem dX4_candidateOf_22 : decode cX4_candidateOf 22 = .ok (.ifCond .ge 5, 3) := by decide +kernel
theorem dX4_candidateOf_25 : decode cX4_candidateOf 25 = .ok (.iconst (-1), 1) := by decide +kernel
theorem dX4_candidateOf_26 : decode cX4_candidateOf 26 = .ok (.ireturn, 1) := by decide +kernel
theorem dX4_candidateOf_27 : decode cX4_candidateOf 27 = .ok (.iload 4, 2) := by decide +kernel
theorem dX4_candidateOf_29 : decode cX4_candidateOf 29 = .ok (.istore 5, 2) := by decide +kernel
theorem dX4_candidateOf_31 : decode cX4_candidateOf 31 = .ok (.iconst (-1), 1) := by decide +kernel
theorem dX4_candidateOf_32 : decode cX4_candidateOf 32 = .ok (.istore 6, 2) := by decide +kernel
theorem dX4_candidateOf_34 : decode cX4_candidateOf 34 = .ok (.iconst 0, 1) := by decide +kernel
theorem dX4_candidateOf_35 : decode cX4_candidateOf 35 = .ok (.istore 7, 2) := by decide +kernel
theorem dX4_candidateOf_37 : decode cX4_candidateOf 37 = .ok (.iload 7, 2) := by decide +kernel
theorem dX4_candidateOf_39 : decode cX4_candidateOf 39 = .ok (.aload_n 0, 1) := by decide +kernel
theorem dX4_candidateOf_40 : decode cX4_candidateOf 40 = .ok (.getfield 7, 3) := by decide +kernel
theorem dX4_candidateOf_43 : decode cX4_candidateOf 43 = .ok (.iconst 1, 1) := by decide +kernel
theorem dX4_candidateOf_44 : decode cX4_candidateOf 44 = .ok (.iaload, 1) := by decide +kernel
theorem dX4_candidateOf_45 : decode cX4_candidateOf 45 = .ok (.if_icmp .ge 41, 3) := by decide +kernel
theorem dX4_candidateOf_48 : decode cX4_candidateOf 48 = .ok (.aload_n 0, 1) := by decide +kernel
theorem dX4_candidateOf_49 : decode cX4_candidateOf 49 = .ok (.getfield 22, 3) := by decide +kernel
theorem dX4_candidateOf_52 : decode cX4_candidateOf 52 = .ok (.iload_n 3, 1) := by decide +kernel
theorem dX4_candidateOf_53 : decode cX4_candidateOf 53 = .ok (.iaload, 1) := by decide +kernel
theorem dX4_candidateOf_54 : decode cX4_candidateOf 54 = .ok (.iload 7, 2) := by decide +kernel
theorem dX4_candidateOf_56 : decode cX4_candidateOf 56 = .ok (.ishr, 1) := by decide +kernel
theorem dX4_candidateOf_57 : decode cX4_candidateOf 57 = .ok (.iconst 1, 1) := by decide +kernel
theorem dX4_candidateOf_58 : decode cX4_candidateOf 58 = .ok (.iand, 1) := by decide +kernel
theorem dX4_candidateOf_59 : decode cX4_candidateOf 59 = .ok (.iconst 1, 1) := by decide +kernel
theorem dX4_candidateOf_60 : decode cX4_candidateOf 60 = .ok (.if_icmp .ne 20, 3) := by decide +kernel
theorem dX4_candidateOf_63 : decode cX4_candidateOf 63 = .ok (.iload 5, 2) := by decide +kernel
theorem dX4_candidateOf_65 : decode cX4_candidateOf 65 = .ok (.ifCond .ne 8, 3) := by decide +kernel
theorem dX4_candidateOf_68 : decode cX4_candidateOf 68 = .ok (.iload 7, 2) := by decide +kernel
theorem dX4_candidateOf_70 : decode cX4_candidateOf 70 = .ok (.goto 5, 3) := by decide +kernel
theorem dX4_candidateOf_73 : decode cX4_candidateOf 73 = .ok (.iload 6, 2) := by decide +kernel
theorem dX4_candidateOf_75 : decode cX4_candidateOf 75 = .ok (.istore 6, 2) := by decide +kernel
theorem dX4_candidateOf_77 : decode cX4_candidateOf 77 = .ok (.iinc 5 (-1), 3) := by decide +kernel
theorem dX4_candidateOf_80 : decode cX4_candidateOf 80 = .ok (.iinc 7 1, 3) := by decide +kernel
theorem dX4_candidateOf_83 : decode cX4_candidateOf 83 = .ok (.goto (-46), 3) := by decide +kernel
theorem dX4_candidateOf_86 : decode cX4_candidateOf 86 = .ok (.iload 6, 2) := by decide +kernel
theorem dX4_candidateOf_88 : decode cX4_candidateOf 88 = .ok (.ireturn, 1) := by decide +kernel
theorem dX4_candidate_0 : decode cX4_candidate 0 = .ok (.aload_n 0, 1) := by decide +kernel
theorem dX4_candidate_1 : decode cX4_candidate 1 = .ok (.aload_n 0, 1) := by decide +kernel
theorem dX4_candidate_2 : decode cX4_candidate 2 = .ok (.iload_n 1, 1) := by decide +kernel
theorem dX4_candidate_3 : decode cX4_candidate 3 = .ok (.invokevirtual 103, 3) := by decide +kernel
theorem dX4_candidate_6 : decode cX4_candidate 6 = .ok (.ifCond .ne 7, 3) := by decide +kernel
theorem dX4_candidate_9 : decode cX4_candidate 9 = .ok (.iconst 1, 1) := by decide +kernel
theorem dX4_candidate_10 : decode cX4_candidate 10 = .ok (.goto 15, 3) := by decide +kernel
theorem dX4_candidate_13 : decode cX4_candidate 13 = .ok (.iload_n 2, 1) := by decide +kernel
theorem dX4_candidate_14 : decode cX4_candidate 14 = .ok (.invokestatic 106, 3) := by decide +kernel
theorem dX4_candidate_17 : decode cX4_candidate 17 = .ok (.ifCond .eq 7, 3) := by decide +kernel
theorem dX4_candidate_20 : decode cX4_candidate 20 = .ok (.iconst 0, 1) := by decide +kernel
theorem dX4_candidate_21 : decode cX4_candidate 21 = .ok (.goto 4, 3) := by decide +kernel
theorem dX4_candidate_24 : decode cX4_candidate 24 = .ok (.iconst 2, 1) := by decide +kernel
theorem dX4_candidate_25 : decode cX4_candidate 25 = .ok (.putfield 37, 3) := by decide +kernel
theorem dX4_candidate_28 : decode cX4_candidate 28 = .ok (.aload_n 0, 1) := by decide +kernel
theorem dX4_candidate_29 : decode cX4_candidate 29 = .ok (.getfield 37, 3) := by decide +kernel
theorem dX4_candidate_32 : decode cX4_candidate 32 = .ok (.ifCond .le 7, 3) := by decide +kernel
theorem dX4_candidate_35 : decode cX4_candidate 35 = .ok (.iconst 0, 1) := by decide +kernel
theorem dX4_candidate_36 : decode cX4_candidate 36 = .ok (.goto 12, 3) := by decide +kernel
theorem dX4_candidate_39 : decode cX4_candidate 39 = .ok (.aload_n 0, 1) := by decide +kernel
theorem dX4_candidate_40 : decode cX4_candidate 40 = .ok (.iload_n 1, 1) := by decide +kernel
theorem dX4_candidate_41 : decode cX4_candidate 41 = .ok (.iload_n 2, 1) := by decide +kernel
theorem dX4_candidate_42 : decode cX4_candidate 42 = .ok (.iload_n 3, 1) := by decide +kernel
theorem dX4_candidate_43 : decode cX4_candidate 43 = .ok (.iload 4, 2) := by decide +kernel
theorem dX4_candidate_45 : decode cX4_candidate 45 = .ok (.invokevirtual 233, 3) := by decide +kernel
theorem dX4_candidate_48 : decode cX4_candidate 48 = .ok (.ireturn, 1) := by decide +kernel
theorem dX4_offers_0 : decode cX4_offers 0 = .ok (.aload_n 0, 1) := by decide +kernel
theorem dX4_offers_1 : decode cX4_offers 1 = .ok (.aload_n 0, 1) := by decide +kernel
theorem dX4_offers_2 : decode cX4_offers 2 = .ok (.iload_n 1, 1) := by decide +kernel
theorem dX4_offers_3 : decode cX4_offers 3 = .ok (.invokevirtual 103, 3) := by decide +kernel
theorem dX4_offers_6 : decode cX4_offers 6 = .ok (.ifCond .ne 7, 3) := by decide +kernel
theorem dX4_offers_9 : decode cX4_offers 9 = .ok (.iconst 1, 1) := by decide +kernel
theorem dX4_offers_10 : decode cX4_offers 10 = .ok (.goto 15, 3) := by decide +kernel
theorem dX4_offers_13 : decode cX4_offers 13 = .ok (.iload_n 2, 1) := by decide +kernel
theorem dX4_offers_14 : decode cX4_offers 14 = .ok (.invokestatic 106, 3) := by decide +kernel
theorem dX4_offers_17 : decode cX4_offers 17 = .ok (.ifCond .eq 7, 3) := by decide +kernel
theorem dX4_offers_20 : decode cX4_offers 20 = .ok (.iconst 0, 1) := by decide +kernel
theorem dX4_offers_21 : decode cX4_offers 21 = .ok (.goto 4, 3) := by decide +kernel
theorem dX4_offers_24 : decode cX4_offers 24 = .ok (.iconst 2, 1) := by decide +kernel
theorem dX4_offers_25 : decode cX4_offers 25 = .ok (.putfield 37, 3) := by decide +kernel
theorem dX4_offers_28 : decode cX4_offers 28 = .ok (.aload_n 0, 1) := by decide +kernel
theorem dX4_offers_29 : decode cX4_offers 29 = .ok (.getfield 37, 3) := by decide +kernel
theorem dX4_offers_32 : decode cX4_offers 32 = .ok (.ifCond .le 5, 3) := by decide +kernel
theorem dX4_offers_35 : decode cX4_offers 35 = .ok (.iconst 0, 1) := by decide +kernel
theorem dX4_offers_36 : decode cX4_offers 36 = .ok (.ireturn, 1) := by decide +kernel
theorem dX4_offers_37 : decode cX4_offers 37 = .ok (.aload_n 0, 1) := by decide +kernel
theorem dX4_offers_38 : decode cX4_offers 38 = .ok (.invokevirtual 73, 3) := by decide +kernel
theorem dX4_offers_41 : decode cX4_offers 41 = .ok (.aload_n 0, 1) := by decide +kernel
theorem dX4_offers_42 : decode cX4_offers 42 = .ok (.iload_n 1, 1) := by decide +kernel
theorem dX4_offers_43 : decode cX4_offers 43 = .ok (.iload_n 2, 1) := by decide +kernel
theorem dX4_offers_44 : decode cX4_offers 44 = .ok (.invokevirtual 60, 3) := by decide +kernel
theorem dX4_offers_47 : decode cX4_offers 47 = .ok (.invokestatic 87, 3) := by decide +kernel
theorem dX4_offers_50 : decode cX4_offers 50 = .ok (.ireturn, 1) := by decide +kernel
theorem dX4_seen_0 : decode cX4_seen 0 = .ok (.iconst 0, 1) := by decide +kernel
theorem dX4_seen_1 : decode cX4_seen 1 = .ok (.istore_n 3, 1) := by decide +kernel
theorem dX4_seen_2 : decode cX4_seen 2 = .ok (.iconst 0, 1) := by decide +kernel
theorem dX4_seen_3 : decode cX4_seen 3 = .ok (.istore 4, 2) := by decide +kernel
theorem dX4_seen_5 : decode cX4_seen 5 = .ok (.iload 4, 2) := by decide +kernel
theorem dX4_seen_7 : decode cX4_seen 7 = .ok (.bipush 26, 2) := by decide +kernel
theorem dX4_seen_9 : decode cX4_seen 9 = .ok (.if_icmp .ge 51, 3) := by decide +kernel
theorem dX4_seen_12 : decode cX4_seen 12 = .ok (.aload_n 0, 1) := by decide +kernel
theorem dX4_seen_13 : decode cX4_seen 13 = .ok (.iload_n 1, 1) := by decide +kernel
theorem dX4_seen_14 : decode cX4_seen 14 = .ok (.iload 4, 2) := by decide +kernel
theorem dX4_seen_16 : decode cX4_seen 16 = .ok (.invokevirtual 100, 3) := by decide +kernel
theorem dX4_seen_19 : decode cX4_seen 19 = .ok (.invokestatic 87, 3) := by decide +kernel
theorem dX4_seen_22 : decode cX4_seen 22 = .ok (.istore 5, 2) := by decide +kernel
theorem dX4_seen_24 : decode cX4_seen 24 = .ok (.iload_n 3, 1) := by decide +kernel
theorem dX4_seen_25 : decode cX4_seen 25 = .ok (.iload_n 2, 1) := by decide +kernel
theorem dX4_seen_26 : decode cX4_seen 26 = .ok (.ifCond .eq 12, 3) := by decide +kernel
theorem dX4_seen_29 : decode cX4_seen 29 = .ok (.iload 5, 2) := by decide +kernel
theorem dX4_seen_31 : decode cX4_seen 31 = .ok (.iconst 1, 1) := by decide +kernel
theorem dX4_seen_32 : decode cX4_seen 32 = .ok (.if_icmp .le 19, 3) := by decide +kernel
theorem dX4_seen_35 : decode cX4_seen 35 = .ok (.goto 9, 3) := by decide +kernel
theorem dX4_seen_38 : decode cX4_seen 38 = .ok (.iload 5, 2) := by decide +kernel
theorem dX4_seen_40 : decode cX4_seen 40 = .ok (.iconst 1, 1) := by decide +kernel
theorem dX4_seen_41 : decode cX4_seen 41 = .ok (.if_icmp .ne 10, 3) := by decide +kernel
theorem dX4_seen_44 : decode cX4_seen 44 = .ok (.iconst 1, 1) := by decide +kernel
theorem dX4_seen_45 : decode cX4_seen 45 = .ok (.iload 4, 2) := by decide +kernel
theorem dX4_seen_47 : decode cX4_seen 47 = .ok (.ishl, 1) := by decide +kernel
theorem dX4_seen_48 : decode cX4_seen 48 = .ok (.goto 4, 3) := by decide +kernel
theorem dX4_seen_51 : decode cX4_seen 51 = .ok (.iconst 0, 1) := by decide +kernel
theorem dX4_seen_52 : decode cX4_seen 52 = .ok (.ior, 1) := by decide +kernel
theorem dX4_seen_53 : decode cX4_seen 53 = .ok (.istore_n 3, 1) := by decide +kernel
theorem dX4_seen_54 : decode cX4_seen 54 = .ok (.iinc 4 1, 3) := by decide +kernel
theorem dX4_seen_57 : decode cX4_seen 57 = .ok (.goto (-52), 3) := by decide +kernel
theorem dX4_seen_60 : decode cX4_seen 60 = .ok (.iload_n 3, 1) := by decide +kernel
theorem dX4_seen_61 : decode cX4_seen 61 = .ok (.ireturn, 1) := by decide +kernel
theorem dX4_visible_0 : decode cX4_visible 0 = .ok (.aload_n 0, 1) := by decide +kernel
theorem dX4_visible_1 : decode cX4_visible 1 = .ok (.aload_n 0, 1) := by decide +kernel
theorem dX4_visible_2 : decode cX4_visible 2 = .ok (.iload_n 1, 1) := by decide +kernel
theorem dX4_visible_3 : decode cX4_visible 3 = .ok (.invokevirtual 103, 3) := by decide +kernel
theorem dX4_visible_6 : decode cX4_visible 6 = .ok (.ifCond .eq 7, 3) := by decide +kernel
theorem dX4_visible_9 : decode cX4_visible 9 = .ok (.iconst 0, 1) := by decide +kernel
theorem dX4_visible_10 : decode cX4_visible 10 = .ok (.goto 4, 3) := by decide +kernel
theorem dX4_visible_13 : decode cX4_visible 13 = .ok (.iconst 1, 1) := by decide +kernel
theorem dX4_visible_14 : decode cX4_visible 14 = .ok (.putfield 37, 3) := by decide +kernel
theorem dX4_visible_17 : decode cX4_visible 17 = .ok (.aload_n 0, 1) := by decide +kernel
theorem dX4_visible_18 : decode cX4_visible 18 = .ok (.getfield 37, 3) := by decide +kernel
theorem dX4_visible_21 : decode cX4_visible 21 = .ok (.ifCond .le 7, 3) := by decide +kernel
theorem dX4_visible_24 : decode cX4_visible 24 = .ok (.iconst 0, 1) := by decide +kernel
theorem dX4_visible_25 : decode cX4_visible 25 = .ok (.goto 9, 3) := by decide +kernel
theorem dX4_visible_28 : decode cX4_visible 28 = .ok (.aload_n 0, 1) := by decide +kernel
theorem dX4_visible_29 : decode cX4_visible 29 = .ok (.iload_n 1, 1) := by decide +kernel
theorem dX4_visible_30 : decode cX4_visible 30 = .ok (.iload_n 2, 1) := by decide +kernel
theorem dX4_visible_31 : decode cX4_visible 31 = .ok (.invokevirtual 237, 3) := by decide +kernel
theorem dX4_visible_34 : decode cX4_visible 34 = .ok (.ireturn, 1) := by decide +kernel
theorem dX4_changeNames_0 : decode cX4_changeNames 0 = .ok (.aload_n 0, 1) := by decide +kernel
theorem dX4_changeNames_1 : decode cX4_changeNames 1 = .ok (.invokevirtual 73, 3) := by decide +kernel
theorem dX4_changeNames_4 : decode cX4_changeNames 4 = .ok (.aload_n 0, 1) := by decide +kernel
theorem dX4_changeNames_5 : decode cX4_changeNames 5 = .ok (.iload_n 1, 1) := by decide +kernel
theorem dX4_changeNames_6 : decode cX4_changeNames 6 = .ok (.iconst 1, 1) := by decide +kernel
theorem dX4_changeNames_7 : decode cX4_changeNames 7 = .ok (.invokevirtual 53, 3) := by decide +kernel
theorem dX4_changeNames_10 : decode cX4_changeNames 10 = .ok (.istore_n 3, 1) := by decide +kernel
theorem dX4_changeNames_11 : decode cX4_changeNames 11 = .ok (.iconst 0, 1) := by decide +kernel
theorem dX4_changeNames_12 : decode cX4_changeNames 12 = .ok (.istore 4, 2) := by decide +kernel
theorem dX4_changeNames_14 : decode cX4_changeNames 14 = .ok (.iload 4, 2) := by decide +kernel
theorem dX4_changeNames_16 : decode cX4_changeNames 16 = .ok (.aload_n 0, 1) := by decide +kernel
theorem dX4_changeNames_17 : decode cX4_changeNames 17 = .ok (.getfield 7, 3) := by decide +kernel
theorem dX4_changeNames_20 : decode cX4_changeNames 20 = .ok (.iconst 2, 1) := by decide +kernel
theorem dX4_changeNames_21 : decode cX4_changeNames 21 = .ok (.iaload, 1) := by decide +kernel
theorem dX4_changeNames_22 : decode cX4_changeNames 22 = .ok (.if_icmp .ge 163, 3) := by decide +kernel
theorem dX4_changeNames_25 : decode cX4_changeNames 25 = .ok (.aload_n 0, 1) := by decide +kernel
theorem dX4_changeNames_26 : decode cX4_changeNames 26 = .ok (.aload_n 0, 1) := by decide +kernel
theorem dX4_changeNames_27 : decode cX4_changeNames 27 = .ok (.iload 4, 2) := by decide +kernel
theorem dX4_changeNames_29 : decode cX4_changeNames 29 = .ok (.iconst 1, 1) := by decide +kernel
theorem dX4_changeNames_30 : decode cX4_changeNames 30 = .ok (.invokevirtual 45, 3) := by decide +kernel
theorem dX4_changeNames_33 : decode cX4_changeNames 33 = .ok (.iload_n 3, 1) := by decide +kernel
theorem dX4_changeNames_34 : decode cX4_changeNames 34 = .ok (.invokevirtual 60, 3) := by decide +kernel
theorem dX4_changeNames_37 : decode cX4_changeNames 37 = .ok (.iload_n 1, 1) := by decide +kernel
theorem dX4_changeNames_38 : decode cX4_changeNames 38 = .ok (.ishr, 1) := by decide +kernel
theorem dX4_changeNames_39 : decode cX4_changeNames 39 = .ok (.iconst 1, 1) := by decide +kernel
theorem dX4_changeNames_40 : decode cX4_changeNames 40 = .ok (.iand, 1) := by decide +kernel
theorem dX4_changeNames_41 : decode cX4_changeNames 41 = .ok (.iconst 1, 1) := by decide +kernel
theorem dX4_changeNames_42 : decode cX4_changeNames 42 = .ok (.if_icmp .ne 7, 3) := by decide +kernel
theorem dX4_changeNames_45 : decode cX4_changeNames 45 = .ok (.iconst 1, 1) := by decide +kernel
theorem dX4_changeNames_46 : decode cX4_changeNames 46 = .ok (.goto 4, 3) := by decide +kernel
theorem dX4_changeNames_49 : decode cX4_changeNames 49 = .ok (.iconst 0, 1) := by decide +kernel
theorem dX4_changeNames_50 : decode cX4_changeNames 50 = .ok (.istore 5, 2) := by decide +kernel
theorem dX4_changeNames_52 : decode cX4_changeNames 52 = .ok (.bipush 110, 2) := by decide +kernel
theorem dX4_changeNames_54 : decode cX4_changeNames 54 = .ok (.bipush 6, 2) := by decide +kernel
theorem dX4_changeNames_56 : decode cX4_changeNames 56 = .ok (.iload 4, 2) := by decide +kernel
theorem dX4_changeNames_58 : decode cX4_changeNames 58 = .ok (.imul, 1) := by decide +kernel
theorem dX4_changeNames_59 : decode cX4_changeNames 59 = .ok (.iadd, 1) := by decide +kernel
theorem dX4_changeNames_60 : decode cX4_changeNames 60 = .ok (.istore 6, 2) := by decide +kernel
theorem dX4_changeNames_62 : decode cX4_changeNames 62 = .ok (.iload 5, 2) := by decide +kernel
theorem dX4_changeNames_64 : decode cX4_changeNames 64 = .ok (.ifCond .eq 71, 3) := by decide +kernel
theorem dX4_changeNames_67 : decode cX4_changeNames 67 = .ok (.aload_n 0, 1) := by decide +kernel
theorem dX4_changeNames_68 : decode cX4_changeNames 68 = .ok (.iload 4, 2) := by decide +kernel
theorem dX4_changeNames_70 : decode cX4_changeNames 70 = .ok (.invokevirtual 56, 3) := by decide +kernel
theorem dX4_changeNames_73 : decode cX4_changeNames 73 = .ok (.ifCond .eq 62, 3) := by decide +kernel
theorem dX4_changeNames_76 : decode cX4_changeNames 76 = .ok (.aload_n 0, 1) := by decide +kernel
theorem dX4_changeNames_77 : decode cX4_changeNames 77 = .ok (.iload 4, 2) := by decide +kernel
theorem dX4_changeNames_79 : decode cX4_changeNames 79 = .ok (.iconst 2, 1) := by decide +kernel
theorem dX4_changeNames_80 : decode cX4_changeNames 80 = .ok (.invokevirtual 45, 3) := by decide +kernel
theorem dX4_changeNames_83 : decode cX4_changeNames 83 = .ok (.iload_n 3, 1) := by decide +kernel
theorem dX4_changeNames_84 : decode cX4_changeNames 84 = .ok (.if_icmp .ne 51, 3) := by decide +kernel
theorem dX4_changeNames_87 : decode cX4_changeNames 87 = .ok (.aload_n 0, 1) := by decide +kernel
theorem dX4_changeNames_88 : decode cX4_changeNames 88 = .ok (.getfield 7, 3) := by decide +kernel
theorem dX4_changeNames_91 : decode cX4_changeNames 91 = .ok (.iload 6, 2) := by decide +kernel
theorem dX4_changeNames_93 : decode cX4_changeNames 93 = .ok (.iconst 2, 1) := by decide +kernel
theorem dX4_changeNames_94 : decode cX4_changeNames 94 = .ok (.iadd, 1) := by decide +kernel
theorem dX4_changeNames_95 : decode cX4_changeNames 95 = .ok (.iload_n 2, 1) := by decide +kernel
theorem dX4_changeNames_96 : decode cX4_changeNames 96 = .ok (.iastore, 1) := by decide +kernel
theorem dX4_changeNames_97 : decode cX4_changeNames 97 = .ok (.aload_n 0, 1) := by decide +kernel
theorem dX4_changeNames_98 : decode cX4_changeNames 98 = .ok (.getfield 7, 3) := by decide +kernel
theorem dX4_changeNames_101 : decode cX4_changeNames 101 = .ok (.iload 6, 2) := by decide +kernel
theorem dX4_changeNames_103 : decode cX4_changeNames 103 = .ok (.iconst 3, 1) := by decide +kernel
theorem dX4_changeNames_104 : decode cX4_changeNames 104 = .ok (.iadd, 1) := by decide +kernel
theorem dX4_changeNames_105 : decode cX4_changeNames 105 = .ok (.aload_n 0, 1) := by decide +kernel
theorem dX4_changeNames_106 : decode cX4_changeNames 106 = .ok (.getfield 7, 3) := by decide +kernel
theorem dX4_changeNames_109 : decode cX4_changeNames 109 = .ok (.iload 6, 2) := by decide +kernel
theorem dX4_changeNames_111 : decode cX4_changeNames 111 = .ok (.iconst 3, 1) := by decide +kernel
theorem dX4_changeNames_112 : decode cX4_changeNames 112 = .ok (.iadd, 1) := by decide +kernel
theorem dX4_changeNames_113 : decode cX4_changeNames 113 = .ok (.iaload, 1) := by decide +kernel
theorem dX4_changeNames_114 : decode cX4_changeNames 114 = .ok (.iload_n 3, 1) := by decide +kernel
theorem dX4_changeNames_115 : decode cX4_changeNames 115 = .ok (.if_icmp .ne 7, 3) := by decide +kernel
theorem dX4_changeNames_118 : decode cX4_changeNames 118 = .ok (.iload_n 2, 1) := by decide +kernel
theorem dX4_changeNames_119 : decode cX4_changeNames 119 = .ok (.goto 12, 3) := by decide +kernel
theorem dX4_changeNames_122 : decode cX4_changeNames 122 = .ok (.aload_n 0, 1) := by decide +kernel
theorem dX4_changeNames_123 : decode cX4_changeNames 123 = .ok (.getfield 7, 3) := by decide +kernel
theorem dX4_changeNames_126 : decode cX4_changeNames 126 = .ok (.iload 6, 2) := by decide +kernel
theorem dX4_changeNames_128 : decode cX4_changeNames 128 = .ok (.iconst 3, 1) := by decide +kernel
theorem dX4_changeNames_129 : decode cX4_changeNames 129 = .ok (.iadd, 1) := by decide +kernel
theorem dX4_changeNames_130 : decode cX4_changeNames 130 = .ok (.iaload, 1) := by decide +kernel
theorem dX4_changeNames_131 : decode cX4_changeNames 131 = .ok (.iastore, 1) := by decide +kernel
theorem dX4_changeNames_132 : decode cX4_changeNames 132 = .ok (.goto 47, 3) := by decide +kernel
theorem dX4_changeNames_135 : decode cX4_changeNames 135 = .ok (.iload 5, 2) := by decide +kernel
theorem dX4_changeNames_137 : decode cX4_changeNames 137 = .ok (.ifCond .eq 42, 3) := by decide +kernel
theorem dX4_changeNames_140 : decode cX4_changeNames 140 = .ok (.aload_n 0, 1) := by decide +kernel
theorem dX4_changeNames_141 : decode cX4_changeNames 141 = .ok (.iload 4, 2) := by decide +kernel
theorem dX4_changeNames_143 : decode cX4_changeNames 143 = .ok (.invokevirtual 56, 3) := by decide +kernel
theorem dX4_changeNames_146 : decode cX4_changeNames 146 = .ok (.ifCond .ne 33, 3) := by decide +kernel
theorem dX4_changeNames_149 : decode cX4_changeNames 149 = .ok (.aload_n 0, 1) := by decide +kernel
theorem dX4_changeNames_150 : decode cX4_changeNames 150 = .ok (.iload 4, 2) := by decide +kernel
theorem dX4_changeNames_152 : decode cX4_changeNames 152 = .ok (.iconst 4, 1) := by decide +kernel
theorem dX4_changeNames_153 : decode cX4_changeNames 153 = .ok (.invokevirtual 45, 3) := by decide +kernel
theorem dX4_changeNames_156 : decode cX4_changeNames 156 = .ok (.iload_n 3, 1) := by decide +kernel
theorem dX4_changeNames_157 : decode cX4_changeNames 157 = .ok (.ishr, 1) := by decide +kernel
theorem dX4_changeNames_158 : decode cX4_changeNames 158 = .ok (.iconst 1, 1) := by decide +kernel
theorem dX4_changeNames_159 : decode cX4_changeNames 159 = .ok (.iand, 1) := by decide +kernel
theorem dX4_changeNames_160 : decode cX4_changeNames 160 = .ok (.iconst 1, 1) := by decide +kernel
theorem dX4_changeNames_161 : decode cX4_changeNames 161 = .ok (.if_icmp .ne 18, 3) := by decide +kernel
theorem dX4_changeNames_164 : decode cX4_changeNames 164 = .ok (.aload_n 0, 1) := by decide +kernel
theorem dX4_changeNames_165 : decode cX4_changeNames 165 = .ok (.getfield 7, 3) := by decide +kernel
theorem dX4_changeNames_168 : decode cX4_changeNames 168 = .ok (.iload 6, 2) := by decide +kernel
theorem dX4_changeNames_170 : decode cX4_changeNames 170 = .ok (.iconst 4, 1) := by decide +kernel
theorem dX4_changeNames_171 : decode cX4_changeNames 171 = .ok (.iadd, 1) := by decide +kernel
theorem dX4_changeNames_172 : decode cX4_changeNames 172 = .ok (.dup2, 1) := by decide +kernel
theorem dX4_changeNames_173 : decode cX4_changeNames 173 = .ok (.iaload, 1) := by decide +kernel
theorem dX4_changeNames_174 : decode cX4_changeNames 174 = .ok (.iconst 1, 1) := by decide +kernel
theorem dX4_changeNames_175 : decode cX4_changeNames 175 = .ok (.iload_n 2, 1) := by decide +kernel
theorem dX4_changeNames_176 : decode cX4_changeNames 176 = .ok (.ishl, 1) := by decide +kernel
theorem dX4_changeNames_177 : decode cX4_changeNames 177 = .ok (.ior, 1) := by decide +kernel
theorem dX4_changeNames_178 : decode cX4_changeNames 178 = .ok (.iastore, 1) := by decide +kernel
theorem dX4_changeNames_179 : decode cX4_changeNames 179 = .ok (.iinc 4 1, 3) := by decide +kernel
theorem dX4_changeNames_182 : decode cX4_changeNames 182 = .ok (.goto (-168), 3) := by decide +kernel
theorem dX4_changeNames_185 : decode cX4_changeNames 185 = .ok (.iconst 0, 1) := by decide +kernel
theorem dX4_changeNames_186 : decode cX4_changeNames 186 = .ok (.istore 4, 2) := by decide +kernel
theorem dX4_changeNames_188 : decode cX4_changeNames 188 = .ok (.iload 4, 2) := by decide +kernel
theorem dX4_changeNames_190 : decode cX4_changeNames 190 = .ok (.aload_n 0, 1) := by decide +kernel
theorem dX4_changeNames_191 : decode cX4_changeNames 191 = .ok (.getfield 7, 3) := by decide +kernel
theorem dX4_changeNames_194 : decode cX4_changeNames 194 = .ok (.iconst 3, 1) := by decide +kernel
theorem dX4_changeNames_195 : decode cX4_changeNames 195 = .ok (.iaload, 1) := by decide +kernel
theorem dX4_changeNames_196 : decode cX4_changeNames 196 = .ok (.if_icmp .ge 69, 3) := by decide +kernel
theorem dX4_changeNames_199 : decode cX4_changeNames 199 = .ok (.aload_n 0, 1) := by decide +kernel
theorem dX4_changeNames_200 : decode cX4_changeNames 200 = .ok (.iload 4, 2) := by decide +kernel
theorem dX4_changeNames_202 : decode cX4_changeNames 202 = .ok (.invokevirtual 97, 3) := by decide +kernel
theorem dX4_changeNames_205 : decode cX4_changeNames 205 = .ok (.iload_n 3, 1) := by decide +kernel
theorem dX4_changeNames_206 : decode cX4_changeNames 206 = .ok (.if_icmp .ne 20, 3) := by decide +kernel
theorem dX4_changeNames_209 : decode cX4_changeNames 209 = .ok (.aload_n 0, 1) := by decide +kernel
theorem dX4_changeNames_210 : decode cX4_changeNames 210 = .ok (.getfield 31, 3) := by decide +kernel
theorem dX4_changeNames_213 : decode cX4_changeNames 213 = .ok (.iload 4, 2) := by decide +kernel
theorem dX4_changeNames_215 : decode cX4_changeNames 215 = .ok (.iaload, 1) := by decide +kernel
theorem dX4_changeNames_216 : decode cX4_changeNames 216 = .ok (.iconst 1, 1) := by decide +kernel
theorem dX4_changeNames_217 : decode cX4_changeNames 217 = .ok (.iload_n 1, 1) := by decide +kernel
theorem dX4_changeNames_218 : decode cX4_changeNames 218 = .ok (.ishl, 1) := by decide +kernel
theorem dX4_changeNames_219 : decode cX4_changeNames 219 = .ok (.if_icmp .ne 7, 3) := by decide +kernel
theorem dX4_changeNames_222 : decode cX4_changeNames 222 = .ok (.iconst 1, 1) := by decide +kernel
theorem dX4_changeNames_223 : decode cX4_changeNames 223 = .ok (.goto 4, 3) := by decide +kernel
theorem dX4_changeNames_226 : decode cX4_changeNames 226 = .ok (.iconst 0, 1) := by decide +kernel
theorem dX4_changeNames_227 : decode cX4_changeNames 227 = .ok (.istore 5, 2) := by decide +kernel
theorem dX4_changeNames_229 : decode cX4_changeNames 229 = .ok (.aload_n 0, 1) := by decide +kernel
theorem dX4_changeNames_230 : decode cX4_changeNames 230 = .ok (.getfield 7, 3) := by decide +kernel
theorem dX4_changeNames_233 : decode cX4_changeNames 233 = .ok (.sipush 230, 3) := by decide +kernel
theorem dX4_changeNames_236 : decode cX4_changeNames 236 = .ok (.iconst 2, 1) := by decide +kernel
theorem dX4_changeNames_237 : decode cX4_changeNames 237 = .ok (.iload 4, 2) := by decide +kernel
theorem dX4_changeNames_239 : decode cX4_changeNames 239 = .ok (.imul, 1) := by decide +kernel
theorem dX4_changeNames_240 : decode cX4_changeNames 240 = .ok (.iadd, 1) := by decide +kernel
theorem dX4_changeNames_241 : decode cX4_changeNames 241 = .ok (.iconst 1, 1) := by decide +kernel
theorem dX4_changeNames_242 : decode cX4_changeNames 242 = .ok (.iadd, 1) := by decide +kernel
theorem dX4_changeNames_243 : decode cX4_changeNames 243 = .ok (.iload 5, 2) := by decide +kernel
theorem dX4_changeNames_245 : decode cX4_changeNames 245 = .ok (.ifCond .eq 7, 3) := by decide +kernel
theorem dX4_changeNames_248 : decode cX4_changeNames 248 = .ok (.iload_n 2, 1) := by decide +kernel
theorem dX4_changeNames_249 : decode cX4_changeNames 249 = .ok (.goto 9, 3) := by decide +kernel
theorem dX4_changeNames_252 : decode cX4_changeNames 252 = .ok (.aload_n 0, 1) := by decide +kernel
theorem dX4_changeNames_253 : decode cX4_changeNames 253 = .ok (.iload 4, 2) := by decide +kernel
theorem dX4_changeNames_255 : decode cX4_changeNames 255 = .ok (.invokevirtual 97, 3) := by decide +kernel
theorem dX4_changeNames_258 : decode cX4_changeNames 258 = .ok (.iastore, 1) := by decide +kernel
theorem dX4_changeNames_259 : decode cX4_changeNames 259 = .ok (.iinc 4 1, 3) := by decide +kernel
theorem dX4_changeNames_262 : decode cX4_changeNames 262 = .ok (.goto (-74), 3) := by decide +kernel
theorem dX4_changeNames_265 : decode cX4_changeNames 265 = .ok (.aload_n 0, 1) := by decide +kernel
theorem dX4_changeNames_266 : decode cX4_changeNames 266 = .ok (.getfield 7, 3) := by decide +kernel
theorem dX4_changeNames_269 : decode cX4_changeNames 269 = .ok (.bipush 20, 2) := by decide +kernel
theorem dX4_changeNames_271 : decode cX4_changeNames 271 = .ok (.iconst 3, 1) := by decide +kernel
theorem dX4_changeNames_272 : decode cX4_changeNames 272 = .ok (.iload_n 1, 1) := by decide +kernel
theorem dX4_changeNames_273 : decode cX4_changeNames 273 = .ok (.imul, 1) := by decide +kernel
theorem dX4_changeNames_274 : decode cX4_changeNames 274 = .ok (.iadd, 1) := by decide +kernel
theorem dX4_changeNames_275 : decode cX4_changeNames 275 = .ok (.iconst 1, 1) := by decide +kernel
theorem dX4_changeNames_276 : decode cX4_changeNames 276 = .ok (.iadd, 1) := by decide +kernel
theorem dX4_changeNames_277 : decode cX4_changeNames 277 = .ok (.iload_n 2, 1) := by decide +kernel
theorem dX4_changeNames_278 : decode cX4_changeNames 278 = .ok (.iastore, 1) := by decide +kernel
theorem dX4_changeNames_279 : decode cX4_changeNames 279 = .ok (.aload_n 0, 1) := by decide +kernel
theorem dX4_changeNames_280 : decode cX4_changeNames 280 = .ok (.iconst 0, 1) := by decide +kernel
theorem dX4_changeNames_281 : decode cX4_changeNames 281 = .ok (.putfield 49, 3) := by decide +kernel
theorem dX4_changeNames_284 : decode cX4_changeNames 284 = .ok (.return_, 1) := by decide +kernel
theorem dX4_renames_0 : decode cX4_renames 0 = .ok (.aload_n 0, 1) := by decide +kernel
theorem dX4_renames_1 : decode cX4_renames 1 = .ok (.invokevirtual 121, 3) := by decide +kernel
theorem dX4_renames_4 : decode cX4_renames 4 = .ok (.aload_n 0, 1) := by decide +kernel
theorem dX4_renames_5 : decode cX4_renames 5 = .ok (.iconst (-1), 1) := by decide +kernel
theorem dX4_renames_6 : decode cX4_renames 6 = .ok (.putfield 241, 3) := by decide +kernel
theorem dX4_renames_9 : decode cX4_renames 9 = .ok (.aload_n 0, 1) := by decide +kernel
theorem dX4_renames_10 : decode cX4_renames 10 = .ok (.iconst 0, 1) := by decide +kernel
theorem dX4_renames_11 : decode cX4_renames 11 = .ok (.putfield 244, 3) := by decide +kernel
theorem dX4_renames_14 : decode cX4_renames 14 = .ok (.iconst 0, 1) := by decide +kernel
theorem dX4_renames_15 : decode cX4_renames 15 = .ok (.istore 4, 2) := by decide +kernel
theorem dX4_renames_17 : decode cX4_renames 17 = .ok (.iload 4, 2) := by decide +kernel
theorem dX4_renames_19 : decode cX4_renames 19 = .ok (.aload_n 0, 1) := by decide +kernel
theorem dX4_renames_20 : decode cX4_renames 20 = .ok (.getfield 7, 3) := by decide +kernel
theorem dX4_renames_23 : decode cX4_renames 23 = .ok (.iconst 3, 1) := by decide +kernel
theorem dX4_renames_24 : decode cX4_renames 24 = .ok (.iaload, 1) := by decide +kernel
theorem dX4_renames_25 : decode cX4_renames 25 = .ok (.if_icmp .ge 51, 3) := by decide +kernel
theorem dX4_renames_28 : decode cX4_renames 28 = .ok (.aload_n 0, 1) := by decide +kernel
theorem dX4_renames_29 : decode cX4_renames 29 = .ok (.dup, 1) := by decide +kernel
theorem dX4_renames_30 : decode cX4_renames 30 = .ok (.getfield 244, 3) := by decide +kernel
theorem dX4_renames_33 : decode cX4_renames 33 = .ok (.aload_n 0, 1) := by decide +kernel
theorem dX4_renames_34 : decode cX4_renames 34 = .ok (.iload 4, 2) := by decide +kernel
theorem dX4_renames_36 : decode cX4_renames 36 = .ok (.invokevirtual 97, 3) := by decide +kernel
theorem dX4_renames_39 : decode cX4_renames 39 = .ok (.aload_n 0, 1) := by decide +kernel
theorem dX4_renames_40 : decode cX4_renames 40 = .ok (.iload_n 1, 1) := by decide +kernel
theorem dX4_renames_41 : decode cX4_renames 41 = .ok (.iconst 1, 1) := by decide +kernel
theorem dX4_renames_42 : decode cX4_renames 42 = .ok (.invokevirtual 53, 3) := by decide +kernel
theorem dX4_renames_45 : decode cX4_renames 45 = .ok (.if_icmp .ne 20, 3) := by decide +kernel
theorem dX4_renames_48 : decode cX4_renames 48 = .ok (.aload_n 0, 1) := by decide +kernel
theorem dX4_renames_49 : decode cX4_renames 49 = .ok (.getfield 31, 3) := by decide +kernel
theorem dX4_renames_52 : decode cX4_renames 52 = .ok (.iload 4, 2) := by decide +kernel
theorem dX4_renames_54 : decode cX4_renames 54 = .ok (.iaload, 1) := by decide +kernel
theorem dX4_renames_55 : decode cX4_renames 55 = .ok (.iconst 1, 1) := by decide +kernel
theorem dX4_renames_56 : decode cX4_renames 56 = .ok (.iload_n 1, 1) := by decide +kernel
theorem dX4_renames_57 : decode cX4_renames 57 = .ok (.ishl, 1) := by decide +kernel
theorem dX4_renames_58 : decode cX4_renames 58 = .ok (.if_icmp .ne 7, 3) := by decide +kernel
theorem dX4_renames_61 : decode cX4_renames 61 = .ok (.iconst 1, 1) := by decide +kernel
theorem dX4_renames_62 : decode cX4_renames 62 = .ok (.goto 4, 3) := by decide +kernel
theorem dX4_renames_65 : decode cX4_renames 65 = .ok (.iconst 0, 1) := by decide +kernel
theorem dX4_renames_66 : decode cX4_renames 66 = .ok (.iadd, 1) := by decide +kernel
theorem dX4_renames_67 : decode cX4_renames 67 = .ok (.putfield 244, 3) := by decide +kernel
theorem dX4_renames_70 : decode cX4_renames 70 = .ok (.iinc 4 1, 3) := by decide +kernel
theorem dX4_renames_73 : decode cX4_renames 73 = .ok (.goto (-56), 3) := by decide +kernel
theorem dX4_renames_76 : decode cX4_renames 76 = .ok (.iload_n 2, 1) := by decide +kernel
theorem dX4_renames_77 : decode cX4_renames 77 = .ok (.aload_n 0, 1) := by decide +kernel
theorem dX4_renames_78 : decode cX4_renames 78 = .ok (.iload_n 1, 1) := by decide +kernel
theorem dX4_renames_79 : decode cX4_renames 79 = .ok (.iconst 1, 1) := by decide +kernel
theorem dX4_renames_80 : decode cX4_renames 80 = .ok (.invokevirtual 53, 3) := by decide +kernel
theorem dX4_renames_83 : decode cX4_renames 83 = .ok (.if_icmp .eq 18, 3) := by decide +kernel
theorem dX4_renames_86 : decode cX4_renames 86 = .ok (.aload_n 0, 1) := by decide +kernel
theorem dX4_renames_87 : decode cX4_renames 87 = .ok (.aload_n 0, 1) := by decide +kernel
theorem dX4_renames_88 : decode cX4_renames 88 = .ok (.iload_n 1, 1) := by decide +kernel
theorem dX4_renames_89 : decode cX4_renames 89 = .ok (.iconst 0, 1) := by decide +kernel
theorem dX4_renames_90 : decode cX4_renames 90 = .ok (.invokevirtual 53, 3) := by decide +kernel
theorem dX4_renames_93 : decode cX4_renames 93 = .ok (.iload_n 2, 1) := by decide +kernel
theorem dX4_renames_94 : decode cX4_renames 94 = .ok (.invokevirtual 63, 3) := by decide +kernel
theorem dX4_renames_97 : decode cX4_renames 97 = .ok (.iconst (-1), 1) := by decide +kernel
theorem dX4_renames_98 : decode cX4_renames 98 = .ok (.if_icmp .eq 5, 3) := by decide +kernel
theorem dX4_renames_101 : decode cX4_renames 101 = .ok (.iconst 1, 1) := by decide +kernel
theorem dX4_renames_102 : decode cX4_renames 102 = .ok (.ireturn, 1) := by decide +kernel
theorem dX4_renames_103 : decode cX4_renames 103 = .ok (.aload_n 0, 1) := by decide +kernel
theorem dX4_renames_104 : decode cX4_renames 104 = .ok (.aload_n 0, 1) := by decide +kernel
theorem dX4_renames_105 : decode cX4_renames 105 = .ok (.getfield 7, 3) := by decide +kernel
theorem dX4_renames_108 : decode cX4_renames 108 = .ok (.aload_n 0, 1) := by decide +kernel
theorem dX4_renames_109 : decode cX4_renames 109 = .ok (.getfield 13, 3) := by decide +kernel
theorem dX4_renames_112 : decode cX4_renames 112 = .ok (.invokevirtual 223, 3) := by decide +kernel
theorem dX4_renames_115 : decode cX4_renames 115 = .ok (.aload_n 0, 1) := by decide +kernel
theorem dX4_renames_116 : decode cX4_renames 116 = .ok (.iload_n 1, 1) := by decide +kernel
theorem dX4_renames_117 : decode cX4_renames 117 = .ok (.iload_n 2, 1) := by decide +kernel
theorem dX4_renames_118 : decode cX4_renames 118 = .ok (.invokevirtual 247, 3) := by decide +kernel
theorem dX4_renames_121 : decode cX4_renames 121 = .ok (.iconst (-1), 1) := by decide +kernel
theorem dX4_renames_122 : decode cX4_renames 122 = .ok (.istore 4, 2) := by decide +kernel
theorem dX4_renames_124 : decode cX4_renames 124 = .ok (.iconst (-1), 1) := by decide +kernel
theorem dX4_renames_125 : decode cX4_renames 125 = .ok (.istore 5, 2) := by decide +kernel
theorem dX4_renames_127 : decode cX4_renames 127 = .ok (.aload_n 0, 1) := by decide +kernel
theorem dX4_renames_128 : decode cX4_renames 128 = .ok (.getfield 7, 3) := by decide +kernel
theorem dX4_renames_131 : decode cX4_renames 131 = .ok (.iconst 3, 1) := by decide +kernel
theorem dX4_renames_132 : decode cX4_renames 132 = .ok (.iaload, 1) := by decide +kernel
theorem dX4_renames_133 : decode cX4_renames 133 = .ok (.iconst 1, 1) := by decide +kernel
theorem dX4_renames_134 : decode cX4_renames 134 = .ok (.isub, 1) := by decide +kernel
theorem dX4_renames_135 : decode cX4_renames 135 = .ok (.istore 6, 2) := by decide +kernel
theorem dX4_renames_137 : decode cX4_renames 137 = .ok (.iload 6, 2) := by decide +kernel
theorem dX4_renames_139 : decode cX4_renames 139 = .ok (.ifCond .lt 86, 3) := by decide +kernel
theorem dX4_renames_142 : decode cX4_renames 142 = .ok (.aload_n 0, 1) := by decide +kernel
theorem dX4_renames_143 : decode cX4_renames 143 = .ok (.iload 6, 2) := by decide +kernel
theorem dX4_renames_145 : decode cX4_renames 145 = .ok (.invokevirtual 118, 3) := by decide +kernel
theorem dX4_renames_148 : decode cX4_renames 148 = .ok (.aload_n 0, 1) := by decide +kernel
theorem dX4_renames_149 : decode cX4_renames 149 = .ok (.getfield 31, 3) := by decide +kernel
theorem dX4_renames_152 : decode cX4_renames 152 = .ok (.iload 6, 2) := by decide +kernel
theorem dX4_renames_154 : decode cX4_renames 154 = .ok (.iaload, 1) := by decide +kernel
theorem dX4_renames_155 : decode cX4_renames 155 = .ok (.if_icmp .eq 7, 3) := by decide +kernel
theorem dX4_renames_158 : decode cX4_renames 158 = .ok (.iconst 1, 1) := by decide +kernel
theorem dX4_renames_159 : decode cX4_renames 159 = .ok (.goto 4, 3) := by decide +kernel
theorem dX4_renames_162 : decode cX4_renames 162 = .ok (.iconst 0, 1) := by decide +kernel
theorem dX4_renames_163 : decode cX4_renames 163 = .ok (.istore 7, 2) := by decide +kernel
theorem dX4_renames_165 : decode cX4_renames 165 = .ok (.iload 7, 2) := by decide +kernel
theorem dX4_renames_167 : decode cX4_renames 167 = .ok (.ifCond .eq 21, 3) := by decide +kernel
theorem dX4_renames_170 : decode cX4_renames 170 = .ok (.aload_n 0, 1) := by decide +kernel
theorem dX4_renames_171 : decode cX4_renames 171 = .ok (.getfield 31, 3) := by decide +kernel
theorem dX4_renames_174 : decode cX4_renames 174 = .ok (.iload 6, 2) := by decide +kernel
theorem dX4_renames_176 : decode cX4_renames 176 = .ok (.iaload, 1) := by decide +kernel
theorem dX4_renames_177 : decode cX4_renames 177 = .ok (.iconst 1, 1) := by decide +kernel
theorem dX4_renames_178 : decode cX4_renames 178 = .ok (.iload_n 1, 1) := by decide +kernel
theorem dX4_renames_179 : decode cX4_renames 179 = .ok (.ishl, 1) := by decide +kernel
theorem dX4_renames_180 : decode cX4_renames 180 = .ok (.if_icmp .ne 8, 3) := by decide +kernel
theorem dX4_renames_183 : decode cX4_renames 183 = .ok (.iload 6, 2) := by decide +kernel
theorem dX4_renames_185 : decode cX4_renames 185 = .ok (.goto 5, 3) := by decide +kernel
theorem dX4_renames_188 : decode cX4_renames 188 = .ok (.iload 4, 2) := by decide +kernel
theorem dX4_renames_190 : decode cX4_renames 190 = .ok (.istore 4, 2) := by decide +kernel
theorem dX4_renames_192 : decode cX4_renames 192 = .ok (.iload 7, 2) := by decide +kernel
theorem dX4_renames_194 : decode cX4_renames 194 = .ok (.ifCond .eq 21, 3) := by decide +kernel
theorem dX4_renames_197 : decode cX4_renames 197 = .ok (.aload_n 0, 1) := by decide +kernel
theorem dX4_renames_198 : decode cX4_renames 198 = .ok (.getfield 31, 3) := by decide +kernel
theorem dX4_renames_201 : decode cX4_renames 201 = .ok (.iload 6, 2) := by decide +kernel
theorem dX4_renames_203 : decode cX4_renames 203 = .ok (.iaload, 1) := by decide +kernel
theorem dX4_renames_204 : decode cX4_renames 204 = .ok (.iconst 1, 1) := by decide +kernel
theorem dX4_renames_205 : decode cX4_renames 205 = .ok (.iload_n 1, 1) := by decide +kernel
theorem dX4_renames_206 : decode cX4_renames 206 = .ok (.ishl, 1) := by decide +kernel
theorem dX4_renames_207 : decode cX4_renames 207 = .ok (.if_icmp .eq 8, 3) := by decide +kernel
theorem dX4_renames_210 : decode cX4_renames 210 = .ok (.iload 6, 2) := by decide +kernel
theorem dX4_renames_212 : decode cX4_renames 212 = .ok (.goto 5, 3) := by decide +kernel
theorem dX4_renames_215 : decode cX4_renames 215 = .ok (.iload 5, 2) := by decide +kernel
theorem dX4_renames_217 : decode cX4_renames 217 = .ok (.istore 5, 2) := by decide +kernel
theorem dX4_renames_219 : decode cX4_renames 219 = .ok (.iinc 6 (-1), 3) := by decide +kernel
theorem dX4_renames_222 : decode cX4_renames 222 = .ok (.goto (-85), 3) := by decide +kernel
theorem dX4_renames_225 : decode cX4_renames 225 = .ok (.iload 4, 2) := by decide +kernel
theorem dX4_renames_227 : decode cX4_renames 227 = .ok (.iconst (-1), 1) := by decide +kernel
theorem dX4_renames_228 : decode cX4_renames 228 = .ok (.if_icmp .eq 7, 3) := by decide +kernel
theorem dX4_renames_231 : decode cX4_renames 231 = .ok (.iconst 2, 1) := by decide +kernel
theorem dX4_renames_232 : decode cX4_renames 232 = .ok (.goto 14, 3) := by decide +kernel
theorem dX4_renames_235 : decode cX4_renames 235 = .ok (.iload 5, 2) := by decide +kernel
theorem dX4_renames_237 : decode cX4_renames 237 = .ok (.iconst (-1), 1) := by decide +kernel
theorem dX4_renames_238 : decode cX4_renames 238 = .ok (.if_icmp .eq 7, 3) := by decide +kernel
theorem dX4_renames_241 : decode cX4_renames 241 = .ok (.iconst 3, 1) := by decide +kernel
theorem dX4_renames_242 : decode cX4_renames 242 = .ok (.goto 4, 3) := by decide +kernel
theorem dX4_renames_245 : decode cX4_renames 245 = .ok (.iconst 0, 1) := by decide +kernel
theorem dX4_renames_246 : decode cX4_renames 246 = .ok (.istore 6, 2) := by decide +kernel
theorem dX4_renames_248 : decode cX4_renames 248 = .ok (.aload_n 0, 1) := by decide +kernel
theorem dX4_renames_249 : decode cX4_renames 249 = .ok (.iload 4, 2) := by decide +kernel
theorem dX4_renames_251 : decode cX4_renames 251 = .ok (.iconst (-1), 1) := by decide +kernel
theorem dX4_renames_252 : decode cX4_renames 252 = .ok (.if_icmp .eq 8, 3) := by decide +kernel
theorem dX4_renames_255 : decode cX4_renames 255 = .ok (.iload 4, 2) := by decide +kernel
theorem dX4_renames_257 : decode cX4_renames 257 = .ok (.goto 5, 3) := by decide +kernel
theorem dX4_renames_260 : decode cX4_renames 260 = .ok (.iload 5, 2) := by decide +kernel
theorem dX4_renames_262 : decode cX4_renames 262 = .ok (.putfield 241, 3) := by decide +kernel
theorem dX4_renames_265 : decode cX4_renames 265 = .ok (.iload_n 3, 1) := by decide +kernel
theorem dX4_renames_266 : decode cX4_renames 266 = .ok (.ifCond .ne 8, 3) := by decide +kernel
theorem dX4_renames_269 : decode cX4_renames 269 = .ok (.iload 6, 2) := by decide +kernel
theorem dX4_renames_271 : decode cX4_renames 271 = .ok (.ifCond .le 15, 3) := by decide +kernel
theorem dX4_renames_274 : decode cX4_renames 274 = .ok (.aload_n 0, 1) := by decide +kernel
theorem dX4_renames_275 : decode cX4_renames 275 = .ok (.aload_n 0, 1) := by decide +kernel
theorem dX4_renames_276 : decode cX4_renames 276 = .ok (.getfield 13, 3) := by decide +kernel
theorem dX4_renames_279 : decode cX4_renames 279 = .ok (.aload_n 0, 1) := by decide +kernel
theorem dX4_renames_280 : decode cX4_renames 280 = .ok (.getfield 7, 3) := by decide +kernel
theorem dX4_renames_283 : decode cX4_renames 283 = .ok (.invokevirtual 223, 3) := by decide +kernel
theorem dX4_renames_286 : decode cX4_renames 286 = .ok (.iload 6, 2) := by decide +kernel
theorem dX4_renames_288 : decode cX4_renames 288 = .ok (.ireturn, 1) := by decide +kernel
theorem dX4_isDeclaration_0 : decode cX4_isDeclaration 0 = .ok (.iload_n 1, 1) := by decide +kernel
theorem dX4_isDeclaration_1 : decode cX4_isDeclaration 1 = .ok (.iconst 0, 1) := by decide +kernel
theorem dX4_isDeclaration_2 : decode cX4_isDeclaration 2 = .ok (.aload_n 0, 1) := by decide +kernel
theorem dX4_isDeclaration_3 : decode cX4_isDeclaration 3 = .ok (.getfield 7, 3) := by decide +kernel
theorem dX4_isDeclaration_6 : decode cX4_isDeclaration 6 = .ok (.iconst 1, 1) := by decide +kernel
theorem dX4_isDeclaration_7 : decode cX4_isDeclaration 7 = .ok (.iaload, 1) := by decide +kernel
theorem dX4_isDeclaration_8 : decode cX4_isDeclaration 8 = .ok (.iconst 1, 1) := by decide +kernel
theorem dX4_isDeclaration_9 : decode cX4_isDeclaration 9 = .ok (.isub, 1) := by decide +kernel
theorem dX4_isDeclaration_10 : decode cX4_isDeclaration 10 = .ok (.invokestatic 41, 3) := by decide +kernel
theorem dX4_isDeclaration_13 : decode cX4_isDeclaration 13 = .ok (.ireturn, 1) := by decide +kernel
theorem dX4_rename_0 : decode cX4_rename 0 = .ok (.aload_n 0, 1) := by decide +kernel
theorem dX4_rename_1 : decode cX4_rename 1 = .ok (.aload_n 0, 1) := by decide +kernel
theorem dX4_rename_2 : decode cX4_rename 2 = .ok (.iload_n 1, 1) := by decide +kernel
theorem dX4_rename_3 : decode cX4_rename 3 = .ok (.invokevirtual 250, 3) := by decide +kernel
theorem dX4_rename_6 : decode cX4_rename 6 = .ok (.ifCond .ne 7, 3) := by decide +kernel
theorem dX4_rename_9 : decode cX4_rename 9 = .ok (.iconst 1, 1) := by decide +kernel
theorem dX4_rename_10 : decode cX4_rename 10 = .ok (.goto 15, 3) := by decide +kernel
theorem dX4_rename_13 : decode cX4_rename 13 = .ok (.iload_n 2, 1) := by decide +kernel
theorem dX4_rename_14 : decode cX4_rename 14 = .ok (.invokestatic 106, 3) := by decide +kernel
theorem dX4_rename_17 : decode cX4_rename 17 = .ok (.ifCond .eq 7, 3) := by decide +kernel
theorem dX4_rename_20 : decode cX4_rename 20 = .ok (.iconst 0, 1) := by decide +kernel
theorem dX4_rename_21 : decode cX4_rename 21 = .ok (.goto 4, 3) := by decide +kernel
theorem dX4_rename_24 : decode cX4_rename 24 = .ok (.iconst 2, 1) := by decide +kernel
theorem dX4_rename_25 : decode cX4_rename 25 = .ok (.putfield 37, 3) := by decide +kernel
theorem dX4_rename_28 : decode cX4_rename 28 = .ok (.aload_n 0, 1) := by decide +kernel
theorem dX4_rename_29 : decode cX4_rename 29 = .ok (.getfield 37, 3) := by decide +kernel
theorem dX4_rename_32 : decode cX4_rename 32 = .ok (.ifCond .le 7, 3) := by decide +kernel
theorem dX4_rename_35 : decode cX4_rename 35 = .ok (.iconst 0, 1) := by decide +kernel
theorem dX4_rename_36 : decode cX4_rename 36 = .ok (.goto 10, 3) := by decide +kernel
theorem dX4_rename_39 : decode cX4_rename 39 = .ok (.aload_n 0, 1) := by decide +kernel
theorem dX4_rename_40 : decode cX4_rename 40 = .ok (.iload_n 1, 1) := by decide +kernel
theorem dX4_rename_41 : decode cX4_rename 41 = .ok (.iload_n 2, 1) := by decide +kernel
theorem dX4_rename_42 : decode cX4_rename 42 = .ok (.iconst 0, 1) := by decide +kernel
theorem dX4_rename_43 : decode cX4_rename 43 = .ok (.invokevirtual 253, 3) := by decide +kernel
theorem dX4_rename_46 : decode cX4_rename 46 = .ok (.ireturn, 1) := by decide +kernel
theorem dX4_ifRenamed_0 : decode cX4_ifRenamed 0 = .ok (.aload_n 0, 1) := by decide +kernel
theorem dX4_ifRenamed_1 : decode cX4_ifRenamed 1 = .ok (.aload_n 0, 1) := by decide +kernel
theorem dX4_ifRenamed_2 : decode cX4_ifRenamed 2 = .ok (.iload_n 1, 1) := by decide +kernel
theorem dX4_ifRenamed_3 : decode cX4_ifRenamed 3 = .ok (.invokevirtual 250, 3) := by decide +kernel
theorem dX4_ifRenamed_6 : decode cX4_ifRenamed 6 = .ok (.ifCond .ne 7, 3) := by decide +kernel
theorem dX4_ifRenamed_9 : decode cX4_ifRenamed 9 = .ok (.iconst 1, 1) := by decide +kernel
theorem dX4_ifRenamed_10 : decode cX4_ifRenamed 10 = .ok (.goto 24, 3) := by decide +kernel
theorem dX4_ifRenamed_13 : decode cX4_ifRenamed 13 = .ok (.iload_n 2, 1) := by decide +kernel
theorem dX4_ifRenamed_14 : decode cX4_ifRenamed 14 = .ok (.invokestatic 106, 3) := by decide +kernel
theorem dX4_ifRenamed_17 : decode cX4_ifRenamed 17 = .ok (.ifCond .eq 16, 3) := by decide +kernel
theorem dX4_ifRenamed_20 : decode cX4_ifRenamed 20 = .ok (.iload_n 3, 1) := by decide +kernel
theorem dX4_ifRenamed_21 : decode cX4_ifRenamed 21 = .ok (.iconst 0, 1) := by decide +kernel
theorem dX4_ifRenamed_22 : decode cX4_ifRenamed 22 = .ok (.iconst 2, 1) := by decide +kernel
theorem dX4_ifRenamed_23 : decode cX4_ifRenamed 23 = .ok (.invokestatic 41, 3) := by decide +kernel
theorem dX4_ifRenamed_26 : decode cX4_ifRenamed 26 = .ok (.ifCond .eq 7, 3) := by decide +kernel
theorem dX4_ifRenamed_29 : decode cX4_ifRenamed 29 = .ok (.iconst 0, 1) := by decide +kernel
theorem dX4_ifRenamed_30 : decode cX4_ifRenamed 30 = .ok (.goto 4, 3) := by decide +kernel
theorem dX4_ifRenamed_33 : decode cX4_ifRenamed 33 = .ok (.iconst 2, 1) := by decide +kernel
theorem dX4_ifRenamed_34 : decode cX4_ifRenamed 34 = .ok (.putfield 37, 3) := by decide +kernel
theorem dX4_ifRenamed_37 : decode cX4_ifRenamed 37 = .ok (.aload_n 0, 1) := by decide +kernel
theorem dX4_ifRenamed_38 : decode cX4_ifRenamed 38 = .ok (.getfield 37, 3) := by decide +kernel
theorem dX4_ifRenamed_41 : decode cX4_ifRenamed 41 = .ok (.ifCond .le 5, 3) := by decide +kernel
theorem dX4_ifRenamed_44 : decode cX4_ifRenamed 44 = .ok (.iconst 0, 1) := by decide +kernel
theorem dX4_ifRenamed_45 : decode cX4_ifRenamed 45 = .ok (.ireturn, 1) := by decide +kernel
theorem dX4_ifRenamed_46 : decode cX4_ifRenamed 46 = .ok (.aload_n 0, 1) := by decide +kernel
theorem dX4_ifRenamed_47 : decode cX4_ifRenamed 47 = .ok (.iload_n 1, 1) := by decide +kernel
theorem dX4_ifRenamed_48 : decode cX4_ifRenamed 48 = .ok (.iload_n 2, 1) := by decide +kernel
theorem dX4_ifRenamed_49 : decode cX4_ifRenamed 49 = .ok (.iconst 1, 1) := by decide +kernel
theorem dX4_ifRenamed_50 : decode cX4_ifRenamed 50 = .ok (.invokevirtual 253, 3) := by decide +kernel
theorem dX4_ifRenamed_53 : decode cX4_ifRenamed 53 = .ok (.istore 4, 2) := by decide +kernel
theorem dX4_ifRenamed_55 : decode cX4_ifRenamed 55 = .ok (.iload_n 3, 1) := by decide +kernel
theorem dX4_ifRenamed_56 : decode cX4_ifRenamed 56 = .ok (.ifCond .ne 8, 3) := by decide +kernel
theorem dX4_ifRenamed_59 : decode cX4_ifRenamed 59 = .ok (.iload 4, 2) := by decide +kernel
theorem dX4_ifRenamed_61 : decode cX4_ifRenamed 61 = .ok (.goto 19, 3) := by decide +kernel
theorem dX4_ifRenamed_64 : decode cX4_ifRenamed 64 = .ok (.iload_n 3, 1) := by decide +kernel
theorem dX4_ifRenamed_65 : decode cX4_ifRenamed 65 = .ok (.iconst 1, 1) := by decide +kernel
theorem dX4_ifRenamed_66 : decode cX4_ifRenamed 66 = .ok (.if_icmp .ne 10, 3) := by decide +kernel
theorem dX4_ifRenamed_69 : decode cX4_ifRenamed 69 = .ok (.aload_n 0, 1) := by decide +kernel
theorem dX4_ifRenamed_70 : decode cX4_ifRenamed 70 = .ok (.getfield 241, 3) := by decide +kernel
theorem dX4_ifRenamed_73 : decode cX4_ifRenamed 73 = .ok (.goto 7, 3) := by decide +kernel
theorem dX4_ifRenamed_76 : decode cX4_ifRenamed 76 = .ok (.aload_n 0, 1) := by decide +kernel
theorem dX4_ifRenamed_77 : decode cX4_ifRenamed 77 = .ok (.getfield 244, 3) := by decide +kernel
theorem dX4_ifRenamed_80 : decode cX4_ifRenamed 80 = .ok (.ireturn, 1) := by decide +kernel
theorem dX4_freeName_0 : decode cX4_freeName 0 = .ok (.aload_n 0, 1) := by decide +kernel
theorem dX4_freeName_1 : decode cX4_freeName 1 = .ok (.aload_n 0, 1) := by decide +kernel
theorem dX4_freeName_2 : decode cX4_freeName 2 = .ok (.iload_n 1, 1) := by decide +kernel
theorem dX4_freeName_3 : decode cX4_freeName 3 = .ok (.invokevirtual 250, 3) := by decide +kernel
theorem dX4_freeName_6 : decode cX4_freeName 6 = .ok (.ifCond .eq 7, 3) := by decide +kernel
theorem dX4_freeName_9 : decode cX4_freeName 9 = .ok (.iconst 0, 1) := by decide +kernel
theorem dX4_freeName_10 : decode cX4_freeName 10 = .ok (.goto 4, 3) := by decide +kernel
theorem dX4_freeName_13 : decode cX4_freeName 13 = .ok (.iconst 1, 1) := by decide +kernel
theorem dX4_freeName_14 : decode cX4_freeName 14 = .ok (.putfield 37, 3) := by decide +kernel
theorem dX4_freeName_17 : decode cX4_freeName 17 = .ok (.aload_n 0, 1) := by decide +kernel
theorem dX4_freeName_18 : decode cX4_freeName 18 = .ok (.getfield 37, 3) := by decide +kernel
theorem dX4_freeName_21 : decode cX4_freeName 21 = .ok (.ifCond .le 5, 3) := by decide +kernel
theorem dX4_freeName_24 : decode cX4_freeName 24 = .ok (.iconst 0, 1) := by decide +kernel
theorem dX4_freeName_25 : decode cX4_freeName 25 = .ok (.ireturn, 1) := by decide +kernel
theorem dX4_freeName_26 : decode cX4_freeName 26 = .ok (.iconst 0, 1) := by decide +kernel
theorem dX4_freeName_27 : decode cX4_freeName 27 = .ok (.istore_n 2, 1) := by decide +kernel
theorem dX4_freeName_28 : decode cX4_freeName 28 = .ok (.iload_n 2, 1) := by decide +kernel
theorem dX4_freeName_29 : decode cX4_freeName 29 = .ok (.bipush 26, 2) := by decide +kernel
theorem dX4_freeName_31 : decode cX4_freeName 31 = .ok (.if_icmp .ge 19, 3) := by decide +kernel
theorem dX4_freeName_34 : decode cX4_freeName 34 = .ok (.aload_n 0, 1) := by decide +kernel
theorem dX4_freeName_35 : decode cX4_freeName 35 = .ok (.iload_n 1, 1) := by decide +kernel
theorem dX4_freeName_36 : decode cX4_freeName 36 = .ok (.iload_n 2, 1) := by decide +kernel
theorem dX4_freeName_37 : decode cX4_freeName 37 = .ok (.iconst 1, 1) := by decide +kernel
theorem dX4_freeName_38 : decode cX4_freeName 38 = .ok (.invokevirtual 253, 3) := by decide +kernel
theorem dX4_freeName_41 : decode cX4_freeName 41 = .ok (.ifCond .le 9, 3) := by decide +kernel
theorem dX4_freeName_44 : decode cX4_freeName 44 = .ok (.iinc 2 1, 3) := by decide +kernel
theorem dX4_freeName_47 : decode cX4_freeName 47 = .ok (.goto (-19), 3) := by decide +kernel
theorem dX4_freeName_50 : decode cX4_freeName 50 = .ok (.iload_n 2, 1) := by decide +kernel
theorem dX4_freeName_51 : decode cX4_freeName 51 = .ok (.bipush 26, 2) := by decide +kernel
theorem dX4_freeName_53 : decode cX4_freeName 53 = .ok (.if_icmp .ge 7, 3) := by decide +kernel
theorem dX4_freeName_56 : decode cX4_freeName 56 = .ok (.iload_n 2, 1) := by decide +kernel
theorem dX4_freeName_57 : decode cX4_freeName 57 = .ok (.goto 4, 3) := by decide +kernel
theorem dX4_freeName_60 : decode cX4_freeName 60 = .ok (.iconst (-1), 1) := by decide +kernel
theorem dX4_freeName_61 : decode cX4_freeName 61 = .ok (.ireturn, 1) := by decide +kernel
theorem dX4_usesOf_0 : decode cX4_usesOf 0 = .ok (.iconst 0, 1) := by decide +kernel
theorem dX4_usesOf_1 : decode cX4_usesOf 1 = .ok (.istore_n 2, 1) := by decide +kernel
theorem dX4_usesOf_2 : decode cX4_usesOf 2 = .ok (.iconst 0, 1) := by decide +kernel
theorem dX4_usesOf_3 : decode cX4_usesOf 3 = .ok (.istore_n 3, 1) := by decide +kernel
theorem dX4_usesOf_4 : decode cX4_usesOf 4 = .ok (.iload_n 3, 1) := by decide +kernel
theorem dX4_usesOf_5 : decode cX4_usesOf 5 = .ok (.aload_n 0, 1) := by decide +kernel
theorem dX4_usesOf_6 : decode cX4_usesOf 6 = .ok (.getfield 7, 3) := by decide +kernel
theorem dX4_usesOf_9 : decode cX4_usesOf 9 = .ok (.iconst 3, 1) := by decide +kernel
theorem dX4_usesOf_10 : decode cX4_usesOf 10 = .ok (.iaload, 1) := by decide +kernel
theorem dX4_usesOf_11 : decode cX4_usesOf 11 = .ok (.if_icmp .ge 28, 3) := by decide +kernel
theorem dX4_usesOf_14 : decode cX4_usesOf 14 = .ok (.iload_n 2, 1) := by decide +kernel
theorem dX4_usesOf_15 : decode cX4_usesOf 15 = .ok (.aload_n 0, 1) := by decide +kernel
theorem dX4_usesOf_16 : decode cX4_usesOf 16 = .ok (.iload_n 3, 1) := by decide +kernel
theorem dX4_usesOf_17 : decode cX4_usesOf 17 = .ok (.invokevirtual 118, 3) := by decide +kernel
theorem dX4_usesOf_20 : decode cX4_usesOf 20 = .ok (.iconst 1, 1) := by decide +kernel
theorem dX4_usesOf_21 : decode cX4_usesOf 21 = .ok (.iload_n 1, 1) := by decide +kernel
theorem dX4_usesOf_22 : decode cX4_usesOf 22 = .ok (.ishl, 1) := by decide +kernel
theorem dX4_usesOf_23 : decode cX4_usesOf 23 = .ok (.if_icmp .ne 7, 3) := by decide +kernel
theorem dX4_usesOf_26 : decode cX4_usesOf 26 = .ok (.iconst 1, 1) := by decide +kernel
theorem dX4_usesOf_27 : decode cX4_usesOf 27 = .ok (.goto 4, 3) := by decide +kernel
theorem dX4_usesOf_30 : decode cX4_usesOf 30 = .ok (.iconst 0, 1) := by decide +kernel
theorem dX4_usesOf_31 : decode cX4_usesOf 31 = .ok (.iadd, 1) := by decide +kernel
theorem dX4_usesOf_32 : decode cX4_usesOf 32 = .ok (.istore_n 2, 1) := by decide +kernel
theorem dX4_usesOf_33 : decode cX4_usesOf 33 = .ok (.iinc 3 1, 3) := by decide +kernel
theorem dX4_usesOf_36 : decode cX4_usesOf 36 = .ok (.goto (-32), 3) := by decide +kernel
theorem dX4_usesOf_39 : decode cX4_usesOf 39 = .ok (.iload_n 2, 1) := by decide +kernel
theorem dX4_usesOf_40 : decode cX4_usesOf 40 = .ok (.ireturn, 1) := by decide +kernel
theorem dX4_usesWith_0 : decode cX4_usesWith 0 = .ok (.iconst 0, 1) := by decide +kernel
theorem dX4_usesWith_1 : decode cX4_usesWith 1 = .ok (.istore_n 3, 1) := by decide +kernel
theorem dX4_usesWith_2 : decode cX4_usesWith 2 = .ok (.iconst 0, 1) := by decide +kernel
theorem dX4_usesWith_3 : decode cX4_usesWith 3 = .ok (.istore 4, 2) := by decide +kernel
theorem dX4_usesWith_5 : decode cX4_usesWith 5 = .ok (.iload 4, 2) := by decide +kernel
theorem dX4_usesWith_7 : decode cX4_usesWith 7 = .ok (.aload_n 0, 1) := by decide +kernel
theorem dX4_usesWith_8 : decode cX4_usesWith 8 = .ok (.getfield 7, 3) := by decide +kernel
theorem dX4_usesWith_11 : decode cX4_usesWith 11 = .ok (.iconst 3, 1) := by decide +kernel
theorem dX4_usesWith_12 : decode cX4_usesWith 12 = .ok (.iaload, 1) := by decide +kernel
theorem dX4_usesWith_13 : decode cX4_usesWith 13 = .ok (.if_icmp .ge 34, 3) := by decide +kernel
theorem dX4_usesWith_16 : decode cX4_usesWith 16 = .ok (.iload_n 3, 1) := by decide +kernel
theorem dX4_usesWith_17 : decode cX4_usesWith 17 = .ok (.aload_n 0, 1) := by decide +kernel
theorem dX4_usesWith_18 : decode cX4_usesWith 18 = .ok (.iload 4, 2) := by decide +kernel
theorem dX4_usesWith_20 : decode cX4_usesWith 20 = .ok (.invokevirtual 118, 3) := by decide +kernel
theorem dX4_usesWith_23 : decode cX4_usesWith 23 = .ok (.invokestatic 87, 3) := by decide +kernel
theorem dX4_usesWith_26 : decode cX4_usesWith 26 = .ok (.iload_n 1, 1) := by decide +kernel
theorem dX4_usesWith_27 : decode cX4_usesWith 27 = .ok (.iload_n 2, 1) := by decide +kernel
theorem dX4_usesWith_28 : decode cX4_usesWith 28 = .ok (.invokestatic 41, 3) := by decide +kernel
theorem dX4_usesWith_31 : decode cX4_usesWith 31 = .ok (.ifCond .eq 7, 3) := by decide +kernel
theorem dX4_usesWith_34 : decode cX4_usesWith 34 = .ok (.iconst 1, 1) := by decide +kernel
theorem dX4_usesWith_35 : decode cX4_usesWith 35 = .ok (.goto 4, 3) := by decide +kernel
theorem dX4_usesWith_38 : decode cX4_usesWith 38 = .ok (.iconst 0, 1) := by decide +kernel
theorem dX4_usesWith_39 : decode cX4_usesWith 39 = .ok (.iadd, 1) := by decide +kernel
theorem dX4_usesWith_40 : decode cX4_usesWith 40 = .ok (.istore_n 3, 1) := by decide +kernel
theorem dX4_usesWith_41 : decode cX4_usesWith 41 = .ok (.iinc 4 1, 3) := by decide +kernel
theorem dX4_usesWith_44 : decode cX4_usesWith 44 = .ok (.goto (-39), 3) := by decide +kernel
theorem dX4_usesWith_47 : decode cX4_usesWith 47 = .ok (.iload_n 3, 1) := by decide +kernel
theorem dX4_usesWith_48 : decode cX4_usesWith 48 = .ok (.ireturn, 1) := by decide +kernel
theorem dX4_without_0 : decode cX4_without 0 = .ok (.aload_n 0, 1) := by decide +kernel
theorem dX4_without_1 : decode cX4_without 1 = .ok (.invokevirtual 121, 3) := by decide +kernel
theorem dX4_without_4 : decode cX4_without 4 = .ok (.aload_n 0, 1) := by decide +kernel
theorem dX4_without_5 : decode cX4_without 5 = .ok (.aload_n 0, 1) := by decide +kernel
theorem dX4_without_6 : decode cX4_without 6 = .ok (.getfield 7, 3) := by decide +kernel
theorem dX4_without_9 : decode cX4_without 9 = .ok (.aload_n 0, 1) := by decide +kernel
theorem dX4_without_10 : decode cX4_without 10 = .ok (.getfield 13, 3) := by decide +kernel
theorem dX4_without_13 : decode cX4_without 13 = .ok (.invokevirtual 223, 3) := by decide +kernel
theorem dX4_without_16 : decode cX4_without 16 = .ok (.aload_n 0, 1) := by decide +kernel
theorem dX4_without_17 : decode cX4_without 17 = .ok (.bipush 110, 2) := by decide +kernel
theorem dX4_without_19 : decode cX4_without 19 = .ok (.bipush 6, 2) := by decide +kernel
theorem dX4_without_21 : decode cX4_without 21 = .ok (.iload_n 1, 1) := by decide +kernel
theorem dX4_without_22 : decode cX4_without 22 = .ok (.iconst 2, 1) := by decide +kernel
theorem dX4_without_23 : decode cX4_without 23 = .ok (.invokevirtual 127, 3) := by decide +kernel
theorem dX4_without_26 : decode cX4_without 26 = .ok (.aload_n 0, 1) := by decide +kernel
theorem dX4_without_27 : decode cX4_without 27 = .ok (.invokevirtual 131, 3) := by decide +kernel
theorem dX4_without_30 : decode cX4_without 30 = .ok (.istore_n 2, 1) := by decide +kernel
theorem dX4_without_31 : decode cX4_without 31 = .ok (.aload_n 0, 1) := by decide +kernel
theorem dX4_without_32 : decode cX4_without 32 = .ok (.aload_n 0, 1) := by decide +kernel
theorem dX4_without_33 : decode cX4_without 33 = .ok (.getfield 13, 3) := by decide +kernel
theorem dX4_without_36 : decode cX4_without 36 = .ok (.aload_n 0, 1) := by decide +kernel
theorem dX4_without_37 : decode cX4_without 37 = .ok (.getfield 7, 3) := by decide +kernel
theorem dX4_without_40 : decode cX4_without 40 = .ok (.invokevirtual 223, 3) := by decide +kernel
theorem dX4_without_43 : decode cX4_without 43 = .ok (.iload_n 2, 1) := by decide +kernel
theorem dX4_without_44 : decode cX4_without 44 = .ok (.ireturn, 1) := by decide +kernel
theorem dX4_pairsOf_0 : decode cX4_pairsOf 0 = .ok (.aload_n 0, 1) := by decide +kernel
theorem dX4_pairsOf_1 : decode cX4_pairsOf 1 = .ok (.invokevirtual 73, 3) := by decide +kernel
theorem dX4_pairsOf_4 : decode cX4_pairsOf 4 = .ok (.iconst 0, 1) := by decide +kernel
theorem dX4_pairsOf_5 : decode cX4_pairsOf 5 = .ok (.istore_n 2, 1) := by decide +kernel
theorem dX4_pairsOf_6 : decode cX4_pairsOf 6 = .ok (.iconst 0, 1) := by decide +kernel
theorem dX4_pairsOf_7 : decode cX4_pairsOf 7 = .ok (.istore_n 3, 1) := by decide +kernel
theorem dX4_pairsOf_8 : decode cX4_pairsOf 8 = .ok (.iload_n 3, 1) := by decide +kernel
theorem dX4_pairsOf_9 : decode cX4_pairsOf 9 = .ok (.bipush 26, 2) := by decide +kernel
theorem dX4_pairsOf_11 : decode cX4_pairsOf 11 = .ok (.if_icmp .ge 21, 3) := by decide +kernel
theorem dX4_pairsOf_14 : decode cX4_pairsOf 14 = .ok (.iload_n 2, 1) := by decide +kernel
theorem dX4_pairsOf_15 : decode cX4_pairsOf 15 = .ok (.aload_n 0, 1) := by decide +kernel
theorem dX4_pairsOf_16 : decode cX4_pairsOf 16 = .ok (.iload_n 1, 1) := by decide +kernel
theorem dX4_pairsOf_17 : decode cX4_pairsOf 17 = .ok (.iload_n 3, 1) := by decide +kernel
theorem dX4_pairsOf_18 : decode cX4_pairsOf 18 = .ok (.invokevirtual 66, 3) := by decide +kernel
theorem dX4_pairsOf_21 : decode cX4_pairsOf 21 = .ok (.invokestatic 87, 3) := by decide +kernel
theorem dX4_pairsOf_24 : decode cX4_pairsOf 24 = .ok (.iadd, 1) := by decide +kernel
theorem dX4_pairsOf_25 : decode cX4_pairsOf 25 = .ok (.istore_n 2, 1) := by decide +kernel
theorem dX4_pairsOf_26 : decode cX4_pairsOf 26 = .ok (.iinc 3 1, 3) := by decide +kernel
theorem dX4_pairsOf_29 : decode cX4_pairsOf 29 = .ok (.goto (-21), 3) := by decide +kernel
theorem dX4_pairsOf_32 : decode cX4_pairsOf 32 = .ok (.iload_n 2, 1) := by decide +kernel
theorem dX4_pairsOf_33 : decode cX4_pairsOf 33 = .ok (.ireturn, 1) := by decide +kernel
theorem dX4_depth_0 : decode cX4_depth 0 = .ok (.iconst 0, 1) := by decide +kernel
theorem dX4_depth_1 : decode cX4_depth 1 = .ok (.istore_n 2, 1) := by decide +kernel
theorem dX4_depth_2 : decode cX4_depth 2 = .ok (.iload_n 1, 1) := by decide +kernel
theorem dX4_depth_3 : decode cX4_depth 3 = .ok (.istore_n 3, 1) := by decide +kernel
theorem dX4_depth_4 : decode cX4_depth 4 = .ok (.iload_n 3, 1) := by decide +kernel
theorem dX4_depth_5 : decode cX4_depth 5 = .ok (.ifCond .le 18, 3) := by decide +kernel
theorem dX4_depth_8 : decode cX4_depth 8 = .ok (.iinc 2 1, 3) := by decide +kernel
theorem dX4_depth_11 : decode cX4_depth 11 = .ok (.aload_n 0, 1) := by decide +kernel
theorem dX4_depth_12 : decode cX4_depth 12 = .ok (.getfield 7, 3) := by decide +kernel
theorem dX4_depth_15 : decode cX4_depth 15 = .ok (.iconst 4, 1) := by decide +kernel
theorem dX4_depth_16 : decode cX4_depth 16 = .ok (.iload_n 3, 1) := by decide +kernel
theorem dX4_depth_17 : decode cX4_depth 17 = .ok (.iadd, 1) := by decide +kernel
theorem dX4_depth_18 : decode cX4_depth 18 = .ok (.iaload, 1) := by decide +kernel
theorem dX4_depth_19 : decode cX4_depth 19 = .ok (.istore_n 3, 1) := by decide +kernel
theorem dX4_depth_20 : decode cX4_depth 20 = .ok (.goto (-16), 3) := by decide +kernel
theorem dX4_depth_23 : decode cX4_depth 23 = .ok (.iload_n 2, 1) := by decide +kernel
theorem dX4_depth_24 : decode cX4_depth 24 = .ok (.ireturn, 1) := by decide +kernel
theorem dX4_unused_0 : decode cX4_unused 0 = .ok (.iconst 0, 1) := by decide +kernel
theorem dX4_unused_1 : decode cX4_unused 1 = .ok (.istore_n 1, 1) := by decide +kernel
theorem dX4_unused_2 : decode cX4_unused 2 = .ok (.iconst 0, 1) := by decide +kernel
theorem dX4_unused_3 : decode cX4_unused 3 = .ok (.istore_n 2, 1) := by decide +kernel
theorem dX4_unused_4 : decode cX4_unused 4 = .ok (.iload_n 2, 1) := by decide +kernel
theorem dX4_unused_5 : decode cX4_unused 5 = .ok (.aload_n 0, 1) := by decide +kernel
theorem dX4_unused_6 : decode cX4_unused 6 = .ok (.getfield 7, 3) := by decide +kernel
theorem dX4_unused_9 : decode cX4_unused 9 = .ok (.iconst 1, 1) := by decide +kernel
theorem dX4_unused_10 : decode cX4_unused 10 = .ok (.iaload, 1) := by decide +kernel
theorem dX4_unused_11 : decode cX4_unused 11 = .ok (.if_icmp .ge 25, 3) := by decide +kernel
theorem dX4_unused_14 : decode cX4_unused 14 = .ok (.iload_n 1, 1) := by decide +kernel
theorem dX4_unused_15 : decode cX4_unused 15 = .ok (.aload_n 0, 1) := by decide +kernel
theorem dX4_unused_16 : decode cX4_unused 16 = .ok (.iload_n 2, 1) := by decide +kernel
theorem dX4_unused_17 : decode cX4_unused 17 = .ok (.invokevirtual 256, 3) := by decide +kernel
theorem dX4_unused_20 : decode cX4_unused 20 = .ok (.ifCond .ne 7, 3) := by decide +kernel
theorem dX4_unused_23 : decode cX4_unused 23 = .ok (.iconst 1, 1) := by decide +kernel
theorem dX4_unused_24 : decode cX4_unused 24 = .ok (.goto 4, 3) := by decide +kernel
theorem dX4_unused_27 : decode cX4_unused 27 = .ok (.iconst 0, 1) := by decide +kernel
theorem dX4_unused_28 : decode cX4_unused 28 = .ok (.iadd, 1) := by decide +kernel
theorem dX4_unused_29 : decode cX4_unused 29 = .ok (.istore_n 1, 1) := by decide +kernel
theorem dX4_unused_30 : decode cX4_unused 30 = .ok (.iinc 2 1, 3) := by decide +kernel
theorem dX4_unused_33 : decode cX4_unused 33 = .ok (.goto (-29), 3) := by decide +kernel
theorem dX4_unused_36 : decode cX4_unused 36 = .ok (.iload_n 1, 1) := by decide +kernel
theorem dX4_unused_37 : decode cX4_unused 37 = .ok (.ireturn, 1) := by decide +kernel
theorem dX4_needless_0 : decode cX4_needless 0 = .ok (.iconst 0, 1) := by decide +kernel
theorem dX4_needless_1 : decode cX4_needless 1 = .ok (.istore_n 2, 1) := by decide +kernel
theorem dX4_needless_2 : decode cX4_needless 2 = .ok (.iconst 0, 1) := by decide +kernel
theorem dX4_needless_3 : decode cX4_needless 3 = .ok (.istore_n 3, 1) := by decide +kernel
theorem dX4_needless_4 : decode cX4_needless 4 = .ok (.iload_n 3, 1) := by decide +kernel
theorem dX4_needless_5 : decode cX4_needless 5 = .ok (.aload_n 0, 1) := by decide +kernel
theorem dX4_needless_6 : decode cX4_needless 6 = .ok (.getfield 7, 3) := by decide +kernel
theorem dX4_needless_9 : decode cX4_needless 9 = .ok (.iconst 2, 1) := by decide +kernel
theorem dX4_needless_10 : decode cX4_needless 10 = .ok (.iaload, 1) := by decide +kernel
theorem dX4_needless_11 : decode cX4_needless 11 = .ok (.if_icmp .ge 48, 3) := by decide +kernel
theorem dX4_needless_14 : decode cX4_needless 14 = .ok (.iload_n 2, 1) := by decide +kernel
theorem dX4_needless_15 : decode cX4_needless 15 = .ok (.iload_n 1, 1) := by decide +kernel
theorem dX4_needless_16 : decode cX4_needless 16 = .ok (.ifCond .eq 22, 3) := by decide +kernel
theorem dX4_needless_19 : decode cX4_needless 19 = .ok (.aload_n 0, 1) := by decide +kernel
theorem dX4_needless_20 : decode cX4_needless 20 = .ok (.iload_n 3, 1) := by decide +kernel
theorem dX4_needless_21 : decode cX4_needless 21 = .ok (.invokevirtual 56, 3) := by decide +kernel
theorem dX4_needless_24 : decode cX4_needless 24 = .ok (.ifCond .eq 26, 3) := by decide +kernel
theorem dX4_needless_27 : decode cX4_needless 27 = .ok (.aload_n 0, 1) := by decide +kernel
theorem dX4_needless_28 : decode cX4_needless 28 = .ok (.iload_n 3, 1) := by decide +kernel
theorem dX4_needless_29 : decode cX4_needless 29 = .ok (.invokevirtual 259, 3) := by decide +kernel
theorem dX4_needless_32 : decode cX4_needless 32 = .ok (.ifCond .ne 18, 3) := by decide +kernel
theorem dX4_needless_35 : decode cX4_needless 35 = .ok (.goto 11, 3) := by decide +kernel
theorem dX4_needless_38 : decode cX4_needless 38 = .ok (.aload_n 0, 1) := by decide +kernel
theorem dX4_needless_39 : decode cX4_needless 39 = .ok (.iload_n 3, 1) := by decide +kernel
theorem dX4_needless_40 : decode cX4_needless 40 = .ok (.invokevirtual 262, 3) := by decide +kernel
theorem dX4_needless_43 : decode cX4_needless 43 = .ok (.ifCond .ne 7, 3) := by decide +kernel
theorem dX4_needless_46 : decode cX4_needless 46 = .ok (.iconst 1, 1) := by decide +kernel
theorem dX4_needless_47 : decode cX4_needless 47 = .ok (.goto 4, 3) := by decide +kernel
theorem dX4_needless_50 : decode cX4_needless 50 = .ok (.iconst 0, 1) := by decide +kernel
theorem dX4_needless_51 : decode cX4_needless 51 = .ok (.iadd, 1) := by decide +kernel
theorem dX4_needless_52 : decode cX4_needless 52 = .ok (.istore_n 2, 1) := by decide +kernel
theorem dX4_needless_53 : decode cX4_needless 53 = .ok (.iinc 3 1, 3) := by decide +kernel
theorem dX4_needless_56 : decode cX4_needless 56 = .ok (.goto (-52), 3) := by decide +kernel
theorem dX4_needless_59 : decode cX4_needless 59 = .ok (.iload_n 2, 1) := by decide +kernel
theorem dX4_needless_60 : decode cX4_needless 60 = .ok (.ireturn, 1) := by decide +kernel
theorem dX4_deepest_0 : decode cX4_deepest 0 = .ok (.iconst 0, 1) := by decide +kernel
theorem dX4_deepest_1 : decode cX4_deepest 1 = .ok (.istore_n 1, 1) := by decide +kernel
theorem dX4_deepest_2 : decode cX4_deepest 2 = .ok (.iconst 0, 1) := by decide +kernel
theorem dX4_deepest_3 : decode cX4_deepest 3 = .ok (.istore_n 2, 1) := by decide +kernel
theorem dX4_deepest_4 : decode cX4_deepest 4 = .ok (.iload_n 2, 1) := by decide +kernel
theorem dX4_deepest_5 : decode cX4_deepest 5 = .ok (.aload_n 0, 1) := by decide +kernel
theorem dX4_deepest_6 : decode cX4_deepest 6 = .ok (.getfield 7, 3) := by decide +kernel
theorem dX4_deepest_9 : decode cX4_deepest 9 = .ok (.iconst 0, 1) := by decide +kernel
theorem dX4_deepest_10 : decode cX4_deepest 10 = .ok (.iaload, 1) := by decide +kernel
theorem dX4_deepest_11 : decode cX4_deepest 11 = .ok (.if_icmp .ge 28, 3) := by decide +kernel
theorem dX4_deepest_14 : decode cX4_deepest 14 = .ok (.aload_n 0, 1) := by decide +kernel
theorem dX4_deepest_15 : decode cX4_deepest 15 = .ok (.iload_n 2, 1) := by decide +kernel
theorem dX4_deepest_16 : decode cX4_deepest 16 = .ok (.invokevirtual 265, 3) := by decide +kernel
theorem dX4_deepest_19 : decode cX4_deepest 19 = .ok (.iload_n 1, 1) := by decide +kernel
theorem dX4_deepest_20 : decode cX4_deepest 20 = .ok (.if_icmp .le 11, 3) := by decide +kernel
theorem dX4_deepest_23 : decode cX4_deepest 23 = .ok (.aload_n 0, 1) := by decide +kernel
theorem dX4_deepest_24 : decode cX4_deepest 24 = .ok (.iload_n 2, 1) := by decide +kernel
theorem dX4_deepest_25 : decode cX4_deepest 25 = .ok (.invokevirtual 265, 3) := by decide +kernel
theorem dX4_deepest_28 : decode cX4_deepest 28 = .ok (.goto 4, 3) := by decide +kernel
theorem dX4_deepest_31 : decode cX4_deepest 31 = .ok (.iload_n 1, 1) := by decide +kernel
theorem dX4_deepest_32 : decode cX4_deepest 32 = .ok (.istore_n 1, 1) := by decide +kernel
theorem dX4_deepest_33 : decode cX4_deepest 33 = .ok (.iinc 2 1, 3) := by decide +kernel
theorem dX4_deepest_36 : decode cX4_deepest 36 = .ok (.goto (-32), 3) := by decide +kernel
theorem dX4_deepest_39 : decode cX4_deepest 39 = .ok (.iload_n 1, 1) := by decide +kernel
theorem dX4_deepest_40 : decode cX4_deepest 40 = .ok (.ireturn, 1) := by decide +kernel
theorem dX4_allPairs_0 : decode cX4_allPairs 0 = .ok (.aload_n 0, 1) := by decide +kernel
theorem dX4_allPairs_1 : decode cX4_allPairs 1 = .ok (.invokevirtual 73, 3) := by decide +kernel
theorem dX4_allPairs_4 : decode cX4_allPairs 4 = .ok (.iconst 0, 1) := by decide +kernel
theorem dX4_allPairs_5 : decode cX4_allPairs 5 = .ok (.istore_n 1, 1) := by decide +kernel
theorem dX4_allPairs_6 : decode cX4_allPairs 6 = .ok (.iconst 0, 1) := by decide +kernel
theorem dX4_allPairs_7 : decode cX4_allPairs 7 = .ok (.istore_n 2, 1) := by decide +kernel
theorem dX4_allPairs_8 : decode cX4_allPairs 8 = .ok (.iload_n 2, 1) := by decide +kernel
theorem dX4_allPairs_9 : decode cX4_allPairs 9 = .ok (.sipush 416, 3) := by decide +kernel
theorem dX4_allPairs_12 : decode cX4_allPairs 12 = .ok (.if_icmp .ge 21, 3) := by decide +kernel
theorem dX4_allPairs_15 : decode cX4_allPairs 15 = .ok (.iload_n 1, 1) := by decide +kernel
theorem dX4_allPairs_16 : decode cX4_allPairs 16 = .ok (.aload_n 0, 1) := by decide +kernel
theorem dX4_allPairs_17 : decode cX4_allPairs 17 = .ok (.getfield 16, 3) := by decide +kernel
theorem dX4_allPairs_20 : decode cX4_allPairs 20 = .ok (.iload_n 2, 1) := by decide +kernel
theorem dX4_allPairs_21 : decode cX4_allPairs 21 = .ok (.iaload, 1) := by decide +kernel
theorem dX4_allPairs_22 : decode cX4_allPairs 22 = .ok (.invokestatic 87, 3) := by decide +kernel
theorem dX4_allPairs_25 : decode cX4_allPairs 25 = .ok (.iadd, 1) := by decide +kernel
theorem dX4_allPairs_26 : decode cX4_allPairs 26 = .ok (.istore_n 1, 1) := by decide +kernel
theorem dX4_allPairs_27 : decode cX4_allPairs 27 = .ok (.iinc 2 1, 3) := by decide +kernel
theorem dX4_allPairs_30 : decode cX4_allPairs 30 = .ok (.goto (-22), 3) := by decide +kernel
theorem dX4_allPairs_33 : decode cX4_allPairs 33 = .ok (.iload_n 1, 1) := by decide +kernel
theorem dX4_allPairs_34 : decode cX4_allPairs 34 = .ok (.ireturn, 1) := by decide +kernel
theorem dX4_counted_0 : decode cX4_counted 0 = .ok (.iload_n 1, 1) := by decide +kernel
theorem dX4_counted_1 : decode cX4_counted 1 = .ok (.tableswitch 85 4 10 #[43, 50, 58, 63, 69, 75, 80], 43) := by decide +kernel
theorem dX4_counted_44 : decode cX4_counted 44 = .ok (.aload_n 0, 1) := by decide +kernel
theorem dX4_counted_45 : decode cX4_counted 45 = .ok (.iconst 1, 1) := by decide +kernel
theorem dX4_counted_46 : decode cX4_counted 46 = .ok (.iconst 1, 1) := by decide +kernel
theorem dX4_counted_47 : decode cX4_counted 47 = .ok (.invokevirtual 268, 3) := by decide +kernel
theorem dX4_counted_50 : decode cX4_counted 50 = .ok (.ireturn, 1) := by decide +kernel
theorem dX4_counted_51 : decode cX4_counted 51 = .ok (.aload_n 0, 1) := by decide +kernel
theorem dX4_counted_52 : decode cX4_counted 52 = .ok (.iconst 2, 1) := by decide +kernel
theorem dX4_counted_53 : decode cX4_counted 53 = .ok (.bipush 30, 2) := by decide +kernel
theorem dX4_counted_55 : decode cX4_counted 55 = .ok (.invokevirtual 268, 3) := by decide +kernel
theorem dX4_counted_58 : decode cX4_counted 58 = .ok (.ireturn, 1) := by decide +kernel
theorem dX4_counted_59 : decode cX4_counted 59 = .ok (.aload_n 0, 1) := by decide +kernel
theorem dX4_counted_60 : decode cX4_counted 60 = .ok (.invokevirtual 271, 3) := by decide +kernel
theorem dX4_counted_63 : decode cX4_counted 63 = .ok (.ireturn, 1) := by decide +kernel
theorem dX4_counted_64 : decode cX4_counted 64 = .ok (.aload_n 0, 1) := by decide +kernel
theorem dX4_counted_65 : decode cX4_counted 65 = .ok (.iconst 0, 1) := by decide +kernel
theorem dX4_counted_66 : decode cX4_counted 66 = .ok (.invokevirtual 274, 3) := by decide +kernel
theorem dX4_counted_69 : decode cX4_counted 69 = .ok (.ireturn, 1) := by decide +kernel
theorem dX4_counted_70 : decode cX4_counted 70 = .ok (.aload_n 0, 1) := by decide +kernel
theorem dX4_counted_71 : decode cX4_counted 71 = .ok (.iconst 1, 1) := by decide +kernel
theorem dX4_counted_72 : decode cX4_counted 72 = .ok (.invokevirtual 274, 3) := by decide +kernel
theorem dX4_counted_75 : decode cX4_counted 75 = .ok (.ireturn, 1) := by decide +kernel
theorem dX4_counted_76 : decode cX4_counted 76 = .ok (.aload_n 0, 1) := by decide +kernel
theorem dX4_counted_77 : decode cX4_counted 77 = .ok (.invokevirtual 277, 3) := by decide +kernel
theorem dX4_counted_80 : decode cX4_counted 80 = .ok (.ireturn, 1) := by decide +kernel
theorem dX4_counted_81 : decode cX4_counted 81 = .ok (.aload_n 0, 1) := by decide +kernel
theorem dX4_counted_82 : decode cX4_counted 82 = .ok (.invokevirtual 280, 3) := by decide +kernel
theorem dX4_counted_85 : decode cX4_counted 85 = .ok (.ireturn, 1) := by decide +kernel
theorem dX4_counted_86 : decode cX4_counted 86 = .ok (.aload_n 0, 1) := by decide +kernel
theorem dX4_counted_87 : decode cX4_counted 87 = .ok (.getfield 7, 3) := by decide +kernel
theorem dX4_counted_90 : decode cX4_counted 90 = .ok (.iload_n 1, 1) := by decide +kernel
theorem dX4_counted_91 : decode cX4_counted 91 = .ok (.iaload, 1) := by decide +kernel
theorem dX4_counted_92 : decode cX4_counted 92 = .ok (.ireturn, 1) := by decide +kernel
theorem dX4_count_0 : decode cX4_count 0 = .ok (.aload_n 0, 1) := by decide +kernel
theorem dX4_count_1 : decode cX4_count 1 = .ok (.iload_n 1, 1) := by decide +kernel
theorem dX4_count_2 : decode cX4_count 2 = .ok (.iconst 0, 1) := by decide +kernel
theorem dX4_count_3 : decode cX4_count 3 = .ok (.bipush 10, 2) := by decide +kernel
theorem dX4_count_5 : decode cX4_count 5 = .ok (.invokestatic 41, 3) := by decide +kernel
theorem dX4_count_8 : decode cX4_count 8 = .ok (.ifCond .eq 7, 3) := by decide +kernel
theorem dX4_count_11 : decode cX4_count 11 = .ok (.iconst 0, 1) := by decide +kernel
theorem dX4_count_12 : decode cX4_count 12 = .ok (.goto 4, 3) := by decide +kernel
theorem dX4_count_15 : decode cX4_count 15 = .ok (.iconst 1, 1) := by decide +kernel
theorem dX4_count_16 : decode cX4_count 16 = .ok (.putfield 37, 3) := by decide +kernel
theorem dX4_count_19 : decode cX4_count 19 = .ok (.aload_n 0, 1) := by decide +kernel
theorem dX4_count_20 : decode cX4_count 20 = .ok (.getfield 37, 3) := by decide +kernel
theorem dX4_count_23 : decode cX4_count 23 = .ok (.ifCond .le 7, 3) := by decide +kernel
theorem dX4_count_26 : decode cX4_count 26 = .ok (.iconst 0, 1) := by decide +kernel
theorem dX4_count_27 : decode cX4_count 27 = .ok (.goto 8, 3) := by decide +kernel
theorem dX4_count_30 : decode cX4_count 30 = .ok (.aload_n 0, 1) := by decide +kernel
theorem dX4_count_31 : decode cX4_count 31 = .ok (.iload_n 1, 1) := by decide +kernel
theorem dX4_count_32 : decode cX4_count 32 = .ok (.invokevirtual 283, 3) := by decide +kernel
theorem dX4_count_35 : decode cX4_count 35 = .ok (.ireturn, 1) := by decide +kernel
theorem dX4_offering_0 : decode cX4_offering 0 = .ok (.aload_n 0, 1) := by decide +kernel
theorem dX4_offering_1 : decode cX4_offering 1 = .ok (.invokevirtual 73, 3) := by decide +kernel
theorem dX4_offering_4 : decode cX4_offering 4 = .ok (.iconst 0, 1) := by decide +kernel
theorem dX4_offering_5 : decode cX4_offering 5 = .ok (.istore_n 2, 1) := by decide +kernel
theorem dX4_offering_6 : decode cX4_offering 6 = .ok (.iconst 0, 1) := by decide +kernel
theorem dX4_offering_7 : decode cX4_offering 7 = .ok (.istore_n 3, 1) := by decide +kernel
theorem dX4_offering_8 : decode cX4_offering 8 = .ok (.iload_n 3, 1) := by decide +kernel
theorem dX4_offering_9 : decode cX4_offering 9 = .ok (.aload_n 0, 1) := by decide +kernel
theorem dX4_offering_10 : decode cX4_offering 10 = .ok (.getfield 7, 3) := by decide +kernel
theorem dX4_offering_13 : decode cX4_offering 13 = .ok (.iconst 0, 1) := by decide +kernel
theorem dX4_offering_14 : decode cX4_offering 14 = .ok (.iaload, 1) := by decide +kernel
theorem dX4_offering_15 : decode cX4_offering 15 = .ok (.if_icmp .ge 49, 3) := by decide +kernel
theorem dX4_offering_18 : decode cX4_offering 18 = .ok (.iconst 0, 1) := by decide +kernel
theorem dX4_offering_19 : decode cX4_offering 19 = .ok (.istore 4, 2) := by decide +kernel
theorem dX4_offering_21 : decode cX4_offering 21 = .ok (.iconst 0, 1) := by decide +kernel
theorem dX4_offering_22 : decode cX4_offering 22 = .ok (.istore 5, 2) := by decide +kernel
theorem dX4_offering_24 : decode cX4_offering 24 = .ok (.iload 5, 2) := by decide +kernel
theorem dX4_offering_26 : decode cX4_offering 26 = .ok (.bipush 26, 2) := by decide +kernel
theorem dX4_offering_28 : decode cX4_offering 28 = .ok (.if_icmp .ge 21, 3) := by decide +kernel
theorem dX4_offering_31 : decode cX4_offering 31 = .ok (.iload 4, 2) := by decide +kernel
theorem dX4_offering_33 : decode cX4_offering 33 = .ok (.aload_n 0, 1) := by decide +kernel
theorem dX4_offering_34 : decode cX4_offering 34 = .ok (.iload_n 3, 1) := by decide +kernel
theorem dX4_offering_35 : decode cX4_offering 35 = .ok (.iload 5, 2) := by decide +kernel
theorem dX4_offering_37 : decode cX4_offering 37 = .ok (.invokevirtual 60, 3) := by decide +kernel
theorem dX4_offering_40 : decode cX4_offering 40 = .ok (.ior, 1) := by decide +kernel
theorem dX4_offering_41 : decode cX4_offering 41 = .ok (.istore 4, 2) := by decide +kernel
theorem dX4_offering_43 : decode cX4_offering 43 = .ok (.iinc 5 1, 3) := by decide +kernel
theorem dX4_offering_46 : decode cX4_offering 46 = .ok (.goto (-22), 3) := by decide +kernel
theorem dX4_offering_49 : decode cX4_offering 49 = .ok (.iload_n 2, 1) := by decide +kernel
theorem dX4_offering_50 : decode cX4_offering 50 = .ok (.iload 4, 2) := by decide +kernel
theorem dX4_offering_52 : decode cX4_offering 52 = .ok (.iload_n 1, 1) := by decide +kernel
theorem dX4_offering_53 : decode cX4_offering 53 = .ok (.ishr, 1) := by decide +kernel
theorem dX4_offering_54 : decode cX4_offering 54 = .ok (.iconst 1, 1) := by decide +kernel
theorem dX4_offering_55 : decode cX4_offering 55 = .ok (.iand, 1) := by decide +kernel
theorem dX4_offering_56 : decode cX4_offering 56 = .ok (.iadd, 1) := by decide +kernel
theorem dX4_offering_57 : decode cX4_offering 57 = .ok (.istore_n 2, 1) := by decide +kernel
theorem dX4_offering_58 : decode cX4_offering 58 = .ok (.iinc 3 1, 3) := by decide +kernel
theorem dX4_offering_61 : decode cX4_offering 61 = .ok (.goto (-53), 3) := by decide +kernel
theorem dX4_offering_64 : decode cX4_offering 64 = .ok (.iload_n 2, 1) := by decide +kernel
theorem dX4_offering_65 : decode cX4_offering 65 = .ok (.ireturn, 1) := by decide +kernel
theorem dX4_reaching_0 : decode cX4_reaching 0 = .ok (.iconst 0, 1) := by decide +kernel
theorem dX4_reaching_1 : decode cX4_reaching 1 = .ok (.istore_n 2, 1) := by decide +kernel
theorem dX4_reaching_2 : decode cX4_reaching 2 = .ok (.iconst 0, 1) := by decide +kernel
theorem dX4_reaching_3 : decode cX4_reaching 3 = .ok (.istore_n 3, 1) := by decide +kernel
theorem dX4_reaching_4 : decode cX4_reaching 4 = .ok (.iload_n 3, 1) := by decide +kernel
theorem dX4_reaching_5 : decode cX4_reaching 5 = .ok (.aload_n 0, 1) := by decide +kernel
theorem dX4_reaching_6 : decode cX4_reaching 6 = .ok (.getfield 7, 3) := by decide +kernel
theorem dX4_reaching_9 : decode cX4_reaching 9 = .ok (.iconst 0, 1) := by decide +kernel
theorem dX4_reaching_10 : decode cX4_reaching 10 = .ok (.iaload, 1) := by decide +kernel
theorem dX4_reaching_11 : decode cX4_reaching 11 = .ok (.if_icmp .ge 34, 3) := by decide +kernel
theorem dX4_reaching_14 : decode cX4_reaching 14 = .ok (.iload_n 2, 1) := by decide +kernel
theorem dX4_reaching_15 : decode cX4_reaching 15 = .ok (.aload_n 0, 1) := by decide +kernel
theorem dX4_reaching_16 : decode cX4_reaching 16 = .ok (.iload_n 3, 1) := by decide +kernel
theorem dX4_reaching_17 : decode cX4_reaching 17 = .ok (.aload_n 0, 1) := by decide +kernel
theorem dX4_reaching_18 : decode cX4_reaching 18 = .ok (.iload_n 1, 1) := by decide +kernel
theorem dX4_reaching_19 : decode cX4_reaching 19 = .ok (.iconst 1, 1) := by decide +kernel
theorem dX4_reaching_20 : decode cX4_reaching 20 = .ok (.invokevirtual 53, 3) := by decide +kernel
theorem dX4_reaching_23 : decode cX4_reaching 23 = .ok (.invokevirtual 100, 3) := by decide +kernel
theorem dX4_reaching_26 : decode cX4_reaching 26 = .ok (.iconst 1, 1) := by decide +kernel
theorem dX4_reaching_27 : decode cX4_reaching 27 = .ok (.iload_n 1, 1) := by decide +kernel
theorem dX4_reaching_28 : decode cX4_reaching 28 = .ok (.ishl, 1) := by decide +kernel
theorem dX4_reaching_29 : decode cX4_reaching 29 = .ok (.if_icmp .ne 7, 3) := by decide +kernel
theorem dX4_reaching_32 : decode cX4_reaching 32 = .ok (.iconst 1, 1) := by decide +kernel
theorem dX4_reaching_33 : decode cX4_reaching 33 = .ok (.goto 4, 3) := by decide +kernel
theorem dX4_reaching_36 : decode cX4_reaching 36 = .ok (.iconst 0, 1) := by decide +kernel
theorem dX4_reaching_37 : decode cX4_reaching 37 = .ok (.iadd, 1) := by decide +kernel
theorem dX4_reaching_38 : decode cX4_reaching 38 = .ok (.istore_n 2, 1) := by decide +kernel
theorem dX4_reaching_39 : decode cX4_reaching 39 = .ok (.iinc 3 1, 3) := by decide +kernel
theorem dX4_reaching_42 : decode cX4_reaching 42 = .ok (.goto (-38), 3) := by decide +kernel
theorem dX4_reaching_45 : decode cX4_reaching 45 = .ok (.iload_n 2, 1) := by decide +kernel
theorem dX4_reaching_46 : decode cX4_reaching 46 = .ok (.ireturn, 1) := by decide +kernel
theorem dX4_declarationNow_0 : decode cX4_declarationNow 0 = .ok (.iload_n 2, 1) := by decide +kernel
theorem dX4_declarationNow_1 : decode cX4_declarationNow 1 = .ok (.iconst 3, 1) := by decide +kernel
theorem dX4_declarationNow_2 : decode cX4_declarationNow 2 = .ok (.if_icmp .ge 12, 3) := by decide +kernel
theorem dX4_declarationNow_5 : decode cX4_declarationNow 5 = .ok (.aload_n 0, 1) := by decide +kernel
theorem dX4_declarationNow_6 : decode cX4_declarationNow 6 = .ok (.iload_n 1, 1) := by decide +kernel
theorem dX4_declarationNow_7 : decode cX4_declarationNow 7 = .ok (.iload_n 2, 1) := by decide +kernel
theorem dX4_declarationNow_8 : decode cX4_declarationNow 8 = .ok (.invokevirtual 53, 3) := by decide +kernel
theorem dX4_declarationNow_11 : decode cX4_declarationNow 11 = .ok (.goto 34, 3) := by decide +kernel
theorem dX4_declarationNow_14 : decode cX4_declarationNow 14 = .ok (.iload_n 2, 1) := by decide +kernel
theorem dX4_declarationNow_15 : decode cX4_declarationNow 15 = .ok (.iconst 3, 1) := by decide +kernel
theorem dX4_declarationNow_16 : decode cX4_declarationNow 16 = .ok (.if_icmp .ne 11, 3) := by decide +kernel
theorem dX4_declarationNow_19 : decode cX4_declarationNow 19 = .ok (.aload_n 0, 1) := by decide +kernel
theorem dX4_declarationNow_20 : decode cX4_declarationNow 20 = .ok (.iload_n 1, 1) := by decide +kernel
theorem dX4_declarationNow_21 : decode cX4_declarationNow 21 = .ok (.invokevirtual 256, 3) := by decide +kernel
theorem dX4_declarationNow_24 : decode cX4_declarationNow 24 = .ok (.goto 21, 3) := by decide +kernel
theorem dX4_declarationNow_27 : decode cX4_declarationNow 27 = .ok (.iload_n 2, 1) := by decide +kernel
theorem dX4_declarationNow_28 : decode cX4_declarationNow 28 = .ok (.iconst 4, 1) := by decide +kernel
theorem dX4_declarationNow_29 : decode cX4_declarationNow 29 = .ok (.if_icmp .ne 11, 3) := by decide +kernel
theorem dX4_declarationNow_32 : decode cX4_declarationNow 32 = .ok (.aload_n 0, 1) := by decide +kernel
theorem dX4_declarationNow_33 : decode cX4_declarationNow 33 = .ok (.iload_n 1, 1) := by decide +kernel
theorem dX4_declarationNow_34 : decode cX4_declarationNow 34 = .ok (.invokevirtual 286, 3) := by decide +kernel
theorem dX4_declarationNow_37 : decode cX4_declarationNow 37 = .ok (.goto 8, 3) := by decide +kernel
theorem dX4_declarationNow_40 : decode cX4_declarationNow 40 = .ok (.aload_n 0, 1) := by decide +kernel
theorem dX4_declarationNow_41 : decode cX4_declarationNow 41 = .ok (.iload_n 1, 1) := by decide +kernel
theorem dX4_declarationNow_42 : decode cX4_declarationNow 42 = .ok (.invokevirtual 289, 3) := by decide +kernel
theorem dX4_declarationNow_45 : decode cX4_declarationNow 45 = .ok (.ireturn, 1) := by decide +kernel
theorem dX4_declaration_0 : decode cX4_declaration 0 = .ok (.aload_n 0, 1) := by decide +kernel
theorem dX4_declaration_1 : decode cX4_declaration 1 = .ok (.aload_n 0, 1) := by decide +kernel
theorem dX4_declaration_2 : decode cX4_declaration 2 = .ok (.iload_n 1, 1) := by decide +kernel
theorem dX4_declaration_3 : decode cX4_declaration 3 = .ok (.invokevirtual 250, 3) := by decide +kernel
theorem dX4_declaration_6 : decode cX4_declaration 6 = .ok (.ifCond .ne 7, 3) := by decide +kernel
theorem dX4_declaration_9 : decode cX4_declaration 9 = .ok (.iconst 1, 1) := by decide +kernel
theorem dX4_declaration_10 : decode cX4_declaration 10 = .ok (.goto 17, 3) := by decide +kernel
theorem dX4_declaration_13 : decode cX4_declaration 13 = .ok (.iload_n 2, 1) := by decide +kernel
theorem dX4_declaration_14 : decode cX4_declaration 14 = .ok (.iconst 0, 1) := by decide +kernel
theorem dX4_declaration_15 : decode cX4_declaration 15 = .ok (.iconst 5, 1) := by decide +kernel
theorem dX4_declaration_16 : decode cX4_declaration 16 = .ok (.invokestatic 41, 3) := by decide +kernel
theorem dX4_declaration_19 : decode cX4_declaration 19 = .ok (.ifCond .eq 7, 3) := by decide +kernel
theorem dX4_declaration_22 : decode cX4_declaration 22 = .ok (.iconst 0, 1) := by decide +kernel
theorem dX4_declaration_23 : decode cX4_declaration 23 = .ok (.goto 4, 3) := by decide +kernel
theorem dX4_declaration_26 : decode cX4_declaration 26 = .ok (.iconst 2, 1) := by decide +kernel
theorem dX4_declaration_27 : decode cX4_declaration 27 = .ok (.putfield 37, 3) := by decide +kernel
theorem dX4_declaration_30 : decode cX4_declaration 30 = .ok (.aload_n 0, 1) := by decide +kernel
theorem dX4_declaration_31 : decode cX4_declaration 31 = .ok (.getfield 37, 3) := by decide +kernel
theorem dX4_declaration_34 : decode cX4_declaration 34 = .ok (.ifCond .le 7, 3) := by decide +kernel
theorem dX4_declaration_37 : decode cX4_declaration 37 = .ok (.iconst 0, 1) := by decide +kernel
theorem dX4_declaration_38 : decode cX4_declaration 38 = .ok (.goto 9, 3) := by decide +kernel
theorem dX4_declaration_41 : decode cX4_declaration 41 = .ok (.aload_n 0, 1) := by decide +kernel
theorem dX4_declaration_42 : decode cX4_declaration 42 = .ok (.iload_n 1, 1) := by decide +kernel
theorem dX4_declaration_43 : decode cX4_declaration 43 = .ok (.iload_n 2, 1) := by decide +kernel
theorem dX4_declaration_44 : decode cX4_declaration 44 = .ok (.invokevirtual 292, 3) := by decide +kernel
theorem dX4_declaration_47 : decode cX4_declaration 47 = .ok (.ireturn, 1) := by decide +kernel
theorem dX4_importNow_0 : decode cX4_importNow 0 = .ok (.iload_n 2, 1) := by decide +kernel
theorem dX4_importNow_1 : decode cX4_importNow 1 = .ok (.bipush 6, 2) := by decide +kernel
theorem dX4_importNow_3 : decode cX4_importNow 3 = .ok (.if_icmp .ge 12, 3) := by decide +kernel
theorem dX4_importNow_6 : decode cX4_importNow 6 = .ok (.aload_n 0, 1) := by decide +kernel
theorem dX4_importNow_7 : decode cX4_importNow 7 = .ok (.iload_n 1, 1) := by decide +kernel
theorem dX4_importNow_8 : decode cX4_importNow 8 = .ok (.iload_n 2, 1) := by decide +kernel
theorem dX4_importNow_9 : decode cX4_importNow 9 = .ok (.invokevirtual 45, 3) := by decide +kernel
theorem dX4_importNow_12 : decode cX4_importNow 12 = .ok (.goto 22, 3) := by decide +kernel
theorem dX4_importNow_15 : decode cX4_importNow 15 = .ok (.iload_n 2, 1) := by decide +kernel
theorem dX4_importNow_16 : decode cX4_importNow 16 = .ok (.bipush 6, 2) := by decide +kernel
theorem dX4_importNow_18 : decode cX4_importNow 18 = .ok (.if_icmp .ne 11, 3) := by decide +kernel
theorem dX4_importNow_21 : decode cX4_importNow 21 = .ok (.aload_n 0, 1) := by decide +kernel
theorem dX4_importNow_22 : decode cX4_importNow 22 = .ok (.iload_n 1, 1) := by decide +kernel
theorem dX4_importNow_23 : decode cX4_importNow 23 = .ok (.invokevirtual 259, 3) := by decide +kernel
theorem dX4_importNow_26 : decode cX4_importNow 26 = .ok (.goto 8, 3) := by decide +kernel
theorem dX4_importNow_29 : decode cX4_importNow 29 = .ok (.aload_n 0, 1) := by decide +kernel
theorem dX4_importNow_30 : decode cX4_importNow 30 = .ok (.iload_n 1, 1) := by decide +kernel
theorem dX4_importNow_31 : decode cX4_importNow 31 = .ok (.invokevirtual 262, 3) := by decide +kernel
theorem dX4_importNow_34 : decode cX4_importNow 34 = .ok (.ireturn, 1) := by decide +kernel
theorem dX4_imported_0 : decode cX4_imported 0 = .ok (.aload_n 0, 1) := by decide +kernel
theorem dX4_imported_1 : decode cX4_imported 1 = .ok (.iload_n 1, 1) := by decide +kernel
theorem dX4_imported_2 : decode cX4_imported 2 = .ok (.iconst 0, 1) := by decide +kernel
theorem dX4_imported_3 : decode cX4_imported 3 = .ok (.aload_n 0, 1) := by decide +kernel
theorem dX4_imported_4 : decode cX4_imported 4 = .ok (.getfield 7, 3) := by decide +kernel
theorem dX4_imported_7 : decode cX4_imported 7 = .ok (.iconst 2, 1) := by decide +kernel
theorem dX4_imported_8 : decode cX4_imported 8 = .ok (.iaload, 1) := by decide +kernel
theorem dX4_imported_9 : decode cX4_imported 9 = .ok (.iconst 1, 1) := by decide +kernel
theorem dX4_imported_10 : decode cX4_imported 10 = .ok (.isub, 1) := by decide +kernel
theorem dX4_imported_11 : decode cX4_imported 11 = .ok (.invokestatic 41, 3) := by decide +kernel
theorem dX4_imported_14 : decode cX4_imported 14 = .ok (.ifCond .ne 7, 3) := by decide +kernel
theorem dX4_imported_17 : decode cX4_imported 17 = .ok (.iconst 1, 1) := by decide +kernel
theorem dX4_imported_18 : decode cX4_imported 18 = .ok (.goto 18, 3) := by decide +kernel
theorem dX4_imported_21 : decode cX4_imported 21 = .ok (.iload_n 2, 1) := by decide +kernel
theorem dX4_imported_22 : decode cX4_imported 22 = .ok (.iconst 0, 1) := by decide +kernel
theorem dX4_imported_23 : decode cX4_imported 23 = .ok (.bipush 7, 2) := by decide +kernel
theorem dX4_imported_25 : decode cX4_imported 25 = .ok (.invokestatic 41, 3) := by decide +kernel
theorem dX4_imported_28 : decode cX4_imported 28 = .ok (.ifCond .eq 7, 3) := by decide +kernel
theorem dX4_imported_31 : decode cX4_imported 31 = .ok (.iconst 0, 1) := by decide +kernel
theorem dX4_imported_32 : decode cX4_imported 32 = .ok (.goto 4, 3) := by decide +kernel
theorem dX4_imported_35 : decode cX4_imported 35 = .ok (.iconst 2, 1) := by decide +kernel
theorem dX4_imported_36 : decode cX4_imported 36 = .ok (.putfield 37, 3) := by decide +kernel
theorem dX4_imported_39 : decode cX4_imported 39 = .ok (.aload_n 0, 1) := by decide +kernel
theorem dX4_imported_40 : decode cX4_imported 40 = .ok (.getfield 37, 3) := by decide +kernel
theorem dX4_imported_43 : decode cX4_imported 43 = .ok (.ifCond .le 7, 3) := by decide +kernel
theorem dX4_imported_46 : decode cX4_imported 46 = .ok (.iconst 0, 1) := by decide +kernel
theorem dX4_imported_47 : decode cX4_imported 47 = .ok (.goto 9, 3) := by decide +kernel
theorem dX4_imported_50 : decode cX4_imported 50 = .ok (.aload_n 0, 1) := by decide +kernel
theorem dX4_imported_51 : decode cX4_imported 51 = .ok (.iload_n 1, 1) := by decide +kernel
theorem dX4_imported_52 : decode cX4_imported 52 = .ok (.iload_n 2, 1) := by decide +kernel
theorem dX4_imported_53 : decode cX4_imported 53 = .ok (.invokevirtual 295, 3) := by decide +kernel
theorem dX4_imported_56 : decode cX4_imported 56 = .ok (.ireturn, 1) := by decide +kernel
theorem dX4_useNow_0 : decode cX4_useNow 0 = .ok (.iload_n 2, 1) := by decide +kernel
theorem dX4_useNow_1 : decode cX4_useNow 1 = .ok (.iconst 2, 1) := by decide +kernel
theorem dX4_useNow_2 : decode cX4_useNow 2 = .ok (.if_icmp .ge 18, 3) := by decide +kernel
theorem dX4_useNow_5 : decode cX4_useNow 5 = .ok (.aload_n 0, 1) := by decide +kernel
theorem dX4_useNow_6 : decode cX4_useNow 6 = .ok (.getfield 7, 3) := by decide +kernel
theorem dX4_useNow_9 : decode cX4_useNow 9 = .ok (.sipush 230, 3) := by decide +kernel
theorem dX4_useNow_12 : decode cX4_useNow 12 = .ok (.iconst 2, 1) := by decide +kernel
theorem dX4_useNow_13 : decode cX4_useNow 13 = .ok (.iload_n 1, 1) := by decide +kernel
theorem dX4_useNow_14 : decode cX4_useNow 14 = .ok (.imul, 1) := by decide +kernel
theorem dX4_useNow_15 : decode cX4_useNow 15 = .ok (.iadd, 1) := by decide +kernel
theorem dX4_useNow_16 : decode cX4_useNow 16 = .ok (.iload_n 2, 1) := by decide +kernel
theorem dX4_useNow_17 : decode cX4_useNow 17 = .ok (.iadd, 1) := by decide +kernel
theorem dX4_useNow_18 : decode cX4_useNow 18 = .ok (.iaload, 1) := by decide +kernel
theorem dX4_useNow_19 : decode cX4_useNow 19 = .ok (.ireturn, 1) := by decide +kernel
theorem dX4_useNow_20 : decode cX4_useNow 20 = .ok (.aload_n 0, 1) := by decide +kernel
theorem dX4_useNow_21 : decode cX4_useNow 21 = .ok (.iload_n 1, 1) := by decide +kernel
theorem dX4_useNow_22 : decode cX4_useNow 22 = .ok (.invokevirtual 118, 3) := by decide +kernel
theorem dX4_useNow_25 : decode cX4_useNow 25 = .ok (.istore_n 3, 1) := by decide +kernel
theorem dX4_useNow_26 : decode cX4_useNow 26 = .ok (.iload_n 2, 1) := by decide +kernel
theorem dX4_useNow_27 : decode cX4_useNow 27 = .ok (.iconst 2, 1) := by decide +kernel
theorem dX4_useNow_28 : decode cX4_useNow 28 = .ok (.if_icmp .ne 10, 3) := by decide +kernel
theorem dX4_useNow_31 : decode cX4_useNow 31 = .ok (.iload_n 3, 1) := by decide +kernel
theorem dX4_useNow_32 : decode cX4_useNow 32 = .ok (.invokestatic 227, 3) := by decide +kernel
theorem dX4_useNow_35 : decode cX4_useNow 35 = .ok (.goto 31, 3) := by decide +kernel
theorem dX4_useNow_38 : decode cX4_useNow 38 = .ok (.iload_n 3, 1) := by decide +kernel
theorem dX4_useNow_39 : decode cX4_useNow 39 = .ok (.invokestatic 87, 3) := by decide +kernel
theorem dX4_useNow_42 : decode cX4_useNow 42 = .ok (.iconst 1, 1) := by decide +kernel
theorem dX4_useNow_43 : decode cX4_useNow 43 = .ok (.if_icmp .ne 7, 3) := by decide +kernel
theorem dX4_useNow_46 : decode cX4_useNow 46 = .ok (.iconst 0, 1) := by decide +kernel
theorem dX4_useNow_47 : decode cX4_useNow 47 = .ok (.goto 19, 3) := by decide +kernel
theorem dX4_useNow_50 : decode cX4_useNow 50 = .ok (.iload_n 3, 1) := by decide +kernel
theorem dX4_useNow_51 : decode cX4_useNow 51 = .ok (.ifCond .ne 7, 3) := by decide +kernel
theorem dX4_useNow_54 : decode cX4_useNow 54 = .ok (.iconst 1, 1) := by decide +kernel
theorem dX4_useNow_55 : decode cX4_useNow 55 = .ok (.goto 11, 3) := by decide +kernel
theorem dX4_useNow_58 : decode cX4_useNow 58 = .ok (.aload_n 0, 1) := by decide +kernel
theorem dX4_useNow_59 : decode cX4_useNow 59 = .ok (.getfield 25, 3) := by decide +kernel
theorem dX4_useNow_62 : decode cX4_useNow 62 = .ok (.iconst 0, 1) := by decide +kernel
theorem dX4_useNow_63 : decode cX4_useNow 63 = .ok (.iaload, 1) := by decide +kernel
theorem dX4_useNow_64 : decode cX4_useNow 64 = .ok (.iconst 1, 1) := by decide +kernel
theorem dX4_useNow_65 : decode cX4_useNow 65 = .ok (.iadd, 1) := by decide +kernel
theorem dX4_useNow_66 : decode cX4_useNow 66 = .ok (.ireturn, 1) := by decide +kernel
theorem dX4_used_0 : decode cX4_used 0 = .ok (.aload_n 0, 1) := by decide +kernel
theorem dX4_used_1 : decode cX4_used 1 = .ok (.iload_n 1, 1) := by decide +kernel
theorem dX4_used_2 : decode cX4_used 2 = .ok (.iconst 0, 1) := by decide +kernel
theorem dX4_used_3 : decode cX4_used 3 = .ok (.aload_n 0, 1) := by decide +kernel
theorem dX4_used_4 : decode cX4_used 4 = .ok (.getfield 7, 3) := by decide +kernel
theorem dX4_used_7 : decode cX4_used 7 = .ok (.iconst 3, 1) := by decide +kernel
theorem dX4_used_8 : decode cX4_used 8 = .ok (.iaload, 1) := by decide +kernel
theorem dX4_used_9 : decode cX4_used 9 = .ok (.iconst 1, 1) := by decide +kernel
theorem dX4_used_10 : decode cX4_used 10 = .ok (.isub, 1) := by decide +kernel
theorem dX4_used_11 : decode cX4_used 11 = .ok (.invokestatic 41, 3) := by decide +kernel
theorem dX4_used_14 : decode cX4_used 14 = .ok (.ifCond .ne 7, 3) := by decide +kernel
theorem dX4_used_17 : decode cX4_used 17 = .ok (.iconst 1, 1) := by decide +kernel
theorem dX4_used_18 : decode cX4_used 18 = .ok (.goto 17, 3) := by decide +kernel
theorem dX4_used_21 : decode cX4_used 21 = .ok (.iload_n 2, 1) := by decide +kernel
theorem dX4_used_22 : decode cX4_used 22 = .ok (.iconst 0, 1) := by decide +kernel
theorem dX4_used_23 : decode cX4_used 23 = .ok (.iconst 3, 1) := by decide +kernel
theorem dX4_used_24 : decode cX4_used 24 = .ok (.invokestatic 41, 3) := by decide +kernel
theorem dX4_used_27 : decode cX4_used 27 = .ok (.ifCond .eq 7, 3) := by decide +kernel
theorem dX4_used_30 : decode cX4_used 30 = .ok (.iconst 0, 1) := by decide +kernel
theorem dX4_used_31 : decode cX4_used 31 = .ok (.goto 4, 3) := by decide +kernel
theorem dX4_used_34 : decode cX4_used 34 = .ok (.iconst 2, 1) := by decide +kernel
theorem dX4_used_35 : decode cX4_used 35 = .ok (.putfield 37, 3) := by decide +kernel
theorem dX4_used_38 : decode cX4_used 38 = .ok (.aload_n 0, 1) := by decide +kernel
theorem dX4_used_39 : decode cX4_used 39 = .ok (.getfield 37, 3) := by decide +kernel
theorem dX4_used_42 : decode cX4_used 42 = .ok (.ifCond .le 7, 3) := by decide +kernel
theorem dX4_used_45 : decode cX4_used 45 = .ok (.iconst 0, 1) := by decide +kernel
theorem dX4_used_46 : decode cX4_used 46 = .ok (.goto 9, 3) := by decide +kernel
theorem dX4_used_49 : decode cX4_used 49 = .ok (.aload_n 0, 1) := by decide +kernel
theorem dX4_used_50 : decode cX4_used 50 = .ok (.iload_n 1, 1) := by decide +kernel
theorem dX4_used_51 : decode cX4_used 51 = .ok (.iload_n 2, 1) := by decide +kernel
theorem dX4_used_52 : decode cX4_used 52 = .ok (.invokevirtual 298, 3) := by decide +kernel
theorem dX4_used_55 : decode cX4_used 55 = .ok (.ireturn, 1) := by decide +kernel
theorem dX4_parent_0 : decode cX4_parent 0 = .ok (.aload_n 0, 1) := by decide +kernel
theorem dX4_parent_1 : decode cX4_parent 1 = .ok (.aload_n 0, 1) := by decide +kernel
theorem dX4_parent_2 : decode cX4_parent 2 = .ok (.iload_n 1, 1) := by decide +kernel
theorem dX4_parent_3 : decode cX4_parent 3 = .ok (.invokevirtual 103, 3) := by decide +kernel
theorem dX4_parent_6 : decode cX4_parent 6 = .ok (.ifCond .eq 7, 3) := by decide +kernel
theorem dX4_parent_9 : decode cX4_parent 9 = .ok (.iconst 0, 1) := by decide +kernel
theorem dX4_parent_10 : decode cX4_parent 10 = .ok (.goto 4, 3) := by decide +kernel
theorem dX4_parent_13 : decode cX4_parent 13 = .ok (.iconst 1, 1) := by decide +kernel
theorem dX4_parent_14 : decode cX4_parent 14 = .ok (.putfield 37, 3) := by decide +kernel
theorem dX4_parent_17 : decode cX4_parent 17 = .ok (.aload_n 0, 1) := by decide +kernel
theorem dX4_parent_18 : decode cX4_parent 18 = .ok (.getfield 37, 3) := by decide +kernel
theorem dX4_parent_21 : decode cX4_parent 21 = .ok (.ifCond .le 7, 3) := by decide +kernel
theorem dX4_parent_24 : decode cX4_parent 24 = .ok (.iconst 0, 1) := by decide +kernel
theorem dX4_parent_25 : decode cX4_parent 25 = .ok (.goto 11, 3) := by decide +kernel
theorem dX4_parent_28 : decode cX4_parent 28 = .ok (.aload_n 0, 1) := by decide +kernel
theorem dX4_parent_29 : decode cX4_parent 29 = .ok (.getfield 7, 3) := by decide +kernel
theorem dX4_parent_32 : decode cX4_parent 32 = .ok (.iconst 4, 1) := by decide +kernel
theorem dX4_parent_33 : decode cX4_parent 33 = .ok (.iload_n 1, 1) := by decide +kernel
theorem dX4_parent_34 : decode cX4_parent 34 = .ok (.iadd, 1) := by decide +kernel
theorem dX4_parent_35 : decode cX4_parent 35 = .ok (.iaload, 1) := by decide +kernel
theorem dX4_parent_36 : decode cX4_parent 36 = .ok (.ireturn, 1) := by decide +kernel
theorem dX4_resolvedShare_0 : decode cX4_resolvedShare 0 = .ok (.aload_n 0, 1) := by decide +kernel
theorem dX4_resolvedShare_1 : decode cX4_resolvedShare 1 = .ok (.iconst 0, 1) := by decide +kernel
theorem dX4_resolvedShare_2 : decode cX4_resolvedShare 2 = .ok (.putfield 37, 3) := by decide +kernel
theorem dX4_resolvedShare_5 : decode cX4_resolvedShare 5 = .ok (.aload_n 0, 1) := by decide +kernel
theorem dX4_resolvedShare_6 : decode cX4_resolvedShare 6 = .ok (.getfield 7, 3) := by decide +kernel
theorem dX4_resolvedShare_9 : decode cX4_resolvedShare 9 = .ok (.iconst 3, 1) := by decide +kernel
theorem dX4_resolvedShare_10 : decode cX4_resolvedShare 10 = .ok (.iaload, 1) := by decide +kernel
theorem dX4_resolvedShare_11 : decode cX4_resolvedShare 11 = .ok (.ifCond .ne 7, 3) := by decide +kernel
theorem dX4_resolvedShare_14 : decode cX4_resolvedShare 14 = .ok (.dconst 1, 1) := by decide +kernel
theorem dX4_resolvedShare_15 : decode cX4_resolvedShare 15 = .ok (.goto 20, 3) := by decide +kernel
theorem dX4_resolvedShare_18 : decode cX4_resolvedShare 18 = .ok (.dconst 1, 1) := by decide +kernel
theorem dX4_resolvedShare_19 : decode cX4_resolvedShare 19 = .ok (.aload_n 0, 1) := by decide +kernel
theorem dX4_resolvedShare_20 : decode cX4_resolvedShare 20 = .ok (.iconst 1, 1) := by decide +kernel
theorem dX4_resolvedShare_21 : decode cX4_resolvedShare 21 = .ok (.iconst 1, 1) := by decide +kernel
theorem dX4_resolvedShare_22 : decode cX4_resolvedShare 22 = .ok (.invokevirtual 268, 3) := by decide +kernel
theorem dX4_resolvedShare_25 : decode cX4_resolvedShare 25 = .ok (.i2d, 1) := by decide +kernel
theorem dX4_resolvedShare_26 : decode cX4_resolvedShare 26 = .ok (.dmul, 1) := by decide +kernel
theorem dX4_resolvedShare_27 : decode cX4_resolvedShare 27 = .ok (.aload_n 0, 1) := by decide +kernel
theorem dX4_resolvedShare_28 : decode cX4_resolvedShare 28 = .ok (.getfield 7, 3) := by decide +kernel
theorem dX4_resolvedShare_31 : decode cX4_resolvedShare 31 = .ok (.iconst 3, 1) := by decide +kernel
theorem dX4_resolvedShare_32 : decode cX4_resolvedShare 32 = .ok (.iaload, 1) := by decide +kernel
theorem dX4_resolvedShare_33 : decode cX4_resolvedShare 33 = .ok (.i2d, 1) := by decide +kernel
theorem dX4_resolvedShare_34 : decode cX4_resolvedShare 34 = .ok (.ddiv, 1) := by decide +kernel
theorem dX4_resolvedShare_35 : decode cX4_resolvedShare 35 = .ok (.dreturn, 1) := by decide +kernel
theorem dX4_mix_0 : decode cX4_mix 0 = .ok (.aload_n 0, 1) := by decide +kernel
theorem dX4_mix_1 : decode cX4_mix 1 = .ok (.ldc2_w 301, 3) := by decide +kernel
theorem dX4_mix_4 : decode cX4_mix 4 = .ok (.aload_n 0, 1) := by decide +kernel
theorem dX4_mix_5 : decode cX4_mix 5 = .ok (.getfield 303, 3) := by decide +kernel
theorem dX4_mix_8 : decode cX4_mix 8 = .ok (.lmul, 1) := by decide +kernel
theorem dX4_mix_9 : decode cX4_mix 9 = .ok (.lload_n 1, 1) := by decide +kernel
theorem dX4_mix_10 : decode cX4_mix 10 = .ok (.ladd, 1) := by decide +kernel
theorem dX4_mix_11 : decode cX4_mix 11 = .ok (.putfield 303, 3) := by decide +kernel
theorem dX4_mix_14 : decode cX4_mix 14 = .ok (.return_, 1) := by decide +kernel
theorem dX4_mixParts_0 : decode cX4_mixParts 0 = .ok (.iconst 0, 1) := by decide +kernel
theorem dX4_mixParts_1 : decode cX4_mixParts 1 = .ok (.istore_n 1, 1) := by decide +kernel
theorem dX4_mixParts_2 : decode cX4_mixParts 2 = .ok (.iload_n 1, 1) := by decide +kernel
theorem dX4_mixParts_3 : decode cX4_mixParts 3 = .ok (.bipush 6, 2) := by decide +kernel
theorem dX4_mixParts_5 : decode cX4_mixParts 5 = .ok (.aload_n 0, 1) := by decide +kernel
theorem dX4_mixParts_6 : decode cX4_mixParts 6 = .ok (.getfield 7, 3) := by decide +kernel
theorem dX4_mixParts_9 : decode cX4_mixParts 9 = .ok (.iconst 1, 1) := by decide +kernel
theorem dX4_mixParts_10 : decode cX4_mixParts 10 = .ok (.iaload, 1) := by decide +kernel
theorem dX4_mixParts_11 : decode cX4_mixParts 11 = .ok (.imul, 1) := by decide +kernel
theorem dX4_mixParts_12 : decode cX4_mixParts 12 = .ok (.if_icmp .ge 26, 3) := by decide +kernel
theorem dX4_mixParts_15 : decode cX4_mixParts 15 = .ok (.aload_n 0, 1) := by decide +kernel
theorem dX4_mixParts_16 : decode cX4_mixParts 16 = .ok (.aload_n 0, 1) := by decide +kernel
theorem dX4_mixParts_17 : decode cX4_mixParts 17 = .ok (.iload_n 1, 1) := by decide +kernel
theorem dX4_mixParts_18 : decode cX4_mixParts 18 = .ok (.bipush 6, 2) := by decide +kernel
theorem dX4_mixParts_20 : decode cX4_mixParts 20 = .ok (.idiv, 1) := by decide +kernel
theorem dX4_mixParts_21 : decode cX4_mixParts 21 = .ok (.iload_n 1, 1) := by decide +kernel
theorem dX4_mixParts_22 : decode cX4_mixParts 22 = .ok (.bipush 6, 2) := by decide +kernel
theorem dX4_mixParts_24 : decode cX4_mixParts 24 = .ok (.irem, 1) := by decide +kernel
theorem dX4_mixParts_25 : decode cX4_mixParts 25 = .ok (.invokevirtual 292, 3) := by decide +kernel
theorem dX4_mixParts_28 : decode cX4_mixParts 28 = .ok (.i2l, 1) := by decide +kernel
theorem dX4_mixParts_29 : decode cX4_mixParts 29 = .ok (.invokevirtual 307, 3) := by decide +kernel
theorem dX4_mixParts_32 : decode cX4_mixParts 32 = .ok (.iinc 1 1, 3) := by decide +kernel
theorem dX4_mixParts_35 : decode cX4_mixParts 35 = .ok (.goto (-33), 3) := by decide +kernel
theorem dX4_mixParts_38 : decode cX4_mixParts 38 = .ok (.iconst 0, 1) := by decide +kernel
theorem dX4_mixParts_39 : decode cX4_mixParts 39 = .ok (.istore_n 1, 1) := by decide +kernel
theorem dX4_mixParts_40 : decode cX4_mixParts 40 = .ok (.iload_n 1, 1) := by decide +kernel
theorem dX4_mixParts_41 : decode cX4_mixParts 41 = .ok (.bipush 8, 2) := by decide +kernel
theorem dX4_mixParts_43 : decode cX4_mixParts 43 = .ok (.aload_n 0, 1) := by decide +kernel
theorem dX4_mixParts_44 : decode cX4_mixParts 44 = .ok (.getfield 7, 3) := by decide +kernel
theorem dX4_mixParts_47 : decode cX4_mixParts 47 = .ok (.iconst 2, 1) := by decide +kernel
theorem dX4_mixParts_48 : decode cX4_mixParts 48 = .ok (.iaload, 1) := by decide +kernel
theorem dX4_mixParts_49 : decode cX4_mixParts 49 = .ok (.imul, 1) := by decide +kernel
theorem dX4_mixParts_50 : decode cX4_mixParts 50 = .ok (.if_icmp .ge 26, 3) := by decide +kernel
theorem dX4_mixParts_53 : decode cX4_mixParts 53 = .ok (.aload_n 0, 1) := by decide +kernel
theorem dX4_mixParts_54 : decode cX4_mixParts 54 = .ok (.aload_n 0, 1) := by decide +kernel
theorem dX4_mixParts_55 : decode cX4_mixParts 55 = .ok (.iload_n 1, 1) := by decide +kernel
theorem dX4_mixParts_56 : decode cX4_mixParts 56 = .ok (.bipush 8, 2) := by decide +kernel
theorem dX4_mixParts_58 : decode cX4_mixParts 58 = .ok (.idiv, 1) := by decide +kernel
theorem dX4_mixParts_59 : decode cX4_mixParts 59 = .ok (.iload_n 1, 1) := by decide +kernel
theorem dX4_mixParts_60 : decode cX4_mixParts 60 = .ok (.bipush 8, 2) := by decide +kernel
theorem dX4_mixParts_62 : decode cX4_mixParts 62 = .ok (.irem, 1) := by decide +kernel
theorem dX4_mixParts_63 : decode cX4_mixParts 63 = .ok (.invokevirtual 295, 3) := by decide +kernel
theorem dX4_mixParts_66 : decode cX4_mixParts 66 = .ok (.i2l, 1) := by decide +kernel
theorem dX4_mixParts_67 : decode cX4_mixParts 67 = .ok (.invokevirtual 307, 3) := by decide +kernel
theorem dX4_mixParts_70 : decode cX4_mixParts 70 = .ok (.iinc 1 1, 3) := by decide +kernel
theorem dX4_mixParts_73 : decode cX4_mixParts 73 = .ok (.goto (-33), 3) := by decide +kernel
theorem dX4_mixParts_76 : decode cX4_mixParts 76 = .ok (.iconst 0, 1) := by decide +kernel
theorem dX4_mixParts_77 : decode cX4_mixParts 77 = .ok (.istore_n 1, 1) := by decide +kernel
theorem dX4_mixParts_78 : decode cX4_mixParts 78 = .ok (.iload_n 1, 1) := by decide +kernel
theorem dX4_mixParts_79 : decode cX4_mixParts 79 = .ok (.iconst 4, 1) := by decide +kernel
theorem dX4_mixParts_80 : decode cX4_mixParts 80 = .ok (.aload_n 0, 1) := by decide +kernel
theorem dX4_mixParts_81 : decode cX4_mixParts 81 = .ok (.getfield 7, 3) := by decide +kernel
theorem dX4_mixParts_84 : decode cX4_mixParts 84 = .ok (.iconst 3, 1) := by decide +kernel
theorem dX4_mixParts_85 : decode cX4_mixParts 85 = .ok (.iaload, 1) := by decide +kernel
theorem dX4_mixParts_86 : decode cX4_mixParts 86 = .ok (.imul, 1) := by decide +kernel
theorem dX4_mixParts_87 : decode cX4_mixParts 87 = .ok (.if_icmp .ge 24, 3) := by decide +kernel
theorem dX4_mixParts_90 : decode cX4_mixParts 90 = .ok (.aload_n 0, 1) := by decide +kernel
theorem dX4_mixParts_91 : decode cX4_mixParts 91 = .ok (.aload_n 0, 1) := by decide +kernel
theorem dX4_mixParts_92 : decode cX4_mixParts 92 = .ok (.iload_n 1, 1) := by decide +kernel
theorem dX4_mixParts_93 : decode cX4_mixParts 93 = .ok (.iconst 4, 1) := by decide +kernel
theorem dX4_mixParts_94 : decode cX4_mixParts 94 = .ok (.idiv, 1) := by decide +kernel
theorem dX4_mixParts_95 : decode cX4_mixParts 95 = .ok (.iload_n 1, 1) := by decide +kernel
theorem dX4_mixParts_96 : decode cX4_mixParts 96 = .ok (.iconst 4, 1) := by decide +kernel
theorem dX4_mixParts_97 : decode cX4_mixParts 97 = .ok (.irem, 1) := by decide +kernel
theorem dX4_mixParts_98 : decode cX4_mixParts 98 = .ok (.invokevirtual 298, 3) := by decide +kernel
theorem dX4_mixParts_101 : decode cX4_mixParts 101 = .ok (.i2l, 1) := by decide +kernel
theorem dX4_mixParts_102 : decode cX4_mixParts 102 = .ok (.invokevirtual 307, 3) := by decide +kernel
theorem dX4_mixParts_105 : decode cX4_mixParts 105 = .ok (.iinc 1 1, 3) := by decide +kernel
theorem dX4_mixParts_108 : decode cX4_mixParts 108 = .ok (.goto (-30), 3) := by decide +kernel
theorem dX4_mixParts_111 : decode cX4_mixParts 111 = .ok (.return_, 1) := by decide +kernel
theorem dX4_digest_0 : decode cX4_digest 0 = .ok (.aload_n 0, 1) := by decide +kernel
theorem dX4_digest_1 : decode cX4_digest 1 = .ok (.iconst 0, 1) := by decide +kernel
theorem dX4_digest_2 : decode cX4_digest 2 = .ok (.putfield 37, 3) := by decide +kernel
theorem dX4_digest_5 : decode cX4_digest 5 = .ok (.aload_n 0, 1) := by decide +kernel
theorem dX4_digest_6 : decode cX4_digest 6 = .ok (.ldc2_w 311, 3) := by decide +kernel
theorem dX4_digest_9 : decode cX4_digest 9 = .ok (.putfield 303, 3) := by decide +kernel
theorem dX4_digest_12 : decode cX4_digest 12 = .ok (.iconst 0, 1) := by decide +kernel
theorem dX4_digest_13 : decode cX4_digest 13 = .ok (.istore_n 1, 1) := by decide +kernel
theorem dX4_digest_14 : decode cX4_digest 14 = .ok (.iload_n 1, 1) := by decide +kernel
theorem dX4_digest_15 : decode cX4_digest 15 = .ok (.bipush 11, 2) := by decide +kernel
theorem dX4_digest_17 : decode cX4_digest 17 = .ok (.if_icmp .ge 19, 3) := by decide +kernel
theorem dX4_digest_20 : decode cX4_digest 20 = .ok (.aload_n 0, 1) := by decide +kernel
theorem dX4_digest_21 : decode cX4_digest 21 = .ok (.aload_n 0, 1) := by decide +kernel
theorem dX4_digest_22 : decode cX4_digest 22 = .ok (.iload_n 1, 1) := by decide +kernel
theorem dX4_digest_23 : decode cX4_digest 23 = .ok (.invokevirtual 283, 3) := by decide +kernel
theorem dX4_digest_26 : decode cX4_digest 26 = .ok (.i2l, 1) := by decide +kernel
theorem dX4_digest_27 : decode cX4_digest 27 = .ok (.invokevirtual 307, 3) := by decide +kernel
theorem dX4_digest_30 : decode cX4_digest 30 = .ok (.iinc 1 1, 3) := by decide +kernel
theorem dX4_digest_33 : decode cX4_digest 33 = .ok (.goto (-19), 3) := by decide +kernel
theorem dX4_digest_36 : decode cX4_digest 36 = .ok (.iconst 0, 1) := by decide +kernel
theorem dX4_digest_37 : decode cX4_digest 37 = .ok (.istore_n 1, 1) := by decide +kernel
theorem dX4_digest_38 : decode cX4_digest 38 = .ok (.iload_n 1, 1) := by decide +kernel
theorem dX4_digest_39 : decode cX4_digest 39 = .ok (.aload_n 0, 1) := by decide +kernel
theorem dX4_digest_40 : decode cX4_digest 40 = .ok (.getfield 7, 3) := by decide +kernel
theorem dX4_digest_43 : decode cX4_digest 43 = .ok (.iconst 0, 1) := by decide +kernel
theorem dX4_digest_44 : decode cX4_digest 44 = .ok (.iaload, 1) := by decide +kernel
theorem dX4_digest_45 : decode cX4_digest 45 = .ok (.if_icmp .ge 44, 3) := by decide +kernel
theorem dX4_digest_48 : decode cX4_digest 48 = .ok (.aload_n 0, 1) := by decide +kernel
theorem dX4_digest_49 : decode cX4_digest 49 = .ok (.aload_n 0, 1) := by decide +kernel
theorem dX4_digest_50 : decode cX4_digest 50 = .ok (.getfield 7, 3) := by decide +kernel
theorem dX4_digest_53 : decode cX4_digest 53 = .ok (.iconst 4, 1) := by decide +kernel
theorem dX4_digest_54 : decode cX4_digest 54 = .ok (.iload_n 1, 1) := by decide +kernel
theorem dX4_digest_55 : decode cX4_digest 55 = .ok (.iadd, 1) := by decide +kernel
theorem dX4_digest_56 : decode cX4_digest 56 = .ok (.iaload, 1) := by decide +kernel
theorem dX4_digest_57 : decode cX4_digest 57 = .ok (.i2l, 1) := by decide +kernel
theorem dX4_digest_58 : decode cX4_digest 58 = .ok (.invokevirtual 307, 3) := by decide +kernel
theorem dX4_digest_61 : decode cX4_digest 61 = .ok (.aload_n 0, 1) := by decide +kernel
theorem dX4_digest_62 : decode cX4_digest 62 = .ok (.aload_n 0, 1) := by decide +kernel
theorem dX4_digest_63 : decode cX4_digest 63 = .ok (.iload_n 1, 1) := by decide +kernel
theorem dX4_digest_64 : decode cX4_digest 64 = .ok (.iconst 0, 1) := by decide +kernel
theorem dX4_digest_65 : decode cX4_digest 65 = .ok (.invokevirtual 237, 3) := by decide +kernel
theorem dX4_digest_68 : decode cX4_digest 68 = .ok (.i2l, 1) := by decide +kernel
theorem dX4_digest_69 : decode cX4_digest 69 = .ok (.invokevirtual 307, 3) := by decide +kernel
theorem dX4_digest_72 : decode cX4_digest 72 = .ok (.aload_n 0, 1) := by decide +kernel
theorem dX4_digest_73 : decode cX4_digest 73 = .ok (.aload_n 0, 1) := by decide +kernel
theorem dX4_digest_74 : decode cX4_digest 74 = .ok (.iload_n 1, 1) := by decide +kernel
theorem dX4_digest_75 : decode cX4_digest 75 = .ok (.iconst 1, 1) := by decide +kernel
theorem dX4_digest_76 : decode cX4_digest 76 = .ok (.invokevirtual 237, 3) := by decide +kernel
theorem dX4_digest_79 : decode cX4_digest 79 = .ok (.i2l, 1) := by decide +kernel
theorem dX4_digest_80 : decode cX4_digest 80 = .ok (.invokevirtual 307, 3) := by decide +kernel
theorem dX4_digest_83 : decode cX4_digest 83 = .ok (.iinc 1 1, 3) := by decide +kernel
theorem dX4_digest_86 : decode cX4_digest 86 = .ok (.goto (-48), 3) := by decide +kernel
theorem dX4_digest_89 : decode cX4_digest 89 = .ok (.aload_n 0, 1) := by decide +kernel
theorem dX4_digest_90 : decode cX4_digest 90 = .ok (.invokevirtual 313, 3) := by decide +kernel
theorem dX4_digest_93 : decode cX4_digest 93 = .ok (.aload_n 0, 1) := by decide +kernel
theorem dX4_digest_94 : decode cX4_digest 94 = .ok (.aload_n 0, 1) := by decide +kernel
theorem dX4_digest_95 : decode cX4_digest 95 = .ok (.getfield 138, 3) := by decide +kernel
theorem dX4_digest_98 : decode cX4_digest 98 = .ok (.i2l, 1) := by decide +kernel
theorem dX4_digest_99 : decode cX4_digest 99 = .ok (.invokevirtual 307, 3) := by decide +kernel
theorem dX4_digest_102 : decode cX4_digest 102 = .ok (.iconst 0, 1) := by decide +kernel
theorem dX4_digest_103 : decode cX4_digest 103 = .ok (.istore_n 1, 1) := by decide +kernel
theorem dX4_digest_104 : decode cX4_digest 104 = .ok (.iload_n 1, 1) := by decide +kernel
theorem dX4_digest_105 : decode cX4_digest 105 = .ok (.aload_n 0, 1) := by decide +kernel
theorem dX4_digest_106 : decode cX4_digest 106 = .ok (.getfield 138, 3) := by decide +kernel
theorem dX4_digest_109 : decode cX4_digest 109 = .ok (.if_icmp .ge 20, 3) := by decide +kernel
theorem dX4_digest_112 : decode cX4_digest 112 = .ok (.aload_n 0, 1) := by decide +kernel
theorem dX4_digest_113 : decode cX4_digest 113 = .ok (.aload_n 0, 1) := by decide +kernel
theorem dX4_digest_114 : decode cX4_digest 114 = .ok (.getfield 19, 3) := by decide +kernel
theorem dX4_digest_117 : decode cX4_digest 117 = .ok (.iload_n 1, 1) := by decide +kernel
theorem dX4_digest_118 : decode cX4_digest 118 = .ok (.iaload, 1) := by decide +kernel
theorem dX4_digest_119 : decode cX4_digest 119 = .ok (.i2l, 1) := by decide +kernel
theorem dX4_digest_120 : decode cX4_digest 120 = .ok (.invokevirtual 307, 3) := by decide +kernel
theorem dX4_digest_123 : decode cX4_digest 123 = .ok (.iinc 1 1, 3) := by decide +kernel
theorem dX4_digest_126 : decode cX4_digest 126 = .ok (.goto (-22), 3) := by decide +kernel
theorem dX4_digest_129 : decode cX4_digest 129 = .ok (.aload_n 0, 1) := by decide +kernel
theorem dX4_digest_130 : decode cX4_digest 130 = .ok (.getfield 303, 3) := by decide +kernel
theorem dX4_digest_133 : decode cX4_digest 133 = .ok (.lreturn, 1) := by decide +kernel
