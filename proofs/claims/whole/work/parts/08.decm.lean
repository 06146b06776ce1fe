theorem dX10_init_0 : decode cX10_init 0 = .ok (.aload_n 0, 1) := by decide +kernel
theorem dX10_init_1 : decode cX10_init 1 = .ok (.invokespecial 1, 3) := by decide +kernel
theorem dX10_init_4 : decode cX10_init 4 = .ok (.aload_n 0, 1) := by decide +kernel
theorem dX10_init_5 : decode cX10_init 5 = .ok (.bipush 40, 2) := by decide +kernel
theorem dX10_init_7 : decode cX10_init 7 = .ok (.newarray .int, 2) := by decide +kernel
theorem dX10_init_9 : decode cX10_init 9 = .ok (.putfield 7, 3) := by decide +kernel
theorem dX10_init_12 : decode cX10_init 12 = .ok (.aload_n 0, 1) := by decide +kernel
theorem dX10_init_13 : decode cX10_init 13 = .ok (.bipush 12, 2) := by decide +kernel
theorem dX10_init_15 : decode cX10_init 15 = .ok (.newarray .int, 2) := by decide +kernel
theorem dX10_init_17 : decode cX10_init 17 = .ok (.putfield 13, 3) := by decide +kernel
theorem dX10_init_20 : decode cX10_init 20 = .ok (.aload_n 0, 1) := by decide +kernel
theorem dX10_init_21 : decode cX10_init 21 = .ok (.bipush 24, 2) := by decide +kernel
theorem dX10_init_23 : decode cX10_init 23 = .ok (.newarray .int, 2) := by decide +kernel
theorem dX10_init_25 : decode cX10_init 25 = .ok (.putfield 16, 3) := by decide +kernel
theorem dX10_init_28 : decode cX10_init 28 = .ok (.aload_n 0, 1) := by decide +kernel
theorem dX10_init_29 : decode cX10_init 29 = .ok (.bipush 16, 2) := by decide +kernel
theorem dX10_init_31 : decode cX10_init 31 = .ok (.newarray .int, 2) := by decide +kernel
theorem dX10_init_33 : decode cX10_init 33 = .ok (.putfield 19, 3) := by decide +kernel
theorem dX10_init_36 : decode cX10_init 36 = .ok (.aload_n 0, 1) := by decide +kernel
theorem dX10_init_37 : decode cX10_init 37 = .ok (.bipush 8, 2) := by decide +kernel
theorem dX10_init_39 : decode cX10_init 39 = .ok (.newarray .int, 2) := by decide +kernel
theorem dX10_init_41 : decode cX10_init 41 = .ok (.putfield 22, 3) := by decide +kernel
theorem dX10_init_44 : decode cX10_init 44 = .ok (.aload_n 0, 1) := by decide +kernel
theorem dX10_init_45 : decode cX10_init 45 = .ok (.bipush 16, 2) := by decide +kernel
theorem dX10_init_47 : decode cX10_init 47 = .ok (.newarray .int, 2) := by decide +kernel
theorem dX10_init_49 : decode cX10_init 49 = .ok (.putfield 25, 3) := by decide +kernel
theorem dX10_init_52 : decode cX10_init 52 = .ok (.aload_n 0, 1) := by decide +kernel
theorem dX10_init_53 : decode cX10_init 53 = .ok (.bipush 12, 2) := by decide +kernel
theorem dX10_init_55 : decode cX10_init 55 = .ok (.newarray .int, 2) := by decide +kernel
theorem dX10_init_57 : decode cX10_init 57 = .ok (.putfield 28, 3) := by decide +kernel
theorem dX10_init_60 : decode cX10_init 60 = .ok (.aload_n 0, 1) := by decide +kernel
theorem dX10_init_61 : decode cX10_init 61 = .ok (.bipush 12, 2) := by decide +kernel
theorem dX10_init_63 : decode cX10_init 63 = .ok (.newarray .int, 2) := by decide +kernel
theorem dX10_init_65 : decode cX10_init 65 = .ok (.putfield 31, 3) := by decide +kernel
theorem dX10_init_68 : decode cX10_init 68 = .ok (.aload_n 0, 1) := by decide +kernel
theorem dX10_init_69 : decode cX10_init 69 = .ok (.bipush 12, 2) := by decide +kernel
theorem dX10_init_71 : decode cX10_init 71 = .ok (.newarray .int, 2) := by decide +kernel
theorem dX10_init_73 : decode cX10_init 73 = .ok (.putfield 34, 3) := by decide +kernel
theorem dX10_init_76 : decode cX10_init 76 = .ok (.aload_n 0, 1) := by decide +kernel
theorem dX10_init_77 : decode cX10_init 77 = .ok (.bipush 12, 2) := by decide +kernel
theorem dX10_init_79 : decode cX10_init 79 = .ok (.newarray .int, 2) := by decide +kernel
theorem dX10_init_81 : decode cX10_init 81 = .ok (.putfield 37, 3) := by decide +kernel
theorem dX10_init_84 : decode cX10_init 84 = .ok (.aload_n 0, 1) := by decide +kernel
theorem dX10_init_85 : decode cX10_init 85 = .ok (.bipush 12, 2) := by decide +kernel
theorem dX10_init_87 : decode cX10_init 87 = .ok (.newarray .int, 2) := by decide +kernel
theorem dX10_init_89 : decode cX10_init 89 = .ok (.putfield 40, 3) := by decide +kernel
theorem dX10_init_92 : decode cX10_init 92 = .ok (.aload_n 0, 1) := by decide +kernel
theorem dX10_init_93 : decode cX10_init 93 = .ok (.bipush 40, 2) := by decide +kernel
theorem dX10_init_95 : decode cX10_init 95 = .ok (.newarray .int, 2) := by decide +kernel
theorem dX10_init_97 : decode cX10_init 97 = .ok (.putfield 43, 3) := by decide +kernel
theorem dX10_init_100 : decode cX10_init 100 = .ok (.aload_n 0, 1) := by decide +kernel
theorem dX10_init_101 : decode cX10_init 101 = .ok (.bipush 40, 2) := by decide +kernel
theorem dX10_init_103 : decode cX10_init 103 = .ok (.newarray .int, 2) := by decide +kernel
theorem dX10_init_105 : decode cX10_init 105 = .ok (.putfield 46, 3) := by decide +kernel
theorem dX10_init_108 : decode cX10_init 108 = .ok (.aload_n 0, 1) := by decide +kernel
theorem dX10_init_109 : decode cX10_init 109 = .ok (.bipush 40, 2) := by decide +kernel
theorem dX10_init_111 : decode cX10_init 111 = .ok (.newarray .int, 2) := by decide +kernel
theorem dX10_init_113 : decode cX10_init 113 = .ok (.putfield 49, 3) := by decide +kernel
theorem dX10_init_116 : decode cX10_init 116 = .ok (.aload_n 0, 1) := by decide +kernel
theorem dX10_init_117 : decode cX10_init 117 = .ok (.bipush 12, 2) := by decide +kernel
theorem dX10_init_119 : decode cX10_init 119 = .ok (.newarray .int, 2) := by decide +kernel
theorem dX10_init_121 : decode cX10_init 121 = .ok (.putfield 52, 3) := by decide +kernel
theorem dX10_init_124 : decode cX10_init 124 = .ok (.return_, 1) := by decide +kernel
theorem dX10_within_0 : decode cX10_within 0 = .ok (.iload_n 0, 1) := by decide +kernel
theorem dX10_within_1 : decode cX10_within 1 = .ok (.iload_n 1, 1) := by decide +kernel
theorem dX10_within_2 : decode cX10_within 2 = .ok (.if_icmp .lt 12, 3) := by decide +kernel
theorem dX10_within_5 : decode cX10_within 5 = .ok (.iload_n 0, 1) := by decide +kernel
theorem dX10_within_6 : decode cX10_within 6 = .ok (.iload_n 2, 1) := by decide +kernel
theorem dX10_within_7 : decode cX10_within 7 = .ok (.if_icmp .gt 7, 3) := by decide +kernel
theorem dX10_within_10 : decode cX10_within 10 = .ok (.iconst 1, 1) := by decide +kernel
theorem dX10_within_11 : decode cX10_within 11 = .ok (.goto 4, 3) := by decide +kernel
theorem dX10_within_14 : decode cX10_within 14 = .ok (.iconst 0, 1) := by decide +kernel
theorem dX10_within_15 : decode cX10_within 15 = .ok (.ireturn, 1) := by decide +kernel
theorem dX10_has_0 : decode cX10_has 0 = .ok (.iload_n 0, 1) := by decide +kernel
theorem dX10_has_1 : decode cX10_has 1 = .ok (.iload_n 1, 1) := by decide +kernel
theorem dX10_has_2 : decode cX10_has 2 = .ok (.ishr, 1) := by decide +kernel
theorem dX10_has_3 : decode cX10_has 3 = .ok (.iconst 1, 1) := by decide +kernel
theorem dX10_has_4 : decode cX10_has 4 = .ok (.iand, 1) := by decide +kernel
theorem dX10_has_5 : decode cX10_has 5 = .ok (.iconst 1, 1) := by decide +kernel
theorem dX10_has_6 : decode cX10_has 6 = .ok (.if_icmp .ne 7, 3) := by decide +kernel
theorem dX10_has_9 : decode cX10_has 9 = .ok (.iconst 1, 1) := by decide +kernel
theorem dX10_has_10 : decode cX10_has 10 = .ok (.goto 4, 3) := by decide +kernel
theorem dX10_has_13 : decode cX10_has 13 = .ok (.iconst 0, 1) := by decide +kernel
theorem dX10_has_14 : decode cX10_has 14 = .ok (.ireturn, 1) := by decide +kernel
theorem dX10_letter_0 : decode cX10_letter 0 = .ok (.iload_n 1, 1) := by decide +kernel
theorem dX10_letter_1 : decode cX10_letter 1 = .ok (.bipush 32, 2) := by decide +kernel
theorem dX10_letter_3 : decode cX10_letter 3 = .ok (.bipush 126, 2) := by decide +kernel
theorem dX10_letter_5 : decode cX10_letter 5 = .ok (.invokestatic 55, 3) := by decide +kernel
theorem dX10_letter_8 : decode cX10_letter 8 = .ok (.ifCond .ne 7, 3) := by decide +kernel
theorem dX10_letter_11 : decode cX10_letter 11 = .ok (.sipush (-1002), 3) := by decide +kernel
theorem dX10_letter_14 : decode cX10_letter 14 = .ok (.ireturn, 1) := by decide +kernel
theorem dX10_letter_15 : decode cX10_letter 15 = .ok (.aload_n 0, 1) := by decide +kernel
theorem dX10_letter_16 : decode cX10_letter 16 = .ok (.getfield 59, 3) := by decide +kernel
theorem dX10_letter_19 : decode cX10_letter 19 = .ok (.bipush 40, 2) := by decide +kernel
theorem dX10_letter_21 : decode cX10_letter 21 = .ok (.if_icmp .ne 7, 3) := by decide +kernel
theorem dX10_letter_24 : decode cX10_letter 24 = .ok (.sipush (-1004), 3) := by decide +kernel
theorem dX10_letter_27 : decode cX10_letter 27 = .ok (.ireturn, 1) := by decide +kernel
theorem dX10_letter_28 : decode cX10_letter 28 = .ok (.aload_n 0, 1) := by decide +kernel
theorem dX10_letter_29 : decode cX10_letter 29 = .ok (.getfield 7, 3) := by decide +kernel
theorem dX10_letter_32 : decode cX10_letter 32 = .ok (.aload_n 0, 1) := by decide +kernel
theorem dX10_letter_33 : decode cX10_letter 33 = .ok (.getfield 59, 3) := by decide +kernel
theorem dX10_letter_36 : decode cX10_letter 36 = .ok (.iload_n 1, 1) := by decide +kernel
theorem dX10_letter_37 : decode cX10_letter 37 = .ok (.iastore, 1) := by decide +kernel
theorem dX10_letter_38 : decode cX10_letter 38 = .ok (.aload_n 0, 1) := by decide +kernel
theorem dX10_letter_39 : decode cX10_letter 39 = .ok (.dup, 1) := by decide +kernel
theorem dX10_letter_40 : decode cX10_letter 40 = .ok (.getfield 59, 3) := by decide +kernel
theorem dX10_letter_43 : decode cX10_letter 43 = .ok (.iconst 1, 1) := by decide +kernel
theorem dX10_letter_44 : decode cX10_letter 44 = .ok (.iadd, 1) := by decide +kernel
theorem dX10_letter_45 : decode cX10_letter 45 = .ok (.putfield 59, 3) := by decide +kernel
theorem dX10_letter_48 : decode cX10_letter 48 = .ok (.aload_n 0, 1) := by decide +kernel
theorem dX10_letter_49 : decode cX10_letter 49 = .ok (.getfield 59, 3) := by decide +kernel
theorem dX10_letter_52 : decode cX10_letter 52 = .ok (.ireturn, 1) := by decide +kernel
theorem dX10_blank_0 : decode cX10_blank 0 = .ok (.aload_n 0, 1) := by decide +kernel
theorem dX10_blank_1 : decode cX10_blank 1 = .ok (.getfield 59, 3) := by decide +kernel
theorem dX10_blank_4 : decode cX10_blank 4 = .ok (.istore_n 1, 1) := by decide +kernel
theorem dX10_blank_5 : decode cX10_blank 5 = .ok (.aload_n 0, 1) := by decide +kernel
theorem dX10_blank_6 : decode cX10_blank 6 = .ok (.iconst 0, 1) := by decide +kernel
theorem dX10_blank_7 : decode cX10_blank 7 = .ok (.putfield 59, 3) := by decide +kernel
theorem dX10_blank_10 : decode cX10_blank 10 = .ok (.iload_n 1, 1) := by decide +kernel
theorem dX10_blank_11 : decode cX10_blank 11 = .ok (.ireturn, 1) := by decide +kernel
theorem dX10_figure_0 : decode cX10_figure 0 = .ok (.iload_n 0, 1) := by decide +kernel
theorem dX10_figure_1 : decode cX10_figure 1 = .ok (.bipush 48, 2) := by decide +kernel
theorem dX10_figure_3 : decode cX10_figure 3 = .ok (.bipush 57, 2) := by decide +kernel
theorem dX10_figure_5 : decode cX10_figure 5 = .ok (.invokestatic 55, 3) := by decide +kernel
theorem dX10_figure_8 : decode cX10_figure 8 = .ok (.ifCond .eq 10, 3) := by decide +kernel
theorem dX10_figure_11 : decode cX10_figure 11 = .ok (.iload_n 0, 1) := by decide +kernel
theorem dX10_figure_12 : decode cX10_figure 12 = .ok (.bipush 48, 2) := by decide +kernel
theorem dX10_figure_14 : decode cX10_figure 14 = .ok (.isub, 1) := by decide +kernel
theorem dX10_figure_15 : decode cX10_figure 15 = .ok (.goto 25, 3) := by decide +kernel
theorem dX10_figure_18 : decode cX10_figure 18 = .ok (.iload_n 0, 1) := by decide +kernel
theorem dX10_figure_19 : decode cX10_figure 19 = .ok (.bipush 97, 2) := by decide +kernel
theorem dX10_figure_21 : decode cX10_figure 21 = .ok (.bipush 122, 2) := by decide +kernel
theorem dX10_figure_23 : decode cX10_figure 23 = .ok (.invokestatic 55, 3) := by decide +kernel
theorem dX10_figure_26 : decode cX10_figure 26 = .ok (.ifCond .eq 13, 3) := by decide +kernel
theorem dX10_figure_29 : decode cX10_figure 29 = .ok (.iload_n 0, 1) := by decide +kernel
theorem dX10_figure_30 : decode cX10_figure 30 = .ok (.bipush 97, 2) := by decide +kernel
theorem dX10_figure_32 : decode cX10_figure 32 = .ok (.isub, 1) := by decide +kernel
theorem dX10_figure_33 : decode cX10_figure 33 = .ok (.bipush 10, 2) := by decide +kernel
theorem dX10_figure_35 : decode cX10_figure 35 = .ok (.iadd, 1) := by decide +kernel
theorem dX10_figure_36 : decode cX10_figure 36 = .ok (.goto 4, 3) := by decide +kernel
theorem dX10_figure_39 : decode cX10_figure 39 = .ok (.iconst (-1), 1) := by decide +kernel
theorem dX10_figure_40 : decode cX10_figure 40 = .ok (.istore_n 2, 1) := by decide +kernel
theorem dX10_figure_41 : decode cX10_figure 41 = .ok (.iload_n 2, 1) := by decide +kernel
theorem dX10_figure_42 : decode cX10_figure 42 = .ok (.iload_n 1, 1) := by decide +kernel
theorem dX10_figure_43 : decode cX10_figure 43 = .ok (.if_icmp .ge 7, 3) := by decide +kernel
theorem dX10_figure_46 : decode cX10_figure 46 = .ok (.iload_n 2, 1) := by decide +kernel
theorem dX10_figure_47 : decode cX10_figure 47 = .ok (.goto 4, 3) := by decide +kernel
theorem dX10_figure_50 : decode cX10_figure 50 = .ok (.iconst (-1), 1) := by decide +kernel
theorem dX10_figure_51 : decode cX10_figure 51 = .ok (.ireturn, 1) := by decide +kernel
theorem dX10_kindBy_0 : decode cX10_kindBy 0 = .ok (.iload_n 0, 1) := by decide +kernel
theorem dX10_kindBy_1 : decode cX10_kindBy 1 = .ok (.lookupswitch 61 #[(65, 51), (68, 59), (78, 57), (79, 53), (88, 55)], 51) := by decide +kernel
theorem dX10_kindBy_52 : decode cX10_kindBy 52 = .ok (.iconst 1, 1) := by decide +kernel
theorem dX10_kindBy_53 : decode cX10_kindBy 53 = .ok (.ireturn, 1) := by decide +kernel
theorem dX10_kindBy_54 : decode cX10_kindBy 54 = .ok (.iconst 2, 1) := by decide +kernel
theorem dX10_kindBy_55 : decode cX10_kindBy 55 = .ok (.ireturn, 1) := by decide +kernel
theorem dX10_kindBy_56 : decode cX10_kindBy 56 = .ok (.iconst 3, 1) := by decide +kernel
theorem dX10_kindBy_57 : decode cX10_kindBy 57 = .ok (.ireturn, 1) := by decide +kernel
theorem dX10_kindBy_58 : decode cX10_kindBy 58 = .ok (.iconst 4, 1) := by decide +kernel
theorem dX10_kindBy_59 : decode cX10_kindBy 59 = .ok (.ireturn, 1) := by decide +kernel
theorem dX10_kindBy_60 : decode cX10_kindBy 60 = .ok (.iconst 5, 1) := by decide +kernel
theorem dX10_kindBy_61 : decode cX10_kindBy 61 = .ok (.ireturn, 1) := by decide +kernel
theorem dX10_kindBy_62 : decode cX10_kindBy 62 = .ok (.iconst (-1), 1) := by decide +kernel
theorem dX10_kindBy_63 : decode cX10_kindBy 63 = .ok (.ireturn, 1) := by decide +kernel
theorem dX10_pinsOf_0 : decode cX10_pinsOf 0 = .ok (.iload_n 0, 1) := by decide +kernel
theorem dX10_pinsOf_1 : decode cX10_pinsOf 1 = .ok (.ifCond .ne 7, 3) := by decide +kernel
theorem dX10_pinsOf_4 : decode cX10_pinsOf 4 = .ok (.iconst 0, 1) := by decide +kernel
theorem dX10_pinsOf_5 : decode cX10_pinsOf 5 = .ok (.goto 13, 3) := by decide +kernel
theorem dX10_pinsOf_8 : decode cX10_pinsOf 8 = .ok (.iload_n 0, 1) := by decide +kernel
theorem dX10_pinsOf_9 : decode cX10_pinsOf 9 = .ok (.iconst 4, 1) := by decide +kernel
theorem dX10_pinsOf_10 : decode cX10_pinsOf 10 = .ok (.if_icmp .ge 7, 3) := by decide +kernel
theorem dX10_pinsOf_13 : decode cX10_pinsOf 13 = .ok (.iconst 2, 1) := by decide +kernel
theorem dX10_pinsOf_14 : decode cX10_pinsOf 14 = .ok (.goto 4, 3) := by decide +kernel
theorem dX10_pinsOf_17 : decode cX10_pinsOf 17 = .ok (.iconst 1, 1) := by decide +kernel
theorem dX10_pinsOf_18 : decode cX10_pinsOf 18 = .ok (.ireturn, 1) := by decide +kernel
theorem dX10_takesPin_0 : decode cX10_takesPin 0 = .ok (.iload_n 1, 1) := by decide +kernel
theorem dX10_takesPin_1 : decode cX10_takesPin 1 = .ok (.bipush 12, 2) := by decide +kernel
theorem dX10_takesPin_3 : decode cX10_takesPin 3 = .ok (.invokestatic 63, 3) := by decide +kernel
theorem dX10_takesPin_6 : decode cX10_takesPin 6 = .ok (.istore_n 2, 1) := by decide +kernel
theorem dX10_takesPin_7 : decode cX10_takesPin 7 = .ok (.iload_n 2, 1) := by decide +kernel
theorem dX10_takesPin_8 : decode cX10_takesPin 8 = .ok (.iconst (-1), 1) := by decide +kernel
theorem dX10_takesPin_9 : decode cX10_takesPin 9 = .ok (.if_icmp .ne 5, 3) := by decide +kernel
theorem dX10_takesPin_12 : decode cX10_takesPin 12 = .ok (.iconst 0, 1) := by decide +kernel
theorem dX10_takesPin_13 : decode cX10_takesPin 13 = .ok (.ireturn, 1) := by decide +kernel
theorem dX10_takesPin_14 : decode cX10_takesPin 14 = .ok (.aload_n 0, 1) := by decide +kernel
theorem dX10_takesPin_15 : decode cX10_takesPin 15 = .ok (.getfield 25, 3) := by decide +kernel
theorem dX10_takesPin_18 : decode cX10_takesPin 18 = .ok (.iconst 2, 1) := by decide +kernel
theorem dX10_takesPin_19 : decode cX10_takesPin 19 = .ok (.aload_n 0, 1) := by decide +kernel
theorem dX10_takesPin_20 : decode cX10_takesPin 20 = .ok (.getfield 67, 3) := by decide +kernel
theorem dX10_takesPin_23 : decode cX10_takesPin 23 = .ok (.imul, 1) := by decide +kernel
theorem dX10_takesPin_24 : decode cX10_takesPin 24 = .ok (.aload_n 0, 1) := by decide +kernel
theorem dX10_takesPin_25 : decode cX10_takesPin 25 = .ok (.getfield 70, 3) := by decide +kernel
theorem dX10_takesPin_28 : decode cX10_takesPin 28 = .ok (.iadd, 1) := by decide +kernel
theorem dX10_takesPin_29 : decode cX10_takesPin 29 = .ok (.iload_n 2, 1) := by decide +kernel
theorem dX10_takesPin_30 : decode cX10_takesPin 30 = .ok (.iastore, 1) := by decide +kernel
theorem dX10_takesPin_31 : decode cX10_takesPin 31 = .ok (.aload_n 0, 1) := by decide +kernel
theorem dX10_takesPin_32 : decode cX10_takesPin 32 = .ok (.dup, 1) := by decide +kernel
theorem dX10_takesPin_33 : decode cX10_takesPin 33 = .ok (.getfield 70, 3) := by decide +kernel
theorem dX10_takesPin_36 : decode cX10_takesPin 36 = .ok (.iconst 1, 1) := by decide +kernel
theorem dX10_takesPin_37 : decode cX10_takesPin 37 = .ok (.iadd, 1) := by decide +kernel
theorem dX10_takesPin_38 : decode cX10_takesPin 38 = .ok (.putfield 70, 3) := by decide +kernel
theorem dX10_takesPin_41 : decode cX10_takesPin 41 = .ok (.aload_n 0, 1) := by decide +kernel
theorem dX10_takesPin_42 : decode cX10_takesPin 42 = .ok (.getfield 70, 3) := by decide +kernel
theorem dX10_takesPin_45 : decode cX10_takesPin 45 = .ok (.aload_n 0, 1) := by decide +kernel
theorem dX10_takesPin_46 : decode cX10_takesPin 46 = .ok (.getfield 73, 3) := by decide +kernel
theorem dX10_takesPin_49 : decode cX10_takesPin 49 = .ok (.invokestatic 76, 3) := by decide +kernel
theorem dX10_takesPin_52 : decode cX10_takesPin 52 = .ok (.if_icmp .ne 41, 3) := by decide +kernel
theorem dX10_takesPin_55 : decode cX10_takesPin 55 = .ok (.aload_n 0, 1) := by decide +kernel
theorem dX10_takesPin_56 : decode cX10_takesPin 56 = .ok (.getfield 22, 3) := by decide +kernel
theorem dX10_takesPin_59 : decode cX10_takesPin 59 = .ok (.aload_n 0, 1) := by decide +kernel
theorem dX10_takesPin_60 : decode cX10_takesPin 60 = .ok (.getfield 67, 3) := by decide +kernel
theorem dX10_takesPin_63 : decode cX10_takesPin 63 = .ok (.aload_n 0, 1) := by decide +kernel
theorem dX10_takesPin_64 : decode cX10_takesPin 64 = .ok (.getfield 73, 3) := by decide +kernel
theorem dX10_takesPin_67 : decode cX10_takesPin 67 = .ok (.iastore, 1) := by decide +kernel
theorem dX10_takesPin_68 : decode cX10_takesPin 68 = .ok (.aload_n 0, 1) := by decide +kernel
theorem dX10_takesPin_69 : decode cX10_takesPin 69 = .ok (.dup, 1) := by decide +kernel
theorem dX10_takesPin_70 : decode cX10_takesPin 70 = .ok (.getfield 67, 3) := by decide +kernel
theorem dX10_takesPin_73 : decode cX10_takesPin 73 = .ok (.iconst 1, 1) := by decide +kernel
theorem dX10_takesPin_74 : decode cX10_takesPin 74 = .ok (.iadd, 1) := by decide +kernel
theorem dX10_takesPin_75 : decode cX10_takesPin 75 = .ok (.putfield 67, 3) := by decide +kernel
theorem dX10_takesPin_78 : decode cX10_takesPin 78 = .ok (.aload_n 0, 1) := by decide +kernel
theorem dX10_takesPin_79 : decode cX10_takesPin 79 = .ok (.iconst 0, 1) := by decide +kernel
theorem dX10_takesPin_80 : decode cX10_takesPin 80 = .ok (.putfield 73, 3) := by decide +kernel
theorem dX10_takesPin_83 : decode cX10_takesPin 83 = .ok (.aload_n 0, 1) := by decide +kernel
theorem dX10_takesPin_84 : decode cX10_takesPin 84 = .ok (.iconst 0, 1) := by decide +kernel
theorem dX10_takesPin_85 : decode cX10_takesPin 85 = .ok (.putfield 70, 3) := by decide +kernel
theorem dX10_takesPin_88 : decode cX10_takesPin 88 = .ok (.aload_n 0, 1) := by decide +kernel
theorem dX10_takesPin_89 : decode cX10_takesPin 89 = .ok (.iconst 0, 1) := by decide +kernel
theorem dX10_takesPin_90 : decode cX10_takesPin 90 = .ok (.putfield 80, 3) := by decide +kernel
theorem dX10_takesPin_93 : decode cX10_takesPin 93 = .ok (.iconst 1, 1) := by decide +kernel
theorem dX10_takesPin_94 : decode cX10_takesPin 94 = .ok (.ireturn, 1) := by decide +kernel
theorem dX10_takes_0 : decode cX10_takes 0 = .ok (.aload_n 0, 1) := by decide +kernel
theorem dX10_takes_1 : decode cX10_takes 1 = .ok (.getfield 84, 3) := by decide +kernel
theorem dX10_takes_4 : decode cX10_takes 4 = .ok (.ifCond .ne 39, 3) := by decide +kernel
theorem dX10_takes_7 : decode cX10_takes 7 = .ok (.aload_n 0, 1) := by decide +kernel
theorem dX10_takes_8 : decode cX10_takes 8 = .ok (.iload_n 1, 1) := by decide +kernel
theorem dX10_takes_9 : decode cX10_takes 9 = .ok (.bipush 49, 2) := by decide +kernel
theorem dX10_takes_11 : decode cX10_takes 11 = .ok (.bipush 52, 2) := by decide +kernel
theorem dX10_takes_13 : decode cX10_takes 13 = .ok (.invokestatic 55, 3) := by decide +kernel
theorem dX10_takes_16 : decode cX10_takes 16 = .ok (.ifCond .eq 10, 3) := by decide +kernel
theorem dX10_takes_19 : decode cX10_takes 19 = .ok (.iload_n 1, 1) := by decide +kernel
theorem dX10_takes_20 : decode cX10_takes 20 = .ok (.bipush 48, 2) := by decide +kernel
theorem dX10_takes_22 : decode cX10_takes 22 = .ok (.isub, 1) := by decide +kernel
theorem dX10_takes_23 : decode cX10_takes 23 = .ok (.goto 4, 3) := by decide +kernel
theorem dX10_takes_26 : decode cX10_takes 26 = .ok (.iconst 0, 1) := by decide +kernel
theorem dX10_takes_27 : decode cX10_takes 27 = .ok (.putfield 84, 3) := by decide +kernel
theorem dX10_takes_30 : decode cX10_takes 30 = .ok (.aload_n 0, 1) := by decide +kernel
theorem dX10_takes_31 : decode cX10_takes 31 = .ok (.getfield 84, 3) := by decide +kernel
theorem dX10_takes_34 : decode cX10_takes 34 = .ok (.ifCond .le 7, 3) := by decide +kernel
theorem dX10_takes_37 : decode cX10_takes 37 = .ok (.iconst 1, 1) := by decide +kernel
theorem dX10_takes_38 : decode cX10_takes 38 = .ok (.goto 4, 3) := by decide +kernel
theorem dX10_takes_41 : decode cX10_takes 41 = .ok (.iconst 0, 1) := by decide +kernel
theorem dX10_takes_42 : decode cX10_takes 42 = .ok (.ireturn, 1) := by decide +kernel
theorem dX10_takes_43 : decode cX10_takes 43 = .ok (.aload_n 0, 1) := by decide +kernel
theorem dX10_takes_44 : decode cX10_takes 44 = .ok (.getfield 73, 3) := by decide +kernel
theorem dX10_takes_47 : decode cX10_takes 47 = .ok (.ifCond .le 9, 3) := by decide +kernel
theorem dX10_takes_50 : decode cX10_takes 50 = .ok (.aload_n 0, 1) := by decide +kernel
theorem dX10_takes_51 : decode cX10_takes 51 = .ok (.iload_n 1, 1) := by decide +kernel
theorem dX10_takes_52 : decode cX10_takes 52 = .ok (.invokevirtual 87, 3) := by decide +kernel
theorem dX10_takes_55 : decode cX10_takes 55 = .ok (.ireturn, 1) := by decide +kernel
theorem dX10_takes_56 : decode cX10_takes 56 = .ok (.aload_n 0, 1) := by decide +kernel
theorem dX10_takes_57 : decode cX10_takes 57 = .ok (.getfield 80, 3) := by decide +kernel
theorem dX10_takes_60 : decode cX10_takes 60 = .ok (.ifCond .ne 32, 3) := by decide +kernel
theorem dX10_takes_63 : decode cX10_takes 63 = .ok (.aload_n 0, 1) := by decide +kernel
theorem dX10_takes_64 : decode cX10_takes 64 = .ok (.iload_n 1, 1) := by decide +kernel
theorem dX10_takes_65 : decode cX10_takes 65 = .ok (.bipush 59, 2) := by decide +kernel
theorem dX10_takes_67 : decode cX10_takes 67 = .ok (.if_icmp .ne 16, 3) := by decide +kernel
theorem dX10_takes_70 : decode cX10_takes 70 = .ok (.aload_n 0, 1) := by decide +kernel
theorem dX10_takes_71 : decode cX10_takes 71 = .ok (.getfield 67, 3) := by decide +kernel
theorem dX10_takes_74 : decode cX10_takes 74 = .ok (.bipush 8, 2) := by decide +kernel
theorem dX10_takes_76 : decode cX10_takes 76 = .ok (.if_icmp .ge 7, 3) := by decide +kernel
theorem dX10_takes_79 : decode cX10_takes 79 = .ok (.iconst 1, 1) := by decide +kernel
theorem dX10_takes_80 : decode cX10_takes 80 = .ok (.goto 4, 3) := by decide +kernel
theorem dX10_takes_83 : decode cX10_takes 83 = .ok (.iconst 0, 1) := by decide +kernel
theorem dX10_takes_84 : decode cX10_takes 84 = .ok (.putfield 80, 3) := by decide +kernel
theorem dX10_takes_87 : decode cX10_takes 87 = .ok (.aload_n 0, 1) := by decide +kernel
theorem dX10_takes_88 : decode cX10_takes 88 = .ok (.getfield 80, 3) := by decide +kernel
theorem dX10_takes_91 : decode cX10_takes 91 = .ok (.ireturn, 1) := by decide +kernel
theorem dX10_takes_92 : decode cX10_takes 92 = .ok (.iload_n 1, 1) := by decide +kernel
theorem dX10_takes_93 : decode cX10_takes 93 = .ok (.invokestatic 91, 3) := by decide +kernel
theorem dX10_takes_96 : decode cX10_takes 96 = .ok (.istore_n 2, 1) := by decide +kernel
theorem dX10_takes_97 : decode cX10_takes 97 = .ok (.aload_n 0, 1) := by decide +kernel
theorem dX10_takes_98 : decode cX10_takes 98 = .ok (.iload_n 2, 1) := by decide +kernel
theorem dX10_takes_99 : decode cX10_takes 99 = .ok (.iconst (-1), 1) := by decide +kernel
theorem dX10_takes_100 : decode cX10_takes 100 = .ok (.if_icmp .ne 7, 3) := by decide +kernel
theorem dX10_takes_103 : decode cX10_takes 103 = .ok (.iconst 0, 1) := by decide +kernel
theorem dX10_takes_104 : decode cX10_takes 104 = .ok (.goto 4, 3) := by decide +kernel
theorem dX10_takes_107 : decode cX10_takes 107 = .ok (.iload_n 2, 1) := by decide +kernel
theorem dX10_takes_108 : decode cX10_takes 108 = .ok (.putfield 73, 3) := by decide +kernel
theorem dX10_takes_111 : decode cX10_takes 111 = .ok (.iload_n 2, 1) := by decide +kernel
theorem dX10_takes_112 : decode cX10_takes 112 = .ok (.iconst (-1), 1) := by decide +kernel
theorem dX10_takes_113 : decode cX10_takes 113 = .ok (.if_icmp .eq 7, 3) := by decide +kernel
theorem dX10_takes_116 : decode cX10_takes 116 = .ok (.iconst 1, 1) := by decide +kernel
theorem dX10_takes_117 : decode cX10_takes 117 = .ok (.goto 4, 3) := by decide +kernel
theorem dX10_takes_120 : decode cX10_takes 120 = .ok (.iconst 0, 1) := by decide +kernel
theorem dX10_takes_121 : decode cX10_takes 121 = .ok (.ireturn, 1) := by decide +kernel
theorem dX10_goAlong_0 : decode cX10_goAlong 0 = .ok (.aload_n 0, 1) := by decide +kernel
theorem dX10_goAlong_1 : decode cX10_goAlong 1 = .ok (.iconst 0, 1) := by decide +kernel
theorem dX10_goAlong_2 : decode cX10_goAlong 2 = .ok (.putfield 84, 3) := by decide +kernel
theorem dX10_goAlong_5 : decode cX10_goAlong 5 = .ok (.aload_n 0, 1) := by decide +kernel
theorem dX10_goAlong_6 : decode cX10_goAlong 6 = .ok (.iconst 0, 1) := by decide +kernel
theorem dX10_goAlong_7 : decode cX10_goAlong 7 = .ok (.putfield 67, 3) := by decide +kernel
theorem dX10_goAlong_10 : decode cX10_goAlong 10 = .ok (.aload_n 0, 1) := by decide +kernel
theorem dX10_goAlong_11 : decode cX10_goAlong 11 = .ok (.iconst 0, 1) := by decide +kernel
theorem dX10_goAlong_12 : decode cX10_goAlong 12 = .ok (.putfield 80, 3) := by decide +kernel
theorem dX10_goAlong_15 : decode cX10_goAlong 15 = .ok (.aload_n 0, 1) := by decide +kernel
theorem dX10_goAlong_16 : decode cX10_goAlong 16 = .ok (.iconst 0, 1) := by decide +kernel
theorem dX10_goAlong_17 : decode cX10_goAlong 17 = .ok (.putfield 73, 3) := by decide +kernel
theorem dX10_goAlong_20 : decode cX10_goAlong 20 = .ok (.aload_n 0, 1) := by decide +kernel
theorem dX10_goAlong_21 : decode cX10_goAlong 21 = .ok (.iconst 0, 1) := by decide +kernel
theorem dX10_goAlong_22 : decode cX10_goAlong 22 = .ok (.putfield 70, 3) := by decide +kernel
theorem dX10_goAlong_25 : decode cX10_goAlong 25 = .ok (.iconst 0, 1) := by decide +kernel
theorem dX10_goAlong_26 : decode cX10_goAlong 26 = .ok (.istore_n 1, 1) := by decide +kernel
theorem dX10_goAlong_27 : decode cX10_goAlong 27 = .ok (.iload_n 1, 1) := by decide +kernel
theorem dX10_goAlong_28 : decode cX10_goAlong 28 = .ok (.aload_n 0, 1) := by decide +kernel
theorem dX10_goAlong_29 : decode cX10_goAlong 29 = .ok (.getfield 59, 3) := by decide +kernel
theorem dX10_goAlong_32 : decode cX10_goAlong 32 = .ok (.if_icmp .ge 22, 3) := by decide +kernel
theorem dX10_goAlong_35 : decode cX10_goAlong 35 = .ok (.aload_n 0, 1) := by decide +kernel
theorem dX10_goAlong_36 : decode cX10_goAlong 36 = .ok (.aload_n 0, 1) := by decide +kernel
theorem dX10_goAlong_37 : decode cX10_goAlong 37 = .ok (.getfield 7, 3) := by decide +kernel
theorem dX10_goAlong_40 : decode cX10_goAlong 40 = .ok (.iload_n 1, 1) := by decide +kernel
theorem dX10_goAlong_41 : decode cX10_goAlong 41 = .ok (.iaload, 1) := by decide +kernel
theorem dX10_goAlong_42 : decode cX10_goAlong 42 = .ok (.invokevirtual 94, 3) := by decide +kernel
theorem dX10_goAlong_45 : decode cX10_goAlong 45 = .ok (.ifCond .eq 9, 3) := by decide +kernel
theorem dX10_goAlong_48 : decode cX10_goAlong 48 = .ok (.iinc 1 1, 3) := by decide +kernel
theorem dX10_goAlong_51 : decode cX10_goAlong 51 = .ok (.goto (-24), 3) := by decide +kernel
theorem dX10_goAlong_54 : decode cX10_goAlong 54 = .ok (.iload_n 1, 1) := by decide +kernel
theorem dX10_goAlong_55 : decode cX10_goAlong 55 = .ok (.ireturn, 1) := by decide +kernel
theorem dX10_goFigures_0 : decode cX10_goFigures 0 = .ok (.iconst 0, 1) := by decide +kernel
theorem dX10_goFigures_1 : decode cX10_goFigures 1 = .ok (.istore_n 1, 1) := by decide +kernel
theorem dX10_goFigures_2 : decode cX10_goFigures 2 = .ok (.iload_n 1, 1) := by decide +kernel
theorem dX10_goFigures_3 : decode cX10_goFigures 3 = .ok (.aload_n 0, 1) := by decide +kernel
theorem dX10_goFigures_4 : decode cX10_goFigures 4 = .ok (.getfield 59, 3) := by decide +kernel
theorem dX10_goFigures_7 : decode cX10_goFigures 7 = .ok (.if_icmp .ge 30, 3) := by decide +kernel
theorem dX10_goFigures_10 : decode cX10_goFigures 10 = .ok (.iload_n 1, 1) := by decide +kernel
theorem dX10_goFigures_11 : decode cX10_goFigures 11 = .ok (.bipush 16, 2) := by decide +kernel
theorem dX10_goFigures_13 : decode cX10_goFigures 13 = .ok (.if_icmp .ge 24, 3) := by decide +kernel
theorem dX10_goFigures_16 : decode cX10_goFigures 16 = .ok (.aload_n 0, 1) := by decide +kernel
theorem dX10_goFigures_17 : decode cX10_goFigures 17 = .ok (.getfield 7, 3) := by decide +kernel
theorem dX10_goFigures_20 : decode cX10_goFigures 20 = .ok (.iload_n 1, 1) := by decide +kernel
theorem dX10_goFigures_21 : decode cX10_goFigures 21 = .ok (.iaload, 1) := by decide +kernel
theorem dX10_goFigures_22 : decode cX10_goFigures 22 = .ok (.bipush 16, 2) := by decide +kernel
theorem dX10_goFigures_24 : decode cX10_goFigures 24 = .ok (.invokestatic 63, 3) := by decide +kernel
theorem dX10_goFigures_27 : decode cX10_goFigures 27 = .ok (.iconst (-1), 1) := by decide +kernel
theorem dX10_goFigures_28 : decode cX10_goFigures 28 = .ok (.if_icmp .eq 9, 3) := by decide +kernel
theorem dX10_goFigures_31 : decode cX10_goFigures 31 = .ok (.iinc 1 1, 3) := by decide +kernel
theorem dX10_goFigures_34 : decode cX10_goFigures 34 = .ok (.goto (-32), 3) := by decide +kernel
theorem dX10_goFigures_37 : decode cX10_goFigures 37 = .ok (.iload_n 1, 1) := by decide +kernel
theorem dX10_goFigures_38 : decode cX10_goFigures 38 = .ok (.ireturn, 1) := by decide +kernel
theorem dX10_fault_0 : decode cX10_fault 0 = .ok (.iload_n 1, 1) := by decide +kernel
theorem dX10_fault_1 : decode cX10_fault 1 = .ok (.ifCond .eq 10, 3) := by decide +kernel
theorem dX10_fault_4 : decode cX10_fault 4 = .ok (.aload_n 0, 1) := by decide +kernel
theorem dX10_fault_5 : decode cX10_fault 5 = .ok (.invokevirtual 97, 3) := by decide +kernel
theorem dX10_fault_8 : decode cX10_fault 8 = .ok (.goto 7, 3) := by decide +kernel
theorem dX10_fault_11 : decode cX10_fault 11 = .ok (.aload_n 0, 1) := by decide +kernel
theorem dX10_fault_12 : decode cX10_fault 12 = .ok (.invokevirtual 101, 3) := by decide +kernel
theorem dX10_fault_15 : decode cX10_fault 15 = .ok (.ireturn, 1) := by decide +kernel
theorem dX10_mayDrive_0 : decode cX10_mayDrive 0 = .ok (.iload_n 2, 1) := by decide +kernel
theorem dX10_mayDrive_1 : decode cX10_mayDrive 1 = .ok (.aload_n 0, 1) := by decide +kernel
theorem dX10_mayDrive_2 : decode cX10_mayDrive 2 = .ok (.getfield 84, 3) := by decide +kernel
theorem dX10_mayDrive_5 : decode cX10_mayDrive 5 = .ok (.isub, 1) := by decide +kernel
theorem dX10_mayDrive_6 : decode cX10_mayDrive 6 = .ok (.istore_n 3, 1) := by decide +kernel
theorem dX10_mayDrive_7 : decode cX10_mayDrive 7 = .ok (.iload_n 3, 1) := by decide +kernel
theorem dX10_mayDrive_8 : decode cX10_mayDrive 8 = .ok (.ifCond .ge 5, 3) := by decide +kernel
theorem dX10_mayDrive_11 : decode cX10_mayDrive 11 = .ok (.iconst 1, 1) := by decide +kernel
theorem dX10_mayDrive_12 : decode cX10_mayDrive 12 = .ok (.ireturn, 1) := by decide +kernel
theorem dX10_mayDrive_13 : decode cX10_mayDrive 13 = .ok (.aload_n 0, 1) := by decide +kernel
theorem dX10_mayDrive_14 : decode cX10_mayDrive 14 = .ok (.getfield 22, 3) := by decide +kernel
theorem dX10_mayDrive_17 : decode cX10_mayDrive 17 = .ok (.iload_n 1, 1) := by decide +kernel
theorem dX10_mayDrive_18 : decode cX10_mayDrive 18 = .ok (.iaload, 1) := by decide +kernel
theorem dX10_mayDrive_19 : decode cX10_mayDrive 19 = .ok (.iconst 5, 1) := by decide +kernel
theorem dX10_mayDrive_20 : decode cX10_mayDrive 20 = .ok (.if_icmp .eq 8, 3) := by decide +kernel
theorem dX10_mayDrive_23 : decode cX10_mayDrive 23 = .ok (.iload_n 3, 1) := by decide +kernel
theorem dX10_mayDrive_24 : decode cX10_mayDrive 24 = .ok (.iload_n 1, 1) := by decide +kernel
theorem dX10_mayDrive_25 : decode cX10_mayDrive 25 = .ok (.if_icmp .ge 7, 3) := by decide +kernel
theorem dX10_mayDrive_28 : decode cX10_mayDrive 28 = .ok (.iconst 1, 1) := by decide +kernel
theorem dX10_mayDrive_29 : decode cX10_mayDrive 29 = .ok (.goto 4, 3) := by decide +kernel
theorem dX10_mayDrive_32 : decode cX10_mayDrive 32 = .ok (.iconst 0, 1) := by decide +kernel
theorem dX10_mayDrive_33 : decode cX10_mayDrive 33 = .ok (.istore 4, 2) := by decide +kernel
theorem dX10_mayDrive_35 : decode cX10_mayDrive 35 = .ok (.iload_n 3, 1) := by decide +kernel
theorem dX10_mayDrive_36 : decode cX10_mayDrive 36 = .ok (.aload_n 0, 1) := by decide +kernel
theorem dX10_mayDrive_37 : decode cX10_mayDrive 37 = .ok (.getfield 67, 3) := by decide +kernel
theorem dX10_mayDrive_40 : decode cX10_mayDrive 40 = .ok (.if_icmp .ge 22, 3) := by decide +kernel
theorem dX10_mayDrive_43 : decode cX10_mayDrive 43 = .ok (.iload 4, 2) := by decide +kernel
theorem dX10_mayDrive_45 : decode cX10_mayDrive 45 = .ok (.ifCond .ne 13, 3) := by decide +kernel
theorem dX10_mayDrive_48 : decode cX10_mayDrive 48 = .ok (.aload_n 0, 1) := by decide +kernel
theorem dX10_mayDrive_49 : decode cX10_mayDrive 49 = .ok (.getfield 22, 3) := by decide +kernel
theorem dX10_mayDrive_52 : decode cX10_mayDrive 52 = .ok (.iload_n 3, 1) := by decide +kernel
theorem dX10_mayDrive_53 : decode cX10_mayDrive 53 = .ok (.iaload, 1) := by decide +kernel
theorem dX10_mayDrive_54 : decode cX10_mayDrive 54 = .ok (.iconst 5, 1) := by decide +kernel
theorem dX10_mayDrive_55 : decode cX10_mayDrive 55 = .ok (.if_icmp .ne 7, 3) := by decide +kernel
theorem dX10_mayDrive_58 : decode cX10_mayDrive 58 = .ok (.iconst 1, 1) := by decide +kernel
theorem dX10_mayDrive_59 : decode cX10_mayDrive 59 = .ok (.goto 4, 3) := by decide +kernel
theorem dX10_mayDrive_62 : decode cX10_mayDrive 62 = .ok (.iconst 0, 1) := by decide +kernel
theorem dX10_mayDrive_63 : decode cX10_mayDrive 63 = .ok (.ireturn, 1) := by decide +kernel
theorem dX10_isBoard_0 : decode cX10_isBoard 0 = .ok (.aload_n 0, 1) := by decide +kernel
theorem dX10_isBoard_1 : decode cX10_isBoard 1 = .ok (.invokevirtual 101, 3) := by decide +kernel
theorem dX10_isBoard_4 : decode cX10_isBoard 4 = .ok (.aload_n 0, 1) := by decide +kernel
theorem dX10_isBoard_5 : decode cX10_isBoard 5 = .ok (.getfield 59, 3) := by decide +kernel
theorem dX10_isBoard_8 : decode cX10_isBoard 8 = .ok (.if_icmp .ne 28, 3) := by decide +kernel
theorem dX10_isBoard_11 : decode cX10_isBoard 11 = .ok (.aload_n 0, 1) := by decide +kernel
theorem dX10_isBoard_12 : decode cX10_isBoard 12 = .ok (.getfield 67, 3) := by decide +kernel
theorem dX10_isBoard_15 : decode cX10_isBoard 15 = .ok (.ifCond .le 21, 3) := by decide +kernel
theorem dX10_isBoard_18 : decode cX10_isBoard 18 = .ok (.aload_n 0, 1) := by decide +kernel
theorem dX10_isBoard_19 : decode cX10_isBoard 19 = .ok (.getfield 80, 3) := by decide +kernel
theorem dX10_isBoard_22 : decode cX10_isBoard 22 = .ok (.ifCond .ne 14, 3) := by decide +kernel
theorem dX10_isBoard_25 : decode cX10_isBoard 25 = .ok (.aload_n 0, 1) := by decide +kernel
theorem dX10_isBoard_26 : decode cX10_isBoard 26 = .ok (.getfield 73, 3) := by decide +kernel
theorem dX10_isBoard_29 : decode cX10_isBoard 29 = .ok (.ifCond .ne 7, 3) := by decide +kernel
theorem dX10_isBoard_32 : decode cX10_isBoard 32 = .ok (.iconst 1, 1) := by decide +kernel
theorem dX10_isBoard_33 : decode cX10_isBoard 33 = .ok (.goto 4, 3) := by decide +kernel
theorem dX10_isBoard_36 : decode cX10_isBoard 36 = .ok (.iconst 0, 1) := by decide +kernel
theorem dX10_isBoard_37 : decode cX10_isBoard 37 = .ok (.istore_n 1, 1) := by decide +kernel
theorem dX10_isBoard_38 : decode cX10_isBoard 38 = .ok (.iconst 0, 1) := by decide +kernel
theorem dX10_isBoard_39 : decode cX10_isBoard 39 = .ok (.istore_n 2, 1) := by decide +kernel
theorem dX10_isBoard_40 : decode cX10_isBoard 40 = .ok (.iload_n 2, 1) := by decide +kernel
theorem dX10_isBoard_41 : decode cX10_isBoard 41 = .ok (.aload_n 0, 1) := by decide +kernel
theorem dX10_isBoard_42 : decode cX10_isBoard 42 = .ok (.getfield 67, 3) := by decide +kernel
theorem dX10_isBoard_45 : decode cX10_isBoard 45 = .ok (.if_icmp .ge 62, 3) := by decide +kernel
theorem dX10_isBoard_48 : decode cX10_isBoard 48 = .ok (.iload_n 1, 1) := by decide +kernel
theorem dX10_isBoard_49 : decode cX10_isBoard 49 = .ok (.ifCond .eq 58, 3) := by decide +kernel
theorem dX10_isBoard_52 : decode cX10_isBoard 52 = .ok (.iconst 0, 1) := by decide +kernel
theorem dX10_isBoard_53 : decode cX10_isBoard 53 = .ok (.istore_n 3, 1) := by decide +kernel
theorem dX10_isBoard_54 : decode cX10_isBoard 54 = .ok (.iload_n 3, 1) := by decide +kernel
theorem dX10_isBoard_55 : decode cX10_isBoard 55 = .ok (.aload_n 0, 1) := by decide +kernel
theorem dX10_isBoard_56 : decode cX10_isBoard 56 = .ok (.getfield 22, 3) := by decide +kernel
theorem dX10_isBoard_59 : decode cX10_isBoard 59 = .ok (.iload_n 2, 1) := by decide +kernel
theorem dX10_isBoard_60 : decode cX10_isBoard 60 = .ok (.iaload, 1) := by decide +kernel
theorem dX10_isBoard_61 : decode cX10_isBoard 61 = .ok (.invokestatic 76, 3) := by decide +kernel
theorem dX10_isBoard_64 : decode cX10_isBoard 64 = .ok (.if_icmp .ge 37, 3) := by decide +kernel
theorem dX10_isBoard_67 : decode cX10_isBoard 67 = .ok (.iload_n 1, 1) := by decide +kernel
theorem dX10_isBoard_68 : decode cX10_isBoard 68 = .ok (.ifCond .eq 25, 3) := by decide +kernel
theorem dX10_isBoard_71 : decode cX10_isBoard 71 = .ok (.aload_n 0, 1) := by decide +kernel
theorem dX10_isBoard_72 : decode cX10_isBoard 72 = .ok (.iload_n 2, 1) := by decide +kernel
theorem dX10_isBoard_73 : decode cX10_isBoard 73 = .ok (.aload_n 0, 1) := by decide +kernel
theorem dX10_isBoard_74 : decode cX10_isBoard 74 = .ok (.getfield 25, 3) := by decide +kernel
theorem dX10_isBoard_77 : decode cX10_isBoard 77 = .ok (.iconst 2, 1) := by decide +kernel
theorem dX10_isBoard_78 : decode cX10_isBoard 78 = .ok (.iload_n 2, 1) := by decide +kernel
theorem dX10_isBoard_79 : decode cX10_isBoard 79 = .ok (.imul, 1) := by decide +kernel
theorem dX10_isBoard_80 : decode cX10_isBoard 80 = .ok (.iload_n 3, 1) := by decide +kernel
theorem dX10_isBoard_81 : decode cX10_isBoard 81 = .ok (.iadd, 1) := by decide +kernel
theorem dX10_isBoard_82 : decode cX10_isBoard 82 = .ok (.iaload, 1) := by decide +kernel
theorem dX10_isBoard_83 : decode cX10_isBoard 83 = .ok (.invokevirtual 104, 3) := by decide +kernel
theorem dX10_isBoard_86 : decode cX10_isBoard 86 = .ok (.ifCond .eq 7, 3) := by decide +kernel
theorem dX10_isBoard_89 : decode cX10_isBoard 89 = .ok (.iconst 1, 1) := by decide +kernel
theorem dX10_isBoard_90 : decode cX10_isBoard 90 = .ok (.goto 4, 3) := by decide +kernel
theorem dX10_isBoard_93 : decode cX10_isBoard 93 = .ok (.iconst 0, 1) := by decide +kernel
theorem dX10_isBoard_94 : decode cX10_isBoard 94 = .ok (.istore_n 1, 1) := by decide +kernel
theorem dX10_isBoard_95 : decode cX10_isBoard 95 = .ok (.iinc 3 1, 3) := by decide +kernel
theorem dX10_isBoard_98 : decode cX10_isBoard 98 = .ok (.goto (-44), 3) := by decide +kernel
theorem dX10_isBoard_101 : decode cX10_isBoard 101 = .ok (.iinc 2 1, 3) := by decide +kernel
theorem dX10_isBoard_104 : decode cX10_isBoard 104 = .ok (.goto (-64), 3) := by decide +kernel
theorem dX10_isBoard_107 : decode cX10_isBoard 107 = .ok (.iload_n 1, 1) := by decide +kernel
theorem dX10_isBoard_108 : decode cX10_isBoard 108 = .ok (.ireturn, 1) := by decide +kernel
theorem dX10_board_0 : decode cX10_board 0 = .ok (.aload_n 0, 1) := by decide +kernel
theorem dX10_board_1 : decode cX10_board 1 = .ok (.invokevirtual 108, 3) := by decide +kernel
theorem dX10_board_4 : decode cX10_board 4 = .ok (.ifCond .ne 7, 3) := by decide +kernel
theorem dX10_board_7 : decode cX10_board 7 = .ok (.sipush (-1003), 3) := by decide +kernel
theorem dX10_board_10 : decode cX10_board 10 = .ok (.ireturn, 1) := by decide +kernel
theorem dX10_board_11 : decode cX10_board 11 = .ok (.aload_n 0, 1) := by decide +kernel
theorem dX10_board_12 : decode cX10_board 12 = .ok (.aload_n 0, 1) := by decide +kernel
theorem dX10_board_13 : decode cX10_board 13 = .ok (.getfield 84, 3) := by decide +kernel
theorem dX10_board_16 : decode cX10_board 16 = .ok (.putfield 112, 3) := by decide +kernel
theorem dX10_board_19 : decode cX10_board 19 = .ok (.aload_n 0, 1) := by decide +kernel
theorem dX10_board_20 : decode cX10_board 20 = .ok (.aload_n 0, 1) := by decide +kernel
theorem dX10_board_21 : decode cX10_board 21 = .ok (.getfield 84, 3) := by decide +kernel
theorem dX10_board_24 : decode cX10_board 24 = .ok (.aload_n 0, 1) := by decide +kernel
theorem dX10_board_25 : decode cX10_board 25 = .ok (.getfield 67, 3) := by decide +kernel
theorem dX10_board_28 : decode cX10_board 28 = .ok (.iadd, 1) := by decide +kernel
theorem dX10_board_29 : decode cX10_board 29 = .ok (.putfield 115, 3) := by decide +kernel
theorem dX10_board_32 : decode cX10_board 32 = .ok (.iconst 0, 1) := by decide +kernel
theorem dX10_board_33 : decode cX10_board 33 = .ok (.istore_n 1, 1) := by decide +kernel
theorem dX10_board_34 : decode cX10_board 34 = .ok (.iload_n 1, 1) := by decide +kernel
theorem dX10_board_35 : decode cX10_board 35 = .ok (.aload_n 0, 1) := by decide +kernel
theorem dX10_board_36 : decode cX10_board 36 = .ok (.getfield 115, 3) := by decide +kernel
theorem dX10_board_39 : decode cX10_board 39 = .ok (.if_icmp .ge 86, 3) := by decide +kernel
theorem dX10_board_42 : decode cX10_board 42 = .ok (.iload_n 1, 1) := by decide +kernel
theorem dX10_board_43 : decode cX10_board 43 = .ok (.aload_n 0, 1) := by decide +kernel
theorem dX10_board_44 : decode cX10_board 44 = .ok (.getfield 112, 3) := by decide +kernel
theorem dX10_board_47 : decode cX10_board 47 = .ok (.isub, 1) := by decide +kernel
theorem dX10_board_48 : decode cX10_board 48 = .ok (.istore_n 2, 1) := by decide +kernel
theorem dX10_board_49 : decode cX10_board 49 = .ok (.aload_n 0, 1) := by decide +kernel
theorem dX10_board_50 : decode cX10_board 50 = .ok (.getfield 13, 3) := by decide +kernel
theorem dX10_board_53 : decode cX10_board 53 = .ok (.iload_n 1, 1) := by decide +kernel
theorem dX10_board_54 : decode cX10_board 54 = .ok (.iload_n 2, 1) := by decide +kernel
theorem dX10_board_55 : decode cX10_board 55 = .ok (.ifCond .ge 7, 3) := by decide +kernel
theorem dX10_board_58 : decode cX10_board 58 = .ok (.iconst 0, 1) := by decide +kernel
theorem dX10_board_59 : decode cX10_board 59 = .ok (.goto 9, 3) := by decide +kernel
theorem dX10_board_62 : decode cX10_board 62 = .ok (.aload_n 0, 1) := by decide +kernel
theorem dX10_board_63 : decode cX10_board 63 = .ok (.getfield 22, 3) := by decide +kernel
theorem dX10_board_66 : decode cX10_board 66 = .ok (.iload_n 2, 1) := by decide +kernel
theorem dX10_board_67 : decode cX10_board 67 = .ok (.iaload, 1) := by decide +kernel
theorem dX10_board_68 : decode cX10_board 68 = .ok (.iastore, 1) := by decide +kernel
theorem dX10_board_69 : decode cX10_board 69 = .ok (.iconst 0, 1) := by decide +kernel
theorem dX10_board_70 : decode cX10_board 70 = .ok (.istore_n 3, 1) := by decide +kernel
theorem dX10_board_71 : decode cX10_board 71 = .ok (.iload_n 3, 1) := by decide +kernel
theorem dX10_board_72 : decode cX10_board 72 = .ok (.iconst 2, 1) := by decide +kernel
theorem dX10_board_73 : decode cX10_board 73 = .ok (.if_icmp .ge 46, 3) := by decide +kernel
theorem dX10_board_76 : decode cX10_board 76 = .ok (.aload_n 0, 1) := by decide +kernel
theorem dX10_board_77 : decode cX10_board 77 = .ok (.getfield 16, 3) := by decide +kernel
theorem dX10_board_80 : decode cX10_board 80 = .ok (.iconst 2, 1) := by decide +kernel
theorem dX10_board_81 : decode cX10_board 81 = .ok (.iload_n 1, 1) := by decide +kernel
theorem dX10_board_82 : decode cX10_board 82 = .ok (.imul, 1) := by decide +kernel
theorem dX10_board_83 : decode cX10_board 83 = .ok (.iload_n 3, 1) := by decide +kernel
theorem dX10_board_84 : decode cX10_board 84 = .ok (.iadd, 1) := by decide +kernel
theorem dX10_board_85 : decode cX10_board 85 = .ok (.iload_n 3, 1) := by decide +kernel
theorem dX10_board_86 : decode cX10_board 86 = .ok (.aload_n 0, 1) := by decide +kernel
theorem dX10_board_87 : decode cX10_board 87 = .ok (.getfield 13, 3) := by decide +kernel
theorem dX10_board_90 : decode cX10_board 90 = .ok (.iload_n 1, 1) := by decide +kernel
theorem dX10_board_91 : decode cX10_board 91 = .ok (.iaload, 1) := by decide +kernel
theorem dX10_board_92 : decode cX10_board 92 = .ok (.invokestatic 76, 3) := by decide +kernel
theorem dX10_board_95 : decode cX10_board 95 = .ok (.if_icmp .ge 16, 3) := by decide +kernel
theorem dX10_board_98 : decode cX10_board 98 = .ok (.aload_n 0, 1) := by decide +kernel
theorem dX10_board_99 : decode cX10_board 99 = .ok (.getfield 25, 3) := by decide +kernel
theorem dX10_board_102 : decode cX10_board 102 = .ok (.iconst 2, 1) := by decide +kernel
theorem dX10_board_103 : decode cX10_board 103 = .ok (.iload_n 2, 1) := by decide +kernel
theorem dX10_board_104 : decode cX10_board 104 = .ok (.imul, 1) := by decide +kernel
theorem dX10_board_105 : decode cX10_board 105 = .ok (.iload_n 3, 1) := by decide +kernel
theorem dX10_board_106 : decode cX10_board 106 = .ok (.iadd, 1) := by decide +kernel
theorem dX10_board_107 : decode cX10_board 107 = .ok (.iaload, 1) := by decide +kernel
theorem dX10_board_108 : decode cX10_board 108 = .ok (.goto 4, 3) := by decide +kernel
theorem dX10_board_111 : decode cX10_board 111 = .ok (.iconst (-1), 1) := by decide +kernel
theorem dX10_board_112 : decode cX10_board 112 = .ok (.iastore, 1) := by decide +kernel
theorem dX10_board_113 : decode cX10_board 113 = .ok (.iinc 3 1, 3) := by decide +kernel
theorem dX10_board_116 : decode cX10_board 116 = .ok (.goto (-45), 3) := by decide +kernel
theorem dX10_board_119 : decode cX10_board 119 = .ok (.iinc 1 1, 3) := by decide +kernel
theorem dX10_board_122 : decode cX10_board 122 = .ok (.goto (-88), 3) := by decide +kernel
theorem dX10_board_125 : decode cX10_board 125 = .ok (.aload_n 0, 1) := by decide +kernel
theorem dX10_board_126 : decode cX10_board 126 = .ok (.iconst 0, 1) := by decide +kernel
theorem dX10_board_127 : decode cX10_board 127 = .ok (.putfield 118, 3) := by decide +kernel
theorem dX10_board_130 : decode cX10_board 130 = .ok (.aload_n 0, 1) := by decide +kernel
theorem dX10_board_131 : decode cX10_board 131 = .ok (.dup, 1) := by decide +kernel
theorem dX10_board_132 : decode cX10_board 132 = .ok (.getfield 121, 3) := by decide +kernel
theorem dX10_board_135 : decode cX10_board 135 = .ok (.iconst 1, 1) := by decide +kernel
theorem dX10_board_136 : decode cX10_board 136 = .ok (.iadd, 1) := by decide +kernel
theorem dX10_board_137 : decode cX10_board 137 = .ok (.putfield 121, 3) := by decide +kernel
theorem dX10_board_140 : decode cX10_board 140 = .ok (.aload_n 0, 1) := by decide +kernel
theorem dX10_board_141 : decode cX10_board 141 = .ok (.iconst 0, 1) := by decide +kernel
theorem dX10_board_142 : decode cX10_board 142 = .ok (.putfield 59, 3) := by decide +kernel
theorem dX10_board_145 : decode cX10_board 145 = .ok (.aload_n 0, 1) := by decide +kernel
theorem dX10_board_146 : decode cX10_board 146 = .ok (.invokevirtual 124, 3) := by decide +kernel
theorem dX10_board_149 : decode cX10_board 149 = .ok (.aload_n 0, 1) := by decide +kernel
theorem dX10_board_150 : decode cX10_board 150 = .ok (.getfield 115, 3) := by decide +kernel
theorem dX10_board_153 : decode cX10_board 153 = .ok (.ireturn, 1) := by decide +kernel
theorem dX10_stimulus_0 : decode cX10_stimulus 0 = .ok (.aload_n 0, 1) := by decide +kernel
theorem dX10_stimulus_1 : decode cX10_stimulus 1 = .ok (.getfield 59, 3) := by decide +kernel
theorem dX10_stimulus_4 : decode cX10_stimulus 4 = .ok (.ifCond .eq 14, 3) := by decide +kernel
theorem dX10_stimulus_7 : decode cX10_stimulus 7 = .ok (.aload_n 0, 1) := by decide +kernel
theorem dX10_stimulus_8 : decode cX10_stimulus 8 = .ok (.invokevirtual 97, 3) := by decide +kernel
theorem dX10_stimulus_11 : decode cX10_stimulus 11 = .ok (.aload_n 0, 1) := by decide +kernel
theorem dX10_stimulus_12 : decode cX10_stimulus 12 = .ok (.getfield 59, 3) := by decide +kernel
theorem dX10_stimulus_15 : decode cX10_stimulus 15 = .ok (.if_icmp .ge 7, 3) := by decide +kernel
theorem dX10_stimulus_18 : decode cX10_stimulus 18 = .ok (.sipush (-1003), 3) := by decide +kernel
theorem dX10_stimulus_21 : decode cX10_stimulus 21 = .ok (.ireturn, 1) := by decide +kernel
theorem dX10_stimulus_22 : decode cX10_stimulus 22 = .ok (.aload_n 0, 1) := by decide +kernel
theorem dX10_stimulus_23 : decode cX10_stimulus 23 = .ok (.aload_n 0, 1) := by decide +kernel
theorem dX10_stimulus_24 : decode cX10_stimulus 24 = .ok (.getfield 59, 3) := by decide +kernel
theorem dX10_stimulus_27 : decode cX10_stimulus 27 = .ok (.putfield 127, 3) := by decide +kernel
theorem dX10_stimulus_30 : decode cX10_stimulus 30 = .ok (.iconst 0, 1) := by decide +kernel
theorem dX10_stimulus_31 : decode cX10_stimulus 31 = .ok (.istore_n 1, 1) := by decide +kernel
theorem dX10_stimulus_32 : decode cX10_stimulus 32 = .ok (.iload_n 1, 1) := by decide +kernel
theorem dX10_stimulus_33 : decode cX10_stimulus 33 = .ok (.aload_n 0, 1) := by decide +kernel
theorem dX10_stimulus_34 : decode cX10_stimulus 34 = .ok (.getfield 127, 3) := by decide +kernel
theorem dX10_stimulus_37 : decode cX10_stimulus 37 = .ok (.if_icmp .ge 26, 3) := by decide +kernel
theorem dX10_stimulus_40 : decode cX10_stimulus 40 = .ok (.aload_n 0, 1) := by decide +kernel
theorem dX10_stimulus_41 : decode cX10_stimulus 41 = .ok (.getfield 19, 3) := by decide +kernel
theorem dX10_stimulus_44 : decode cX10_stimulus 44 = .ok (.iload_n 1, 1) := by decide +kernel
theorem dX10_stimulus_45 : decode cX10_stimulus 45 = .ok (.aload_n 0, 1) := by decide +kernel
theorem dX10_stimulus_46 : decode cX10_stimulus 46 = .ok (.getfield 7, 3) := by decide +kernel
theorem dX10_stimulus_49 : decode cX10_stimulus 49 = .ok (.iload_n 1, 1) := by decide +kernel
theorem dX10_stimulus_50 : decode cX10_stimulus 50 = .ok (.iaload, 1) := by decide +kernel
theorem dX10_stimulus_51 : decode cX10_stimulus 51 = .ok (.bipush 16, 2) := by decide +kernel
theorem dX10_stimulus_53 : decode cX10_stimulus 53 = .ok (.invokestatic 63, 3) := by decide +kernel
theorem dX10_stimulus_56 : decode cX10_stimulus 56 = .ok (.iastore, 1) := by decide +kernel
theorem dX10_stimulus_57 : decode cX10_stimulus 57 = .ok (.iinc 1 1, 3) := by decide +kernel
theorem dX10_stimulus_60 : decode cX10_stimulus 60 = .ok (.goto (-28), 3) := by decide +kernel
theorem dX10_stimulus_63 : decode cX10_stimulus 63 = .ok (.aload_n 0, 1) := by decide +kernel
theorem dX10_stimulus_64 : decode cX10_stimulus 64 = .ok (.dup, 1) := by decide +kernel
theorem dX10_stimulus_65 : decode cX10_stimulus 65 = .ok (.getfield 130, 3) := by decide +kernel
theorem dX10_stimulus_68 : decode cX10_stimulus 68 = .ok (.iconst 1, 1) := by decide +kernel
theorem dX10_stimulus_69 : decode cX10_stimulus 69 = .ok (.iadd, 1) := by decide +kernel
theorem dX10_stimulus_70 : decode cX10_stimulus 70 = .ok (.putfield 130, 3) := by decide +kernel
theorem dX10_stimulus_73 : decode cX10_stimulus 73 = .ok (.aload_n 0, 1) := by decide +kernel
theorem dX10_stimulus_74 : decode cX10_stimulus 74 = .ok (.iconst 0, 1) := by decide +kernel
theorem dX10_stimulus_75 : decode cX10_stimulus 75 = .ok (.putfield 59, 3) := by decide +kernel
theorem dX10_stimulus_78 : decode cX10_stimulus 78 = .ok (.aload_n 0, 1) := by decide +kernel
theorem dX10_stimulus_79 : decode cX10_stimulus 79 = .ok (.invokevirtual 124, 3) := by decide +kernel
theorem dX10_stimulus_82 : decode cX10_stimulus 82 = .ok (.aload_n 0, 1) := by decide +kernel
theorem dX10_stimulus_83 : decode cX10_stimulus 83 = .ok (.getfield 127, 3) := by decide +kernel
theorem dX10_stimulus_86 : decode cX10_stimulus 86 = .ok (.ireturn, 1) := by decide +kernel
theorem dX10_isStuck_0 : decode cX10_isStuck 0 = .ok (.iload_n 0, 1) := by decide +kernel
theorem dX10_isStuck_1 : decode cX10_isStuck 1 = .ok (.ifCond .le 24, 3) := by decide +kernel
theorem dX10_isStuck_4 : decode cX10_isStuck 4 = .ok (.iload_n 0, 1) := by decide +kernel
theorem dX10_isStuck_5 : decode cX10_isStuck 5 = .ok (.sipush 300, 3) := by decide +kernel
theorem dX10_isStuck_8 : decode cX10_isStuck 8 = .ok (.if_icmp .ge 17, 3) := by decide +kernel
theorem dX10_isStuck_11 : decode cX10_isStuck 11 = .ok (.iload_n 0, 1) := by decide +kernel
theorem dX10_isStuck_12 : decode cX10_isStuck 12 = .ok (.bipush 100, 2) := by decide +kernel
theorem dX10_isStuck_14 : decode cX10_isStuck 14 = .ok (.irem, 1) := by decide +kernel
theorem dX10_isStuck_15 : decode cX10_isStuck 15 = .ok (.iconst 2, 1) := by decide +kernel
theorem dX10_isStuck_16 : decode cX10_isStuck 16 = .ok (.iload_n 1, 1) := by decide +kernel
theorem dX10_isStuck_17 : decode cX10_isStuck 17 = .ok (.imul, 1) := by decide +kernel
theorem dX10_isStuck_18 : decode cX10_isStuck 18 = .ok (.if_icmp .ne 7, 3) := by decide +kernel
theorem dX10_isStuck_21 : decode cX10_isStuck 21 = .ok (.iconst 1, 1) := by decide +kernel
theorem dX10_isStuck_22 : decode cX10_isStuck 22 = .ok (.goto 4, 3) := by decide +kernel
theorem dX10_isStuck_25 : decode cX10_isStuck 25 = .ok (.iconst 0, 1) := by decide +kernel
theorem dX10_isStuck_26 : decode cX10_isStuck 26 = .ok (.ireturn, 1) := by decide +kernel
theorem dX10_pinValue_0 : decode cX10_pinValue 0 = .ok (.aload_n 0, 1) := by decide +kernel
theorem dX10_pinValue_1 : decode cX10_pinValue 1 = .ok (.getfield 16, 3) := by decide +kernel
theorem dX10_pinValue_4 : decode cX10_pinValue 4 = .ok (.iconst 2, 1) := by decide +kernel
theorem dX10_pinValue_5 : decode cX10_pinValue 5 = .ok (.iload_n 1, 1) := by decide +kernel
theorem dX10_pinValue_6 : decode cX10_pinValue 6 = .ok (.imul, 1) := by decide +kernel
theorem dX10_pinValue_7 : decode cX10_pinValue 7 = .ok (.iload_n 2, 1) := by decide +kernel
theorem dX10_pinValue_8 : decode cX10_pinValue 8 = .ok (.iadd, 1) := by decide +kernel
theorem dX10_pinValue_9 : decode cX10_pinValue 9 = .ok (.iaload, 1) := by decide +kernel
theorem dX10_pinValue_10 : decode cX10_pinValue 10 = .ok (.istore 5, 2) := by decide +kernel
theorem dX10_pinValue_12 : decode cX10_pinValue 12 = .ok (.iload_n 3, 1) := by decide +kernel
theorem dX10_pinValue_13 : decode cX10_pinValue 13 = .ok (.sipush 300, 3) := by decide +kernel
theorem dX10_pinValue_16 : decode cX10_pinValue 16 = .ok (.iconst 2, 1) := by decide +kernel
theorem dX10_pinValue_17 : decode cX10_pinValue 17 = .ok (.iload_n 1, 1) := by decide +kernel
theorem dX10_pinValue_18 : decode cX10_pinValue 18 = .ok (.imul, 1) := by decide +kernel
theorem dX10_pinValue_19 : decode cX10_pinValue 19 = .ok (.iadd, 1) := by decide +kernel
theorem dX10_pinValue_20 : decode cX10_pinValue 20 = .ok (.iload_n 2, 1) := by decide +kernel
theorem dX10_pinValue_21 : decode cX10_pinValue 21 = .ok (.iadd, 1) := by decide +kernel
theorem dX10_pinValue_22 : decode cX10_pinValue 22 = .ok (.if_icmp .ne 7, 3) := by decide +kernel
theorem dX10_pinValue_25 : decode cX10_pinValue 25 = .ok (.iconst 1, 1) := by decide +kernel
theorem dX10_pinValue_26 : decode cX10_pinValue 26 = .ok (.goto 25, 3) := by decide +kernel
theorem dX10_pinValue_29 : decode cX10_pinValue 29 = .ok (.iload 4, 2) := by decide +kernel
theorem dX10_pinValue_31 : decode cX10_pinValue 31 = .ok (.ifCond .eq 13, 3) := by decide +kernel
theorem dX10_pinValue_34 : decode cX10_pinValue 34 = .ok (.aload_n 0, 1) := by decide +kernel
theorem dX10_pinValue_35 : decode cX10_pinValue 35 = .ok (.getfield 34, 3) := by decide +kernel
theorem dX10_pinValue_38 : decode cX10_pinValue 38 = .ok (.iload 5, 2) := by decide +kernel
theorem dX10_pinValue_40 : decode cX10_pinValue 40 = .ok (.iaload, 1) := by decide +kernel
theorem dX10_pinValue_41 : decode cX10_pinValue 41 = .ok (.goto 10, 3) := by decide +kernel
theorem dX10_pinValue_44 : decode cX10_pinValue 44 = .ok (.aload_n 0, 1) := by decide +kernel
theorem dX10_pinValue_45 : decode cX10_pinValue 45 = .ok (.getfield 31, 3) := by decide +kernel
theorem dX10_pinValue_48 : decode cX10_pinValue 48 = .ok (.iload 5, 2) := by decide +kernel
theorem dX10_pinValue_50 : decode cX10_pinValue 50 = .ok (.iaload, 1) := by decide +kernel
theorem dX10_pinValue_51 : decode cX10_pinValue 51 = .ok (.ireturn, 1) := by decide +kernel
theorem dX10_plainValue_0 : decode cX10_plainValue 0 = .ok (.aload_n 0, 1) := by decide +kernel
theorem dX10_plainValue_1 : decode cX10_plainValue 1 = .ok (.getfield 13, 3) := by decide +kernel
theorem dX10_plainValue_4 : decode cX10_plainValue 4 = .ok (.iload_n 1, 1) := by decide +kernel
theorem dX10_plainValue_5 : decode cX10_plainValue 5 = .ok (.iaload, 1) := by decide +kernel
theorem dX10_plainValue_6 : decode cX10_plainValue 6 = .ok (.tableswitch 110 0 4 #[34, 45, 63, 81, 99], 34) := by decide +kernel
theorem dX10_plainValue_40 : decode cX10_plainValue 40 = .ok (.aload_n 0, 1) := by decide +kernel
theorem dX10_plainValue_41 : decode cX10_plainValue 41 = .ok (.getfield 19, 3) := by decide +kernel
theorem dX10_plainValue_44 : decode cX10_plainValue 44 = .ok (.iload_n 2, 1) := by decide +kernel
theorem dX10_plainValue_45 : decode cX10_plainValue 45 = .ok (.iaload, 1) := by decide +kernel
theorem dX10_plainValue_46 : decode cX10_plainValue 46 = .ok (.iload_n 1, 1) := by decide +kernel
theorem dX10_plainValue_47 : decode cX10_plainValue 47 = .ok (.ishr, 1) := by decide +kernel
theorem dX10_plainValue_48 : decode cX10_plainValue 48 = .ok (.iconst 1, 1) := by decide +kernel
theorem dX10_plainValue_49 : decode cX10_plainValue 49 = .ok (.iand, 1) := by decide +kernel
theorem dX10_plainValue_50 : decode cX10_plainValue 50 = .ok (.ireturn, 1) := by decide +kernel
theorem dX10_plainValue_51 : decode cX10_plainValue 51 = .ok (.aload_n 0, 1) := by decide +kernel
theorem dX10_plainValue_52 : decode cX10_plainValue 52 = .ok (.iload_n 1, 1) := by decide +kernel
theorem dX10_plainValue_53 : decode cX10_plainValue 53 = .ok (.iconst 0, 1) := by decide +kernel
theorem dX10_plainValue_54 : decode cX10_plainValue 54 = .ok (.iload_n 3, 1) := by decide +kernel
theorem dX10_plainValue_55 : decode cX10_plainValue 55 = .ok (.iconst 0, 1) := by decide +kernel
theorem dX10_plainValue_56 : decode cX10_plainValue 56 = .ok (.invokevirtual 133, 3) := by decide +kernel
theorem dX10_plainValue_59 : decode cX10_plainValue 59 = .ok (.aload_n 0, 1) := by decide +kernel
theorem dX10_plainValue_60 : decode cX10_plainValue 60 = .ok (.iload_n 1, 1) := by decide +kernel
theorem dX10_plainValue_61 : decode cX10_plainValue 61 = .ok (.iconst 1, 1) := by decide +kernel
theorem dX10_plainValue_62 : decode cX10_plainValue 62 = .ok (.iload_n 3, 1) := by decide +kernel
theorem dX10_plainValue_63 : decode cX10_plainValue 63 = .ok (.iconst 0, 1) := by decide +kernel
theorem dX10_plainValue_64 : decode cX10_plainValue 64 = .ok (.invokevirtual 133, 3) := by decide +kernel
theorem dX10_plainValue_67 : decode cX10_plainValue 67 = .ok (.iand, 1) := by decide +kernel
theorem dX10_plainValue_68 : decode cX10_plainValue 68 = .ok (.ireturn, 1) := by decide +kernel
theorem dX10_plainValue_69 : decode cX10_plainValue 69 = .ok (.aload_n 0, 1) := by decide +kernel
theorem dX10_plainValue_70 : decode cX10_plainValue 70 = .ok (.iload_n 1, 1) := by decide +kernel
theorem dX10_plainValue_71 : decode cX10_plainValue 71 = .ok (.iconst 0, 1) := by decide +kernel
theorem dX10_plainValue_72 : decode cX10_plainValue 72 = .ok (.iload_n 3, 1) := by decide +kernel
theorem dX10_plainValue_73 : decode cX10_plainValue 73 = .ok (.iconst 0, 1) := by decide +kernel
theorem dX10_plainValue_74 : decode cX10_plainValue 74 = .ok (.invokevirtual 133, 3) := by decide +kernel
theorem dX10_plainValue_77 : decode cX10_plainValue 77 = .ok (.aload_n 0, 1) := by decide +kernel
theorem dX10_plainValue_78 : decode cX10_plainValue 78 = .ok (.iload_n 1, 1) := by decide +kernel
theorem dX10_plainValue_79 : decode cX10_plainValue 79 = .ok (.iconst 1, 1) := by decide +kernel
theorem dX10_plainValue_80 : decode cX10_plainValue 80 = .ok (.iload_n 3, 1) := by decide +kernel
theorem dX10_plainValue_81 : decode cX10_plainValue 81 = .ok (.iconst 0, 1) := by decide +kernel
theorem dX10_plainValue_82 : decode cX10_plainValue 82 = .ok (.invokevirtual 133, 3) := by decide +kernel
theorem dX10_plainValue_85 : decode cX10_plainValue 85 = .ok (.ior, 1) := by decide +kernel
theorem dX10_plainValue_86 : decode cX10_plainValue 86 = .ok (.ireturn, 1) := by decide +kernel
theorem dX10_plainValue_87 : decode cX10_plainValue 87 = .ok (.aload_n 0, 1) := by decide +kernel
theorem dX10_plainValue_88 : decode cX10_plainValue 88 = .ok (.iload_n 1, 1) := by decide +kernel
theorem dX10_plainValue_89 : decode cX10_plainValue 89 = .ok (.iconst 0, 1) := by decide +kernel
theorem dX10_plainValue_90 : decode cX10_plainValue 90 = .ok (.iload_n 3, 1) := by decide +kernel
theorem dX10_plainValue_91 : decode cX10_plainValue 91 = .ok (.iconst 0, 1) := by decide +kernel
theorem dX10_plainValue_92 : decode cX10_plainValue 92 = .ok (.invokevirtual 133, 3) := by decide +kernel
theorem dX10_plainValue_95 : decode cX10_plainValue 95 = .ok (.aload_n 0, 1) := by decide +kernel
theorem dX10_plainValue_96 : decode cX10_plainValue 96 = .ok (.iload_n 1, 1) := by decide +kernel
theorem dX10_plainValue_97 : decode cX10_plainValue 97 = .ok (.iconst 1, 1) := by decide +kernel
theorem dX10_plainValue_98 : decode cX10_plainValue 98 = .ok (.iload_n 3, 1) := by decide +kernel
theorem dX10_plainValue_99 : decode cX10_plainValue 99 = .ok (.iconst 0, 1) := by decide +kernel
theorem dX10_plainValue_100 : decode cX10_plainValue 100 = .ok (.invokevirtual 133, 3) := by decide +kernel
theorem dX10_plainValue_103 : decode cX10_plainValue 103 = .ok (.ixor, 1) := by decide +kernel
theorem dX10_plainValue_104 : decode cX10_plainValue 104 = .ok (.ireturn, 1) := by decide +kernel
theorem dX10_plainValue_105 : decode cX10_plainValue 105 = .ok (.iconst 1, 1) := by decide +kernel
theorem dX10_plainValue_106 : decode cX10_plainValue 106 = .ok (.aload_n 0, 1) := by decide +kernel
theorem dX10_plainValue_107 : decode cX10_plainValue 107 = .ok (.iload_n 1, 1) := by decide +kernel
theorem dX10_plainValue_108 : decode cX10_plainValue 108 = .ok (.iconst 0, 1) := by decide +kernel
theorem dX10_plainValue_109 : decode cX10_plainValue 109 = .ok (.iload_n 3, 1) := by decide +kernel
theorem dX10_plainValue_110 : decode cX10_plainValue 110 = .ok (.iconst 0, 1) := by decide +kernel
theorem dX10_plainValue_111 : decode cX10_plainValue 111 = .ok (.invokevirtual 133, 3) := by decide +kernel
theorem dX10_plainValue_114 : decode cX10_plainValue 114 = .ok (.isub, 1) := by decide +kernel
theorem dX10_plainValue_115 : decode cX10_plainValue 115 = .ok (.ireturn, 1) := by decide +kernel
theorem dX10_plainValue_116 : decode cX10_plainValue 116 = .ok (.iload_n 2, 1) := by decide +kernel
theorem dX10_plainValue_117 : decode cX10_plainValue 117 = .ok (.ifCond .ne 7, 3) := by decide +kernel
theorem dX10_plainValue_120 : decode cX10_plainValue 120 = .ok (.iconst 0, 1) := by decide +kernel
theorem dX10_plainValue_121 : decode cX10_plainValue 121 = .ok (.goto 11, 3) := by decide +kernel
theorem dX10_plainValue_124 : decode cX10_plainValue 124 = .ok (.aload_n 0, 1) := by decide +kernel
theorem dX10_plainValue_125 : decode cX10_plainValue 125 = .ok (.iload_n 1, 1) := by decide +kernel
theorem dX10_plainValue_126 : decode cX10_plainValue 126 = .ok (.iconst 0, 1) := by decide +kernel
theorem dX10_plainValue_127 : decode cX10_plainValue 127 = .ok (.iload_n 3, 1) := by decide +kernel
theorem dX10_plainValue_128 : decode cX10_plainValue 128 = .ok (.iconst 1, 1) := by decide +kernel
theorem dX10_plainValue_129 : decode cX10_plainValue 129 = .ok (.invokevirtual 133, 3) := by decide +kernel
theorem dX10_plainValue_132 : decode cX10_plainValue 132 = .ok (.ireturn, 1) := by decide +kernel
theorem dX10_goTick_0 : decode cX10_goTick 0 = .ok (.iconst 0, 1) := by decide +kernel
theorem dX10_goTick_1 : decode cX10_goTick 1 = .ok (.istore_n 3, 1) := by decide +kernel
theorem dX10_goTick_2 : decode cX10_goTick 2 = .ok (.iload_n 3, 1) := by decide +kernel
theorem dX10_goTick_3 : decode cX10_goTick 3 = .ok (.aload_n 0, 1) := by decide +kernel
theorem dX10_goTick_4 : decode cX10_goTick 4 = .ok (.getfield 115, 3) := by decide +kernel
theorem dX10_goTick_7 : decode cX10_goTick 7 = .ok (.if_icmp .ge 21, 3) := by decide +kernel
theorem dX10_goTick_10 : decode cX10_goTick 10 = .ok (.aload_n 0, 1) := by decide +kernel
theorem dX10_goTick_11 : decode cX10_goTick 11 = .ok (.getfield 34, 3) := by decide +kernel
theorem dX10_goTick_14 : decode cX10_goTick 14 = .ok (.iload_n 3, 1) := by decide +kernel
theorem dX10_goTick_15 : decode cX10_goTick 15 = .ok (.aload_n 0, 1) := by decide +kernel
theorem dX10_goTick_16 : decode cX10_goTick 16 = .ok (.getfield 31, 3) := by decide +kernel
theorem dX10_goTick_19 : decode cX10_goTick 19 = .ok (.iload_n 3, 1) := by decide +kernel
theorem dX10_goTick_20 : decode cX10_goTick 20 = .ok (.iaload, 1) := by decide +kernel
theorem dX10_goTick_21 : decode cX10_goTick 21 = .ok (.iastore, 1) := by decide +kernel
theorem dX10_goTick_22 : decode cX10_goTick 22 = .ok (.iinc 3 1, 3) := by decide +kernel
theorem dX10_goTick_25 : decode cX10_goTick 25 = .ok (.goto (-23), 3) := by decide +kernel
theorem dX10_goTick_28 : decode cX10_goTick 28 = .ok (.iconst 0, 1) := by decide +kernel
theorem dX10_goTick_29 : decode cX10_goTick 29 = .ok (.istore_n 3, 1) := by decide +kernel
theorem dX10_goTick_30 : decode cX10_goTick 30 = .ok (.iload_n 3, 1) := by decide +kernel
theorem dX10_goTick_31 : decode cX10_goTick 31 = .ok (.iconst 2, 1) := by decide +kernel
theorem dX10_goTick_32 : decode cX10_goTick 32 = .ok (.aload_n 0, 1) := by decide +kernel
theorem dX10_goTick_33 : decode cX10_goTick 33 = .ok (.getfield 115, 3) := by decide +kernel
theorem dX10_goTick_36 : decode cX10_goTick 36 = .ok (.imul, 1) := by decide +kernel
theorem dX10_goTick_37 : decode cX10_goTick 37 = .ok (.if_icmp .ge 101, 3) := by decide +kernel
theorem dX10_goTick_40 : decode cX10_goTick 40 = .ok (.iload_n 3, 1) := by decide +kernel
theorem dX10_goTick_41 : decode cX10_goTick 41 = .ok (.aload_n 0, 1) := by decide +kernel
theorem dX10_goTick_42 : decode cX10_goTick 42 = .ok (.getfield 115, 3) := by decide +kernel
theorem dX10_goTick_45 : decode cX10_goTick 45 = .ok (.irem, 1) := by decide +kernel
theorem dX10_goTick_46 : decode cX10_goTick 46 = .ok (.istore 4, 2) := by decide +kernel
theorem dX10_goTick_48 : decode cX10_goTick 48 = .ok (.aload_n 0, 1) := by decide +kernel
theorem dX10_goTick_49 : decode cX10_goTick 49 = .ok (.getfield 13, 3) := by decide +kernel
theorem dX10_goTick_52 : decode cX10_goTick 52 = .ok (.iload 4, 2) := by decide +kernel
theorem dX10_goTick_54 : decode cX10_goTick 54 = .ok (.iaload, 1) := by decide +kernel
theorem dX10_goTick_55 : decode cX10_goTick 55 = .ok (.iconst 5, 1) := by decide +kernel
theorem dX10_goTick_56 : decode cX10_goTick 56 = .ok (.if_icmp .ne 7, 3) := by decide +kernel
theorem dX10_goTick_59 : decode cX10_goTick 59 = .ok (.iconst 1, 1) := by decide +kernel
theorem dX10_goTick_60 : decode cX10_goTick 60 = .ok (.goto 4, 3) := by decide +kernel
theorem dX10_goTick_63 : decode cX10_goTick 63 = .ok (.iconst 0, 1) := by decide +kernel
theorem dX10_goTick_64 : decode cX10_goTick 64 = .ok (.iload_n 3, 1) := by decide +kernel
theorem dX10_goTick_65 : decode cX10_goTick 65 = .ok (.aload_n 0, 1) := by decide +kernel
theorem dX10_goTick_66 : decode cX10_goTick 66 = .ok (.getfield 115, 3) := by decide +kernel
theorem dX10_goTick_69 : decode cX10_goTick 69 = .ok (.if_icmp .ge 7, 3) := by decide +kernel
theorem dX10_goTick_72 : decode cX10_goTick 72 = .ok (.iconst 1, 1) := by decide +kernel
theorem dX10_goTick_73 : decode cX10_goTick 73 = .ok (.goto 4, 3) := by decide +kernel
theorem dX10_goTick_76 : decode cX10_goTick 76 = .ok (.iconst 0, 1) := by decide +kernel
theorem dX10_goTick_77 : decode cX10_goTick 77 = .ok (.if_icmp .ne 55, 3) := by decide +kernel
theorem dX10_goTick_80 : decode cX10_goTick 80 = .ok (.aload_n 0, 1) := by decide +kernel
theorem dX10_goTick_81 : decode cX10_goTick 81 = .ok (.getfield 31, 3) := by decide +kernel
theorem dX10_goTick_84 : decode cX10_goTick 84 = .ok (.iload 4, 2) := by decide +kernel
theorem dX10_goTick_86 : decode cX10_goTick 86 = .ok (.iload_n 2, 1) := by decide +kernel
theorem dX10_goTick_87 : decode cX10_goTick 87 = .ok (.iload 4, 2) := by decide +kernel
theorem dX10_goTick_89 : decode cX10_goTick 89 = .ok (.invokestatic 137, 3) := by decide +kernel
theorem dX10_goTick_92 : decode cX10_goTick 92 = .ok (.ifCond .eq 12, 3) := by decide +kernel
theorem dX10_goTick_95 : decode cX10_goTick 95 = .ok (.iload_n 2, 1) := by decide +kernel
theorem dX10_goTick_96 : decode cX10_goTick 96 = .ok (.bipush 100, 2) := by decide +kernel
theorem dX10_goTick_98 : decode cX10_goTick 98 = .ok (.idiv, 1) := by decide +kernel
theorem dX10_goTick_99 : decode cX10_goTick 99 = .ok (.iconst 1, 1) := by decide +kernel
theorem dX10_goTick_100 : decode cX10_goTick 100 = .ok (.isub, 1) := by decide +kernel
theorem dX10_goTick_101 : decode cX10_goTick 101 = .ok (.goto 11, 3) := by decide +kernel
theorem dX10_goTick_104 : decode cX10_goTick 104 = .ok (.aload_n 0, 1) := by decide +kernel
theorem dX10_goTick_105 : decode cX10_goTick 105 = .ok (.iload 4, 2) := by decide +kernel
theorem dX10_goTick_107 : decode cX10_goTick 107 = .ok (.iload_n 1, 1) := by decide +kernel
theorem dX10_goTick_108 : decode cX10_goTick 108 = .ok (.iload_n 2, 1) := by decide +kernel
theorem dX10_goTick_109 : decode cX10_goTick 109 = .ok (.invokevirtual 140, 3) := by decide +kernel
theorem dX10_goTick_112 : decode cX10_goTick 112 = .ok (.iastore, 1) := by decide +kernel
theorem dX10_goTick_113 : decode cX10_goTick 113 = .ok (.aload_n 0, 1) := by decide +kernel
theorem dX10_goTick_114 : decode cX10_goTick 114 = .ok (.getfield 28, 3) := by decide +kernel
theorem dX10_goTick_117 : decode cX10_goTick 117 = .ok (.iload 4, 2) := by decide +kernel
theorem dX10_goTick_119 : decode cX10_goTick 119 = .ok (.dup2, 1) := by decide +kernel
theorem dX10_goTick_120 : decode cX10_goTick 120 = .ok (.iaload, 1) := by decide +kernel
theorem dX10_goTick_121 : decode cX10_goTick 121 = .ok (.aload_n 0, 1) := by decide +kernel
theorem dX10_goTick_122 : decode cX10_goTick 122 = .ok (.getfield 31, 3) := by decide +kernel
theorem dX10_goTick_125 : decode cX10_goTick 125 = .ok (.iload 4, 2) := by decide +kernel
theorem dX10_goTick_127 : decode cX10_goTick 127 = .ok (.iaload, 1) := by decide +kernel
theorem dX10_goTick_128 : decode cX10_goTick 128 = .ok (.iload_n 1, 1) := by decide +kernel
theorem dX10_goTick_129 : decode cX10_goTick 129 = .ok (.ishl, 1) := by decide +kernel
theorem dX10_goTick_130 : decode cX10_goTick 130 = .ok (.ior, 1) := by decide +kernel
theorem dX10_goTick_131 : decode cX10_goTick 131 = .ok (.iastore, 1) := by decide +kernel
theorem dX10_goTick_132 : decode cX10_goTick 132 = .ok (.iinc 3 1, 3) := by decide +kernel
theorem dX10_goTick_135 : decode cX10_goTick 135 = .ok (.goto (-105), 3) := by decide +kernel
theorem dX10_goTick_138 : decode cX10_goTick 138 = .ok (.return_, 1) := by decide +kernel
theorem dX10_goAll_0 : decode cX10_goAll 0 = .ok (.iconst 0, 1) := by decide +kernel
theorem dX10_goAll_1 : decode cX10_goAll 1 = .ok (.istore_n 2, 1) := by decide +kernel
theorem dX10_goAll_2 : decode cX10_goAll 2 = .ok (.iload_n 2, 1) := by decide +kernel
theorem dX10_goAll_3 : decode cX10_goAll 3 = .ok (.aload_n 0, 1) := by decide +kernel
theorem dX10_goAll_4 : decode cX10_goAll 4 = .ok (.getfield 115, 3) := by decide +kernel
theorem dX10_goAll_7 : decode cX10_goAll 7 = .ok (.if_icmp .ge 23, 3) := by decide +kernel
theorem dX10_goAll_10 : decode cX10_goAll 10 = .ok (.aload_n 0, 1) := by decide +kernel
theorem dX10_goAll_11 : decode cX10_goAll 11 = .ok (.getfield 28, 3) := by decide +kernel
theorem dX10_goAll_14 : decode cX10_goAll 14 = .ok (.iload_n 2, 1) := by decide +kernel
theorem dX10_goAll_15 : decode cX10_goAll 15 = .ok (.iconst 0, 1) := by decide +kernel
theorem dX10_goAll_16 : decode cX10_goAll 16 = .ok (.iastore, 1) := by decide +kernel
theorem dX10_goAll_17 : decode cX10_goAll 17 = .ok (.aload_n 0, 1) := by decide +kernel
theorem dX10_goAll_18 : decode cX10_goAll 18 = .ok (.getfield 31, 3) := by decide +kernel
theorem dX10_goAll_21 : decode cX10_goAll 21 = .ok (.iload_n 2, 1) := by decide +kernel
theorem dX10_goAll_22 : decode cX10_goAll 22 = .ok (.iconst 0, 1) := by decide +kernel
theorem dX10_goAll_23 : decode cX10_goAll 23 = .ok (.iastore, 1) := by decide +kernel
theorem dX10_goAll_24 : decode cX10_goAll 24 = .ok (.iinc 2 1, 3) := by decide +kernel
theorem dX10_goAll_27 : decode cX10_goAll 27 = .ok (.goto (-25), 3) := by decide +kernel
theorem dX10_goAll_30 : decode cX10_goAll 30 = .ok (.iconst 0, 1) := by decide +kernel
theorem dX10_goAll_31 : decode cX10_goAll 31 = .ok (.istore_n 2, 1) := by decide +kernel
theorem dX10_goAll_32 : decode cX10_goAll 32 = .ok (.iload_n 2, 1) := by decide +kernel
theorem dX10_goAll_33 : decode cX10_goAll 33 = .ok (.aload_n 0, 1) := by decide +kernel
theorem dX10_goAll_34 : decode cX10_goAll 34 = .ok (.getfield 127, 3) := by decide +kernel
theorem dX10_goAll_37 : decode cX10_goAll 37 = .ok (.if_icmp .ge 15, 3) := by decide +kernel
theorem dX10_goAll_40 : decode cX10_goAll 40 = .ok (.aload_n 0, 1) := by decide +kernel
theorem dX10_goAll_41 : decode cX10_goAll 41 = .ok (.iload_n 2, 1) := by decide +kernel
theorem dX10_goAll_42 : decode cX10_goAll 42 = .ok (.iload_n 1, 1) := by decide +kernel
theorem dX10_goAll_43 : decode cX10_goAll 43 = .ok (.invokevirtual 144, 3) := by decide +kernel
theorem dX10_goAll_46 : decode cX10_goAll 46 = .ok (.iinc 2 1, 3) := by decide +kernel
theorem dX10_goAll_49 : decode cX10_goAll 49 = .ok (.goto (-17), 3) := by decide +kernel
theorem dX10_goAll_52 : decode cX10_goAll 52 = .ok (.return_, 1) := by decide +kernel
theorem dX10_markBy_0 : decode cX10_markBy 0 = .ok (.iconst 0, 1) := by decide +kernel
theorem dX10_markBy_1 : decode cX10_markBy 1 = .ok (.istore_n 2, 1) := by decide +kernel
theorem dX10_markBy_2 : decode cX10_markBy 2 = .ok (.iconst 0, 1) := by decide +kernel
theorem dX10_markBy_3 : decode cX10_markBy 3 = .ok (.istore_n 3, 1) := by decide +kernel
theorem dX10_markBy_4 : decode cX10_markBy 4 = .ok (.iload_n 3, 1) := by decide +kernel
theorem dX10_markBy_5 : decode cX10_markBy 5 = .ok (.aload_n 0, 1) := by decide +kernel
theorem dX10_markBy_6 : decode cX10_markBy 6 = .ok (.getfield 127, 3) := by decide +kernel
theorem dX10_markBy_9 : decode cX10_markBy 9 = .ok (.if_icmp .ge 41, 3) := by decide +kernel
theorem dX10_markBy_12 : decode cX10_markBy 12 = .ok (.iconst 2, 1) := by decide +kernel
theorem dX10_markBy_13 : decode cX10_markBy 13 = .ok (.iload_n 2, 1) := by decide +kernel
theorem dX10_markBy_14 : decode cX10_markBy 14 = .ok (.imul, 1) := by decide +kernel
theorem dX10_markBy_15 : decode cX10_markBy 15 = .ok (.iload_n 1, 1) := by decide +kernel
theorem dX10_markBy_16 : decode cX10_markBy 16 = .ok (.iload_n 3, 1) := by decide +kernel
theorem dX10_markBy_17 : decode cX10_markBy 17 = .ok (.ishr, 1) := by decide +kernel
theorem dX10_markBy_18 : decode cX10_markBy 18 = .ok (.iconst 1, 1) := by decide +kernel
theorem dX10_markBy_19 : decode cX10_markBy 19 = .ok (.iand, 1) := by decide +kernel
theorem dX10_markBy_20 : decode cX10_markBy 20 = .ok (.iadd, 1) := by decide +kernel
theorem dX10_markBy_21 : decode cX10_markBy 21 = .ok (.istore 4, 2) := by decide +kernel
theorem dX10_markBy_23 : decode cX10_markBy 23 = .ok (.iload 4, 2) := by decide +kernel
theorem dX10_markBy_25 : decode cX10_markBy 25 = .ok (.iload_n 2, 1) := by decide +kernel
theorem dX10_markBy_26 : decode cX10_markBy 26 = .ok (.sipush 128, 3) := by decide +kernel
theorem dX10_markBy_29 : decode cX10_markBy 29 = .ok (.if_icmp .lt 8, 3) := by decide +kernel
theorem dX10_markBy_32 : decode cX10_markBy 32 = .ok (.bipush 29, 2) := by decide +kernel
theorem dX10_markBy_34 : decode cX10_markBy 34 = .ok (.goto 4, 3) := by decide +kernel
theorem dX10_markBy_37 : decode cX10_markBy 37 = .ok (.iconst 0, 1) := by decide +kernel
theorem dX10_markBy_38 : decode cX10_markBy 38 = .ok (.ixor, 1) := by decide +kernel
theorem dX10_markBy_39 : decode cX10_markBy 39 = .ok (.sipush 255, 3) := by decide +kernel
theorem dX10_markBy_42 : decode cX10_markBy 42 = .ok (.iand, 1) := by decide +kernel
theorem dX10_markBy_43 : decode cX10_markBy 43 = .ok (.istore_n 2, 1) := by decide +kernel
theorem dX10_markBy_44 : decode cX10_markBy 44 = .ok (.iinc 3 1, 3) := by decide +kernel
theorem dX10_markBy_47 : decode cX10_markBy 47 = .ok (.goto (-43), 3) := by decide +kernel
theorem dX10_markBy_50 : decode cX10_markBy 50 = .ok (.iload_n 2, 1) := by decide +kernel
theorem dX10_markBy_51 : decode cX10_markBy 51 = .ok (.ireturn, 1) := by decide +kernel
theorem dX10_addFault_0 : decode cX10_addFault 0 = .ok (.aload_n 0, 1) := by decide +kernel
theorem dX10_addFault_1 : decode cX10_addFault 1 = .ok (.getfield 43, 3) := by decide +kernel
theorem dX10_addFault_4 : decode cX10_addFault 4 = .ok (.aload_n 0, 1) := by decide +kernel
theorem dX10_addFault_5 : decode cX10_addFault 5 = .ok (.getfield 148, 3) := by decide +kernel
theorem dX10_addFault_8 : decode cX10_addFault 8 = .ok (.iload_n 1, 1) := by decide +kernel
theorem dX10_addFault_9 : decode cX10_addFault 9 = .ok (.iastore, 1) := by decide +kernel
theorem dX10_addFault_10 : decode cX10_addFault 10 = .ok (.aload_n 0, 1) := by decide +kernel
theorem dX10_addFault_11 : decode cX10_addFault 11 = .ok (.dup, 1) := by decide +kernel
theorem dX10_addFault_12 : decode cX10_addFault 12 = .ok (.getfield 148, 3) := by decide +kernel
theorem dX10_addFault_15 : decode cX10_addFault 15 = .ok (.iconst 1, 1) := by decide +kernel
theorem dX10_addFault_16 : decode cX10_addFault 16 = .ok (.iadd, 1) := by decide +kernel
theorem dX10_addFault_17 : decode cX10_addFault 17 = .ok (.putfield 148, 3) := by decide +kernel
theorem dX10_addFault_20 : decode cX10_addFault 20 = .ok (.return_, 1) := by decide +kernel
theorem dX10_layFaults_0 : decode cX10_layFaults 0 = .ok (.aload_n 0, 1) := by decide +kernel
theorem dX10_layFaults_1 : decode cX10_layFaults 1 = .ok (.iconst 0, 1) := by decide +kernel
theorem dX10_layFaults_2 : decode cX10_layFaults 2 = .ok (.putfield 148, 3) := by decide +kernel
theorem dX10_layFaults_5 : decode cX10_layFaults 5 = .ok (.iconst 1, 1) := by decide +kernel
theorem dX10_layFaults_6 : decode cX10_layFaults 6 = .ok (.istore_n 1, 1) := by decide +kernel
theorem dX10_layFaults_7 : decode cX10_layFaults 7 = .ok (.iload_n 1, 1) := by decide +kernel
theorem dX10_layFaults_8 : decode cX10_layFaults 8 = .ok (.iconst 3, 1) := by decide +kernel
theorem dX10_layFaults_9 : decode cX10_layFaults 9 = .ok (.if_icmp .ge 37, 3) := by decide +kernel
theorem dX10_layFaults_12 : decode cX10_layFaults 12 = .ok (.iconst 0, 1) := by decide +kernel
theorem dX10_layFaults_13 : decode cX10_layFaults 13 = .ok (.istore_n 2, 1) := by decide +kernel
theorem dX10_layFaults_14 : decode cX10_layFaults 14 = .ok (.iload_n 2, 1) := by decide +kernel
theorem dX10_layFaults_15 : decode cX10_layFaults 15 = .ok (.aload_n 0, 1) := by decide +kernel
theorem dX10_layFaults_16 : decode cX10_layFaults 16 = .ok (.getfield 115, 3) := by decide +kernel
theorem dX10_layFaults_19 : decode cX10_layFaults 19 = .ok (.if_icmp .ge 21, 3) := by decide +kernel
theorem dX10_layFaults_22 : decode cX10_layFaults 22 = .ok (.aload_n 0, 1) := by decide +kernel
theorem dX10_layFaults_23 : decode cX10_layFaults 23 = .ok (.bipush 100, 2) := by decide +kernel
theorem dX10_layFaults_25 : decode cX10_layFaults 25 = .ok (.iload_n 1, 1) := by decide +kernel
theorem dX10_layFaults_26 : decode cX10_layFaults 26 = .ok (.imul, 1) := by decide +kernel
theorem dX10_layFaults_27 : decode cX10_layFaults 27 = .ok (.iconst 2, 1) := by decide +kernel
theorem dX10_layFaults_28 : decode cX10_layFaults 28 = .ok (.iload_n 2, 1) := by decide +kernel
theorem dX10_layFaults_29 : decode cX10_layFaults 29 = .ok (.imul, 1) := by decide +kernel
theorem dX10_layFaults_30 : decode cX10_layFaults 30 = .ok (.iadd, 1) := by decide +kernel
theorem dX10_layFaults_31 : decode cX10_layFaults 31 = .ok (.invokevirtual 151, 3) := by decide +kernel
theorem dX10_layFaults_34 : decode cX10_layFaults 34 = .ok (.iinc 2 1, 3) := by decide +kernel
theorem dX10_layFaults_37 : decode cX10_layFaults 37 = .ok (.goto (-23), 3) := by decide +kernel
theorem dX10_layFaults_40 : decode cX10_layFaults 40 = .ok (.iinc 1 1, 3) := by decide +kernel
theorem dX10_layFaults_43 : decode cX10_layFaults 43 = .ok (.goto (-36), 3) := by decide +kernel
theorem dX10_layFaults_46 : decode cX10_layFaults 46 = .ok (.iconst 0, 1) := by decide +kernel
theorem dX10_layFaults_47 : decode cX10_layFaults 47 = .ok (.istore_n 1, 1) := by decide +kernel
theorem dX10_layFaults_48 : decode cX10_layFaults 48 = .ok (.iload_n 1, 1) := by decide +kernel
theorem dX10_layFaults_49 : decode cX10_layFaults 49 = .ok (.iconst 2, 1) := by decide +kernel
theorem dX10_layFaults_50 : decode cX10_layFaults 50 = .ok (.aload_n 0, 1) := by decide +kernel
theorem dX10_layFaults_51 : decode cX10_layFaults 51 = .ok (.getfield 115, 3) := by decide +kernel
theorem dX10_layFaults_54 : decode cX10_layFaults 54 = .ok (.imul, 1) := by decide +kernel
theorem dX10_layFaults_55 : decode cX10_layFaults 55 = .ok (.if_icmp .ge 35, 3) := by decide +kernel
theorem dX10_layFaults_58 : decode cX10_layFaults 58 = .ok (.iload_n 1, 1) := by decide +kernel
theorem dX10_layFaults_59 : decode cX10_layFaults 59 = .ok (.iconst 2, 1) := by decide +kernel
theorem dX10_layFaults_60 : decode cX10_layFaults 60 = .ok (.irem, 1) := by decide +kernel
theorem dX10_layFaults_61 : decode cX10_layFaults 61 = .ok (.aload_n 0, 1) := by decide +kernel
theorem dX10_layFaults_62 : decode cX10_layFaults 62 = .ok (.getfield 13, 3) := by decide +kernel
theorem dX10_layFaults_65 : decode cX10_layFaults 65 = .ok (.iload_n 1, 1) := by decide +kernel
theorem dX10_layFaults_66 : decode cX10_layFaults 66 = .ok (.iconst 2, 1) := by decide +kernel
theorem dX10_layFaults_67 : decode cX10_layFaults 67 = .ok (.idiv, 1) := by decide +kernel
theorem dX10_layFaults_68 : decode cX10_layFaults 68 = .ok (.iaload, 1) := by decide +kernel
theorem dX10_layFaults_69 : decode cX10_layFaults 69 = .ok (.invokestatic 76, 3) := by decide +kernel
theorem dX10_layFaults_72 : decode cX10_layFaults 72 = .ok (.if_icmp .ge 12, 3) := by decide +kernel
theorem dX10_layFaults_75 : decode cX10_layFaults 75 = .ok (.aload_n 0, 1) := by decide +kernel
theorem dX10_layFaults_76 : decode cX10_layFaults 76 = .ok (.sipush 300, 3) := by decide +kernel
theorem dX10_layFaults_79 : decode cX10_layFaults 79 = .ok (.iload_n 1, 1) := by decide +kernel
theorem dX10_layFaults_80 : decode cX10_layFaults 80 = .ok (.iadd, 1) := by decide +kernel
theorem dX10_layFaults_81 : decode cX10_layFaults 81 = .ok (.invokevirtual 151, 3) := by decide +kernel
theorem dX10_layFaults_84 : decode cX10_layFaults 84 = .ok (.iinc 1 1, 3) := by decide +kernel
theorem dX10_layFaults_87 : decode cX10_layFaults 87 = .ok (.goto (-39), 3) := by decide +kernel
theorem dX10_layFaults_90 : decode cX10_layFaults 90 = .ok (.return_, 1) := by decide +kernel
theorem dX10_layShown_0 : decode cX10_layShown 0 = .ok (.iconst 0, 1) := by decide +kernel
theorem dX10_layShown_1 : decode cX10_layShown 1 = .ok (.istore_n 1, 1) := by decide +kernel
theorem dX10_layShown_2 : decode cX10_layShown 2 = .ok (.iload_n 1, 1) := by decide +kernel
theorem dX10_layShown_3 : decode cX10_layShown 3 = .ok (.aload_n 0, 1) := by decide +kernel
theorem dX10_layShown_4 : decode cX10_layShown 4 = .ok (.getfield 148, 3) := by decide +kernel
theorem dX10_layShown_7 : decode cX10_layShown 7 = .ok (.if_icmp .ge 119, 3) := by decide +kernel
theorem dX10_layShown_10 : decode cX10_layShown 10 = .ok (.aload_n 0, 1) := by decide +kernel
theorem dX10_layShown_11 : decode cX10_layShown 11 = .ok (.aload_n 0, 1) := by decide +kernel
theorem dX10_layShown_12 : decode cX10_layShown 12 = .ok (.getfield 43, 3) := by decide +kernel
theorem dX10_layShown_15 : decode cX10_layShown 15 = .ok (.iload_n 1, 1) := by decide +kernel
theorem dX10_layShown_16 : decode cX10_layShown 16 = .ok (.iaload, 1) := by decide +kernel
theorem dX10_layShown_17 : decode cX10_layShown 17 = .ok (.invokevirtual 155, 3) := by decide +kernel
theorem dX10_layShown_20 : decode cX10_layShown 20 = .ok (.aload_n 0, 1) := by decide +kernel
theorem dX10_layShown_21 : decode cX10_layShown 21 = .ok (.getfield 46, 3) := by decide +kernel
theorem dX10_layShown_24 : decode cX10_layShown 24 = .ok (.iload_n 1, 1) := by decide +kernel
theorem dX10_layShown_25 : decode cX10_layShown 25 = .ok (.iconst 0, 1) := by decide +kernel
theorem dX10_layShown_26 : decode cX10_layShown 26 = .ok (.iastore, 1) := by decide +kernel
theorem dX10_layShown_27 : decode cX10_layShown 27 = .ok (.aload_n 0, 1) := by decide +kernel
theorem dX10_layShown_28 : decode cX10_layShown 28 = .ok (.getfield 49, 3) := by decide +kernel
theorem dX10_layShown_31 : decode cX10_layShown 31 = .ok (.iload_n 1, 1) := by decide +kernel
theorem dX10_layShown_32 : decode cX10_layShown 32 = .ok (.iconst 0, 1) := by decide +kernel
theorem dX10_layShown_33 : decode cX10_layShown 33 = .ok (.iastore, 1) := by decide +kernel
theorem dX10_layShown_34 : decode cX10_layShown 34 = .ok (.iconst 0, 1) := by decide +kernel
theorem dX10_layShown_35 : decode cX10_layShown 35 = .ok (.istore_n 2, 1) := by decide +kernel
theorem dX10_layShown_36 : decode cX10_layShown 36 = .ok (.iload_n 2, 1) := by decide +kernel
theorem dX10_layShown_37 : decode cX10_layShown 37 = .ok (.aload_n 0, 1) := by decide +kernel
theorem dX10_layShown_38 : decode cX10_layShown 38 = .ok (.getfield 115, 3) := by decide +kernel
theorem dX10_layShown_41 : decode cX10_layShown 41 = .ok (.if_icmp .ge 79, 3) := by decide +kernel
theorem dX10_layShown_44 : decode cX10_layShown 44 = .ok (.aload_n 0, 1) := by decide +kernel
theorem dX10_layShown_45 : decode cX10_layShown 45 = .ok (.getfield 46, 3) := by decide +kernel
theorem dX10_layShown_48 : decode cX10_layShown 48 = .ok (.iload_n 1, 1) := by decide +kernel
theorem dX10_layShown_49 : decode cX10_layShown 49 = .ok (.dup2, 1) := by decide +kernel
theorem dX10_layShown_50 : decode cX10_layShown 50 = .ok (.iaload, 1) := by decide +kernel
theorem dX10_layShown_51 : decode cX10_layShown 51 = .ok (.aload_n 0, 1) := by decide +kernel
theorem dX10_layShown_52 : decode cX10_layShown 52 = .ok (.aload_n 0, 1) := by decide +kernel
theorem dX10_layShown_53 : decode cX10_layShown 53 = .ok (.getfield 28, 3) := by decide +kernel
theorem dX10_layShown_56 : decode cX10_layShown 56 = .ok (.iload_n 2, 1) := by decide +kernel
theorem dX10_layShown_57 : decode cX10_layShown 57 = .ok (.iaload, 1) := by decide +kernel
theorem dX10_layShown_58 : decode cX10_layShown 58 = .ok (.invokevirtual 158, 3) := by decide +kernel
theorem dX10_layShown_61 : decode cX10_layShown 61 = .ok (.aload_n 0, 1) := by decide +kernel
theorem dX10_layShown_62 : decode cX10_layShown 62 = .ok (.aload_n 0, 1) := by decide +kernel
theorem dX10_layShown_63 : decode cX10_layShown 63 = .ok (.getfield 37, 3) := by decide +kernel
theorem dX10_layShown_66 : decode cX10_layShown 66 = .ok (.iload_n 2, 1) := by decide +kernel
theorem dX10_layShown_67 : decode cX10_layShown 67 = .ok (.iaload, 1) := by decide +kernel
theorem dX10_layShown_68 : decode cX10_layShown 68 = .ok (.invokevirtual 158, 3) := by decide +kernel
theorem dX10_layShown_71 : decode cX10_layShown 71 = .ok (.if_icmp .eq 9, 3) := by decide +kernel
theorem dX10_layShown_74 : decode cX10_layShown 74 = .ok (.iconst 1, 1) := by decide +kernel
theorem dX10_layShown_75 : decode cX10_layShown 75 = .ok (.iload_n 2, 1) := by decide +kernel
theorem dX10_layShown_76 : decode cX10_layShown 76 = .ok (.ishl, 1) := by decide +kernel
theorem dX10_layShown_77 : decode cX10_layShown 77 = .ok (.goto 4, 3) := by decide +kernel
theorem dX10_layShown_80 : decode cX10_layShown 80 = .ok (.iconst 0, 1) := by decide +kernel
theorem dX10_layShown_81 : decode cX10_layShown 81 = .ok (.ior, 1) := by decide +kernel
theorem dX10_layShown_82 : decode cX10_layShown 82 = .ok (.iastore, 1) := by decide +kernel
theorem dX10_layShown_83 : decode cX10_layShown 83 = .ok (.aload_n 0, 1) := by decide +kernel
theorem dX10_layShown_84 : decode cX10_layShown 84 = .ok (.getfield 49, 3) := by decide +kernel
theorem dX10_layShown_87 : decode cX10_layShown 87 = .ok (.iload_n 1, 1) := by decide +kernel
theorem dX10_layShown_88 : decode cX10_layShown 88 = .ok (.dup2, 1) := by decide +kernel
theorem dX10_layShown_89 : decode cX10_layShown 89 = .ok (.iaload, 1) := by decide +kernel
theorem dX10_layShown_90 : decode cX10_layShown 90 = .ok (.aload_n 0, 1) := by decide +kernel
theorem dX10_layShown_91 : decode cX10_layShown 91 = .ok (.getfield 28, 3) := by decide +kernel
theorem dX10_layShown_94 : decode cX10_layShown 94 = .ok (.iload_n 2, 1) := by decide +kernel
theorem dX10_layShown_95 : decode cX10_layShown 95 = .ok (.iaload, 1) := by decide +kernel
theorem dX10_layShown_96 : decode cX10_layShown 96 = .ok (.aload_n 0, 1) := by decide +kernel
theorem dX10_layShown_97 : decode cX10_layShown 97 = .ok (.getfield 37, 3) := by decide +kernel
theorem dX10_layShown_100 : decode cX10_layShown 100 = .ok (.iload_n 2, 1) := by decide +kernel
theorem dX10_layShown_101 : decode cX10_layShown 101 = .ok (.iaload, 1) := by decide +kernel
theorem dX10_layShown_102 : decode cX10_layShown 102 = .ok (.if_icmp .eq 9, 3) := by decide +kernel
theorem dX10_layShown_105 : decode cX10_layShown 105 = .ok (.iconst 1, 1) := by decide +kernel
theorem dX10_layShown_106 : decode cX10_layShown 106 = .ok (.iload_n 2, 1) := by decide +kernel
theorem dX10_layShown_107 : decode cX10_layShown 107 = .ok (.ishl, 1) := by decide +kernel
theorem dX10_layShown_108 : decode cX10_layShown 108 = .ok (.goto 4, 3) := by decide +kernel
theorem dX10_layShown_111 : decode cX10_layShown 111 = .ok (.iconst 0, 1) := by decide +kernel
theorem dX10_layShown_112 : decode cX10_layShown 112 = .ok (.ior, 1) := by decide +kernel
theorem dX10_layShown_113 : decode cX10_layShown 113 = .ok (.iastore, 1) := by decide +kernel
theorem dX10_layShown_114 : decode cX10_layShown 114 = .ok (.iinc 2 1, 3) := by decide +kernel
theorem dX10_layShown_117 : decode cX10_layShown 117 = .ok (.goto (-81), 3) := by decide +kernel
theorem dX10_layShown_120 : decode cX10_layShown 120 = .ok (.iinc 1 1, 3) := by decide +kernel
theorem dX10_layShown_123 : decode cX10_layShown 123 = .ok (.goto (-121), 3) := by decide +kernel
theorem dX10_layShown_126 : decode cX10_layShown 126 = .ok (.return_, 1) := by decide +kernel
theorem dX10_layNow_0 : decode cX10_layNow 0 = .ok (.aload_n 0, 1) := by decide +kernel
theorem dX10_layNow_1 : decode cX10_layNow 1 = .ok (.aload_n 0, 1) := by decide +kernel
theorem dX10_layNow_2 : decode cX10_layNow 2 = .ok (.getfield 118, 3) := by decide +kernel
theorem dX10_layNow_5 : decode cX10_layNow 5 = .ok (.invokevirtual 155, 3) := by decide +kernel
theorem dX10_layNow_8 : decode cX10_layNow 8 = .ok (.iconst 0, 1) := by decide +kernel
theorem dX10_layNow_9 : decode cX10_layNow 9 = .ok (.istore_n 1, 1) := by decide +kernel
theorem dX10_layNow_10 : decode cX10_layNow 10 = .ok (.iload_n 1, 1) := by decide +kernel
theorem dX10_layNow_11 : decode cX10_layNow 11 = .ok (.aload_n 0, 1) := by decide +kernel
theorem dX10_layNow_12 : decode cX10_layNow 12 = .ok (.getfield 115, 3) := by decide +kernel
theorem dX10_layNow_15 : decode cX10_layNow 15 = .ok (.if_icmp .ge 21, 3) := by decide +kernel
theorem dX10_layNow_18 : decode cX10_layNow 18 = .ok (.aload_n 0, 1) := by decide +kernel
theorem dX10_layNow_19 : decode cX10_layNow 19 = .ok (.getfield 40, 3) := by decide +kernel
theorem dX10_layNow_22 : decode cX10_layNow 22 = .ok (.iload_n 1, 1) := by decide +kernel
theorem dX10_layNow_23 : decode cX10_layNow 23 = .ok (.aload_n 0, 1) := by decide +kernel
theorem dX10_layNow_24 : decode cX10_layNow 24 = .ok (.getfield 28, 3) := by decide +kernel
theorem dX10_layNow_27 : decode cX10_layNow 27 = .ok (.iload_n 1, 1) := by decide +kernel
theorem dX10_layNow_28 : decode cX10_layNow 28 = .ok (.iaload, 1) := by decide +kernel
theorem dX10_layNow_29 : decode cX10_layNow 29 = .ok (.iastore, 1) := by decide +kernel
theorem dX10_layNow_30 : decode cX10_layNow 30 = .ok (.iinc 1 1, 3) := by decide +kernel
theorem dX10_layNow_33 : decode cX10_layNow 33 = .ok (.goto (-23), 3) := by decide +kernel
theorem dX10_layNow_36 : decode cX10_layNow 36 = .ok (.return_, 1) := by decide +kernel
theorem dX10_begins_0 : decode cX10_begins 0 = .ok (.aload_n 0, 1) := by decide +kernel
theorem dX10_begins_1 : decode cX10_begins 1 = .ok (.iconst 0, 1) := by decide +kernel
theorem dX10_begins_2 : decode cX10_begins 2 = .ok (.putfield 161, 3) := by decide +kernel
theorem dX10_begins_5 : decode cX10_begins 5 = .ok (.aload_n 0, 1) := by decide +kernel
theorem dX10_begins_6 : decode cX10_begins 6 = .ok (.iconst 0, 1) := by decide +kernel
theorem dX10_begins_7 : decode cX10_begins 7 = .ok (.putfield 164, 3) := by decide +kernel
theorem dX10_begins_10 : decode cX10_begins 10 = .ok (.aload_n 0, 1) := by decide +kernel
theorem dX10_begins_11 : decode cX10_begins 11 = .ok (.invokevirtual 167, 3) := by decide +kernel
theorem dX10_begins_14 : decode cX10_begins 14 = .ok (.aload_n 0, 1) := by decide +kernel
theorem dX10_begins_15 : decode cX10_begins 15 = .ok (.iconst 0, 1) := by decide +kernel
theorem dX10_begins_16 : decode cX10_begins 16 = .ok (.invokevirtual 155, 3) := by decide +kernel
theorem dX10_begins_19 : decode cX10_begins 19 = .ok (.iconst 0, 1) := by decide +kernel
theorem dX10_begins_20 : decode cX10_begins 20 = .ok (.istore_n 1, 1) := by decide +kernel
theorem dX10_begins_21 : decode cX10_begins 21 = .ok (.iload_n 1, 1) := by decide +kernel
theorem dX10_begins_22 : decode cX10_begins 22 = .ok (.aload_n 0, 1) := by decide +kernel
theorem dX10_begins_23 : decode cX10_begins 23 = .ok (.getfield 115, 3) := by decide +kernel
theorem dX10_begins_26 : decode cX10_begins 26 = .ok (.if_icmp .ge 21, 3) := by decide +kernel
theorem dX10_begins_29 : decode cX10_begins 29 = .ok (.aload_n 0, 1) := by decide +kernel
theorem dX10_begins_30 : decode cX10_begins 30 = .ok (.getfield 37, 3) := by decide +kernel
theorem dX10_begins_33 : decode cX10_begins 33 = .ok (.iload_n 1, 1) := by decide +kernel
theorem dX10_begins_34 : decode cX10_begins 34 = .ok (.aload_n 0, 1) := by decide +kernel
theorem dX10_begins_35 : decode cX10_begins 35 = .ok (.getfield 28, 3) := by decide +kernel
theorem dX10_begins_38 : decode cX10_begins 38 = .ok (.iload_n 1, 1) := by decide +kernel
theorem dX10_begins_39 : decode cX10_begins 39 = .ok (.iaload, 1) := by decide +kernel
theorem dX10_begins_40 : decode cX10_begins 40 = .ok (.iastore, 1) := by decide +kernel
theorem dX10_begins_41 : decode cX10_begins 41 = .ok (.iinc 1 1, 3) := by decide +kernel
theorem dX10_begins_44 : decode cX10_begins 44 = .ok (.goto (-23), 3) := by decide +kernel
theorem dX10_begins_47 : decode cX10_begins 47 = .ok (.aload_n 0, 1) := by decide +kernel
theorem dX10_begins_48 : decode cX10_begins 48 = .ok (.invokevirtual 170, 3) := by decide +kernel
theorem dX10_begins_51 : decode cX10_begins 51 = .ok (.aload_n 0, 1) := by decide +kernel
theorem dX10_begins_52 : decode cX10_begins 52 = .ok (.invokevirtual 173, 3) := by decide +kernel
theorem dX10_begins_55 : decode cX10_begins 55 = .ok (.return_, 1) := by decide +kernel
theorem dX10_findFault_0 : decode cX10_findFault 0 = .ok (.iconst (-1), 1) := by decide +kernel
theorem dX10_findFault_1 : decode cX10_findFault 1 = .ok (.istore_n 2, 1) := by decide +kernel
theorem dX10_findFault_2 : decode cX10_findFault 2 = .ok (.iconst 0, 1) := by decide +kernel
theorem dX10_findFault_3 : decode cX10_findFault 3 = .ok (.istore_n 3, 1) := by decide +kernel
theorem dX10_findFault_4 : decode cX10_findFault 4 = .ok (.iload_n 3, 1) := by decide +kernel
theorem dX10_findFault_5 : decode cX10_findFault 5 = .ok (.aload_n 0, 1) := by decide +kernel
theorem dX10_findFault_6 : decode cX10_findFault 6 = .ok (.getfield 148, 3) := by decide +kernel
theorem dX10_findFault_9 : decode cX10_findFault 9 = .ok (.if_icmp .ge 25, 3) := by decide +kernel
theorem dX10_findFault_12 : decode cX10_findFault 12 = .ok (.aload_n 0, 1) := by decide +kernel
theorem dX10_findFault_13 : decode cX10_findFault 13 = .ok (.getfield 43, 3) := by decide +kernel
theorem dX10_findFault_16 : decode cX10_findFault 16 = .ok (.iload_n 3, 1) := by decide +kernel
theorem dX10_findFault_17 : decode cX10_findFault 17 = .ok (.iaload, 1) := by decide +kernel
theorem dX10_findFault_18 : decode cX10_findFault 18 = .ok (.iload_n 1, 1) := by decide +kernel
theorem dX10_findFault_19 : decode cX10_findFault 19 = .ok (.if_icmp .ne 7, 3) := by decide +kernel
theorem dX10_findFault_22 : decode cX10_findFault 22 = .ok (.iload_n 3, 1) := by decide +kernel
theorem dX10_findFault_23 : decode cX10_findFault 23 = .ok (.goto 4, 3) := by decide +kernel
theorem dX10_findFault_26 : decode cX10_findFault 26 = .ok (.iload_n 2, 1) := by decide +kernel
theorem dX10_findFault_27 : decode cX10_findFault 27 = .ok (.istore_n 2, 1) := by decide +kernel
theorem dX10_findFault_28 : decode cX10_findFault 28 = .ok (.iinc 3 1, 3) := by decide +kernel
theorem dX10_findFault_31 : decode cX10_findFault 31 = .ok (.goto (-27), 3) := by decide +kernel
theorem dX10_findFault_34 : decode cX10_findFault 34 = .ok (.iload_n 2, 1) := by decide +kernel
theorem dX10_findFault_35 : decode cX10_findFault 35 = .ok (.ireturn, 1) := by decide +kernel
theorem dX10_hurt_0 : decode cX10_hurt 0 = .ok (.iload_n 1, 1) := by decide +kernel
theorem dX10_hurt_1 : decode cX10_hurt 1 = .ok (.ifCond .eq 16, 3) := by decide +kernel
theorem dX10_hurt_4 : decode cX10_hurt 4 = .ok (.aload_n 0, 1) := by decide +kernel
theorem dX10_hurt_5 : decode cX10_hurt 5 = .ok (.iload_n 1, 1) := by decide +kernel
theorem dX10_hurt_6 : decode cX10_hurt 6 = .ok (.invokevirtual 176, 3) := by decide +kernel
theorem dX10_hurt_9 : decode cX10_hurt 9 = .ok (.iconst (-1), 1) := by decide +kernel
theorem dX10_hurt_10 : decode cX10_hurt 10 = .ok (.if_icmp .ne 7, 3) := by decide +kernel
theorem dX10_hurt_13 : decode cX10_hurt 13 = .ok (.sipush (-1001), 3) := by decide +kernel
theorem dX10_hurt_16 : decode cX10_hurt 16 = .ok (.ireturn, 1) := by decide +kernel
theorem dX10_hurt_17 : decode cX10_hurt 17 = .ok (.aload_n 0, 1) := by decide +kernel
theorem dX10_hurt_18 : decode cX10_hurt 18 = .ok (.getfield 118, 3) := by decide +kernel
theorem dX10_hurt_21 : decode cX10_hurt 21 = .ok (.istore_n 2, 1) := by decide +kernel
theorem dX10_hurt_22 : decode cX10_hurt 22 = .ok (.aload_n 0, 1) := by decide +kernel
theorem dX10_hurt_23 : decode cX10_hurt 23 = .ok (.iload_n 1, 1) := by decide +kernel
theorem dX10_hurt_24 : decode cX10_hurt 24 = .ok (.putfield 118, 3) := by decide +kernel
theorem dX10_hurt_27 : decode cX10_hurt 27 = .ok (.aload_n 0, 1) := by decide +kernel
theorem dX10_hurt_28 : decode cX10_hurt 28 = .ok (.iconst 0, 1) := by decide +kernel
theorem dX10_hurt_29 : decode cX10_hurt 29 = .ok (.putfield 161, 3) := by decide +kernel
theorem dX10_hurt_32 : decode cX10_hurt 32 = .ok (.aload_n 0, 1) := by decide +kernel
theorem dX10_hurt_33 : decode cX10_hurt 33 = .ok (.iconst 0, 1) := by decide +kernel
theorem dX10_hurt_34 : decode cX10_hurt 34 = .ok (.putfield 164, 3) := by decide +kernel
theorem dX10_hurt_37 : decode cX10_hurt 37 = .ok (.aload_n 0, 1) := by decide +kernel
theorem dX10_hurt_38 : decode cX10_hurt 38 = .ok (.invokevirtual 173, 3) := by decide +kernel
theorem dX10_hurt_41 : decode cX10_hurt 41 = .ok (.iload_n 2, 1) := by decide +kernel
theorem dX10_hurt_42 : decode cX10_hurt 42 = .ok (.ireturn, 1) := by decide +kernel
theorem dX10_isNode_0 : decode cX10_isNode 0 = .ok (.iload_n 1, 1) := by decide +kernel
theorem dX10_isNode_1 : decode cX10_isNode 1 = .ok (.iconst 0, 1) := by decide +kernel
theorem dX10_isNode_2 : decode cX10_isNode 2 = .ok (.aload_n 0, 1) := by decide +kernel
theorem dX10_isNode_3 : decode cX10_isNode 3 = .ok (.getfield 115, 3) := by decide +kernel
theorem dX10_isNode_6 : decode cX10_isNode 6 = .ok (.iconst 1, 1) := by decide +kernel
theorem dX10_isNode_7 : decode cX10_isNode 7 = .ok (.isub, 1) := by decide +kernel
theorem dX10_isNode_8 : decode cX10_isNode 8 = .ok (.invokestatic 55, 3) := by decide +kernel
theorem dX10_isNode_11 : decode cX10_isNode 11 = .ok (.ireturn, 1) := by decide +kernel
theorem dX10_isBad_0 : decode cX10_isBad 0 = .ok (.aload_n 0, 1) := by decide +kernel
theorem dX10_isBad_1 : decode cX10_isBad 1 = .ok (.aload_n 0, 1) := by decide +kernel
theorem dX10_isBad_2 : decode cX10_isBad 2 = .ok (.getfield 40, 3) := by decide +kernel
theorem dX10_isBad_5 : decode cX10_isBad 5 = .ok (.iload_n 1, 1) := by decide +kernel
theorem dX10_isBad_6 : decode cX10_isBad 6 = .ok (.iaload, 1) := by decide +kernel
theorem dX10_isBad_7 : decode cX10_isBad 7 = .ok (.invokevirtual 158, 3) := by decide +kernel
theorem dX10_isBad_10 : decode cX10_isBad 10 = .ok (.aload_n 0, 1) := by decide +kernel
theorem dX10_isBad_11 : decode cX10_isBad 11 = .ok (.aload_n 0, 1) := by decide +kernel
theorem dX10_isBad_12 : decode cX10_isBad 12 = .ok (.getfield 37, 3) := by decide +kernel
theorem dX10_isBad_15 : decode cX10_isBad 15 = .ok (.iload_n 1, 1) := by decide +kernel
theorem dX10_isBad_16 : decode cX10_isBad 16 = .ok (.iaload, 1) := by decide +kernel
theorem dX10_isBad_17 : decode cX10_isBad 17 = .ok (.invokevirtual 158, 3) := by decide +kernel
theorem dX10_isBad_20 : decode cX10_isBad 20 = .ok (.if_icmp .eq 7, 3) := by decide +kernel
theorem dX10_isBad_23 : decode cX10_isBad 23 = .ok (.iconst 1, 1) := by decide +kernel
theorem dX10_isBad_24 : decode cX10_isBad 24 = .ok (.goto 4, 3) := by decide +kernel
theorem dX10_isBad_27 : decode cX10_isBad 27 = .ok (.iconst 0, 1) := by decide +kernel
theorem dX10_isBad_28 : decode cX10_isBad 28 = .ok (.ireturn, 1) := by decide +kernel
theorem dX10_firstOf_0 : decode cX10_firstOf 0 = .ok (.aload_n 0, 1) := by decide +kernel
theorem dX10_firstOf_1 : decode cX10_firstOf 1 = .ok (.getfield 40, 3) := by decide +kernel
theorem dX10_firstOf_4 : decode cX10_firstOf 4 = .ok (.iload_n 1, 1) := by decide +kernel
theorem dX10_firstOf_5 : decode cX10_firstOf 5 = .ok (.iaload, 1) := by decide +kernel
theorem dX10_firstOf_6 : decode cX10_firstOf 6 = .ok (.aload_n 0, 1) := by decide +kernel
theorem dX10_firstOf_7 : decode cX10_firstOf 7 = .ok (.getfield 37, 3) := by decide +kernel
theorem dX10_firstOf_10 : decode cX10_firstOf 10 = .ok (.iload_n 1, 1) := by decide +kernel
theorem dX10_firstOf_11 : decode cX10_firstOf 11 = .ok (.iaload, 1) := by decide +kernel
theorem dX10_firstOf_12 : decode cX10_firstOf 12 = .ok (.ixor, 1) := by decide +kernel
theorem dX10_firstOf_13 : decode cX10_firstOf 13 = .ok (.istore_n 2, 1) := by decide +kernel
theorem dX10_firstOf_14 : decode cX10_firstOf 14 = .ok (.iconst (-1), 1) := by decide +kernel
theorem dX10_firstOf_15 : decode cX10_firstOf 15 = .ok (.istore_n 3, 1) := by decide +kernel
theorem dX10_firstOf_16 : decode cX10_firstOf 16 = .ok (.aload_n 0, 1) := by decide +kernel
theorem dX10_firstOf_17 : decode cX10_firstOf 17 = .ok (.getfield 127, 3) := by decide +kernel
theorem dX10_firstOf_20 : decode cX10_firstOf 20 = .ok (.iconst 1, 1) := by decide +kernel
theorem dX10_firstOf_21 : decode cX10_firstOf 21 = .ok (.isub, 1) := by decide +kernel
theorem dX10_firstOf_22 : decode cX10_firstOf 22 = .ok (.istore 4, 2) := by decide +kernel
theorem dX10_firstOf_24 : decode cX10_firstOf 24 = .ok (.iload 4, 2) := by decide +kernel
theorem dX10_firstOf_26 : decode cX10_firstOf 26 = .ok (.ifCond .lt 25, 3) := by decide +kernel
theorem dX10_firstOf_29 : decode cX10_firstOf 29 = .ok (.iload_n 2, 1) := by decide +kernel
theorem dX10_firstOf_30 : decode cX10_firstOf 30 = .ok (.iload 4, 2) := by decide +kernel
theorem dX10_firstOf_32 : decode cX10_firstOf 32 = .ok (.invokestatic 179, 3) := by decide +kernel
theorem dX10_firstOf_35 : decode cX10_firstOf 35 = .ok (.ifCond .eq 8, 3) := by decide +kernel
theorem dX10_firstOf_38 : decode cX10_firstOf 38 = .ok (.iload 4, 2) := by decide +kernel
theorem dX10_firstOf_40 : decode cX10_firstOf 40 = .ok (.goto 4, 3) := by decide +kernel
theorem dX10_firstOf_43 : decode cX10_firstOf 43 = .ok (.iload_n 3, 1) := by decide +kernel
theorem dX10_firstOf_44 : decode cX10_firstOf 44 = .ok (.istore_n 3, 1) := by decide +kernel
theorem dX10_firstOf_45 : decode cX10_firstOf 45 = .ok (.iinc 4 (-1), 3) := by decide +kernel
theorem dX10_firstOf_48 : decode cX10_firstOf 48 = .ok (.goto (-24), 3) := by decide +kernel
theorem dX10_firstOf_51 : decode cX10_firstOf 51 = .ok (.iload_n 3, 1) := by decide +kernel
theorem dX10_firstOf_52 : decode cX10_firstOf 52 = .ok (.ireturn, 1) := by decide +kernel
theorem dX10_nodeNow_0 : decode cX10_nodeNow 0 = .ok (.iload_n 2, 1) := by decide +kernel
theorem dX10_nodeNow_1 : decode cX10_nodeNow 1 = .ok (.tableswitch 127 0 8 #[51, 58, 58, 71, 78, 89, 96, 107, 121], 51) := by decide +kernel
theorem dX10_nodeNow_52 : decode cX10_nodeNow 52 = .ok (.aload_n 0, 1) := by decide +kernel
theorem dX10_nodeNow_53 : decode cX10_nodeNow 53 = .ok (.getfield 13, 3) := by decide +kernel
theorem dX10_nodeNow_56 : decode cX10_nodeNow 56 = .ok (.iload_n 1, 1) := by decide +kernel
theorem dX10_nodeNow_57 : decode cX10_nodeNow 57 = .ok (.iaload, 1) := by decide +kernel
theorem dX10_nodeNow_58 : decode cX10_nodeNow 58 = .ok (.ireturn, 1) := by decide +kernel
theorem dX10_nodeNow_59 : decode cX10_nodeNow 59 = .ok (.aload_n 0, 1) := by decide +kernel
theorem dX10_nodeNow_60 : decode cX10_nodeNow 60 = .ok (.getfield 16, 3) := by decide +kernel
theorem dX10_nodeNow_63 : decode cX10_nodeNow 63 = .ok (.iconst 2, 1) := by decide +kernel
theorem dX10_nodeNow_64 : decode cX10_nodeNow 64 = .ok (.iload_n 1, 1) := by decide +kernel
theorem dX10_nodeNow_65 : decode cX10_nodeNow 65 = .ok (.imul, 1) := by decide +kernel
theorem dX10_nodeNow_66 : decode cX10_nodeNow 66 = .ok (.iload_n 2, 1) := by decide +kernel
theorem dX10_nodeNow_67 : decode cX10_nodeNow 67 = .ok (.iadd, 1) := by decide +kernel
theorem dX10_nodeNow_68 : decode cX10_nodeNow 68 = .ok (.iconst 1, 1) := by decide +kernel
theorem dX10_nodeNow_69 : decode cX10_nodeNow 69 = .ok (.isub, 1) := by decide +kernel
theorem dX10_nodeNow_70 : decode cX10_nodeNow 70 = .ok (.iaload, 1) := by decide +kernel
theorem dX10_nodeNow_71 : decode cX10_nodeNow 71 = .ok (.ireturn, 1) := by decide +kernel
theorem dX10_nodeNow_72 : decode cX10_nodeNow 72 = .ok (.aload_n 0, 1) := by decide +kernel
theorem dX10_nodeNow_73 : decode cX10_nodeNow 73 = .ok (.getfield 37, 3) := by decide +kernel
theorem dX10_nodeNow_76 : decode cX10_nodeNow 76 = .ok (.iload_n 1, 1) := by decide +kernel
theorem dX10_nodeNow_77 : decode cX10_nodeNow 77 = .ok (.iaload, 1) := by decide +kernel
theorem dX10_nodeNow_78 : decode cX10_nodeNow 78 = .ok (.ireturn, 1) := by decide +kernel
theorem dX10_nodeNow_79 : decode cX10_nodeNow 79 = .ok (.aload_n 0, 1) := by decide +kernel
theorem dX10_nodeNow_80 : decode cX10_nodeNow 80 = .ok (.aload_n 0, 1) := by decide +kernel
theorem dX10_nodeNow_81 : decode cX10_nodeNow 81 = .ok (.getfield 37, 3) := by decide +kernel
theorem dX10_nodeNow_84 : decode cX10_nodeNow 84 = .ok (.iload_n 1, 1) := by decide +kernel
theorem dX10_nodeNow_85 : decode cX10_nodeNow 85 = .ok (.iaload, 1) := by decide +kernel
theorem dX10_nodeNow_86 : decode cX10_nodeNow 86 = .ok (.invokevirtual 158, 3) := by decide +kernel
theorem dX10_nodeNow_89 : decode cX10_nodeNow 89 = .ok (.ireturn, 1) := by decide +kernel
theorem dX10_nodeNow_90 : decode cX10_nodeNow 90 = .ok (.aload_n 0, 1) := by decide +kernel
theorem dX10_nodeNow_91 : decode cX10_nodeNow 91 = .ok (.getfield 40, 3) := by decide +kernel
theorem dX10_nodeNow_94 : decode cX10_nodeNow 94 = .ok (.iload_n 1, 1) := by decide +kernel
theorem dX10_nodeNow_95 : decode cX10_nodeNow 95 = .ok (.iaload, 1) := by decide +kernel
theorem dX10_nodeNow_96 : decode cX10_nodeNow 96 = .ok (.ireturn, 1) := by decide +kernel
theorem dX10_nodeNow_97 : decode cX10_nodeNow 97 = .ok (.aload_n 0, 1) := by decide +kernel
theorem dX10_nodeNow_98 : decode cX10_nodeNow 98 = .ok (.aload_n 0, 1) := by decide +kernel
theorem dX10_nodeNow_99 : decode cX10_nodeNow 99 = .ok (.getfield 40, 3) := by decide +kernel
theorem dX10_nodeNow_102 : decode cX10_nodeNow 102 = .ok (.iload_n 1, 1) := by decide +kernel
theorem dX10_nodeNow_103 : decode cX10_nodeNow 103 = .ok (.iaload, 1) := by decide +kernel
theorem dX10_nodeNow_104 : decode cX10_nodeNow 104 = .ok (.invokevirtual 158, 3) := by decide +kernel
theorem dX10_nodeNow_107 : decode cX10_nodeNow 107 = .ok (.ireturn, 1) := by decide +kernel
theorem dX10_nodeNow_108 : decode cX10_nodeNow 108 = .ok (.aload_n 0, 1) := by decide +kernel
theorem dX10_nodeNow_109 : decode cX10_nodeNow 109 = .ok (.iload_n 1, 1) := by decide +kernel
theorem dX10_nodeNow_110 : decode cX10_nodeNow 110 = .ok (.invokevirtual 182, 3) := by decide +kernel
theorem dX10_nodeNow_113 : decode cX10_nodeNow 113 = .ok (.ifCond .eq 7, 3) := by decide +kernel
theorem dX10_nodeNow_116 : decode cX10_nodeNow 116 = .ok (.iconst 1, 1) := by decide +kernel
theorem dX10_nodeNow_117 : decode cX10_nodeNow 117 = .ok (.goto 4, 3) := by decide +kernel
theorem dX10_nodeNow_120 : decode cX10_nodeNow 120 = .ok (.iconst 0, 1) := by decide +kernel
theorem dX10_nodeNow_121 : decode cX10_nodeNow 121 = .ok (.ireturn, 1) := by decide +kernel
theorem dX10_nodeNow_122 : decode cX10_nodeNow 122 = .ok (.aload_n 0, 1) := by decide +kernel
theorem dX10_nodeNow_123 : decode cX10_nodeNow 123 = .ok (.iload_n 1, 1) := by decide +kernel
theorem dX10_nodeNow_124 : decode cX10_nodeNow 124 = .ok (.invokevirtual 185, 3) := by decide +kernel
theorem dX10_nodeNow_127 : decode cX10_nodeNow 127 = .ok (.ireturn, 1) := by decide +kernel
theorem dX10_nodeNow_128 : decode cX10_nodeNow 128 = .ok (.aload_n 0, 1) := by decide +kernel
theorem dX10_nodeNow_129 : decode cX10_nodeNow 129 = .ok (.getfield 161, 3) := by decide +kernel
theorem dX10_nodeNow_132 : decode cX10_nodeNow 132 = .ok (.iload_n 1, 1) := by decide +kernel
theorem dX10_nodeNow_133 : decode cX10_nodeNow 133 = .ok (.invokestatic 179, 3) := by decide +kernel
theorem dX10_nodeNow_136 : decode cX10_nodeNow 136 = .ok (.ifCond .eq 14, 3) := by decide +kernel
theorem dX10_nodeNow_139 : decode cX10_nodeNow 139 = .ok (.aload_n 0, 1) := by decide +kernel
theorem dX10_nodeNow_140 : decode cX10_nodeNow 140 = .ok (.getfield 164, 3) := by decide +kernel
theorem dX10_nodeNow_143 : decode cX10_nodeNow 143 = .ok (.iload_n 1, 1) := by decide +kernel
theorem dX10_nodeNow_144 : decode cX10_nodeNow 144 = .ok (.ishr, 1) := by decide +kernel
theorem dX10_nodeNow_145 : decode cX10_nodeNow 145 = .ok (.iconst 1, 1) := by decide +kernel
theorem dX10_nodeNow_146 : decode cX10_nodeNow 146 = .ok (.iand, 1) := by decide +kernel
theorem dX10_nodeNow_147 : decode cX10_nodeNow 147 = .ok (.goto 4, 3) := by decide +kernel
theorem dX10_nodeNow_150 : decode cX10_nodeNow 150 = .ok (.iconst (-1), 1) := by decide +kernel
theorem dX10_nodeNow_151 : decode cX10_nodeNow 151 = .ok (.ireturn, 1) := by decide +kernel
theorem dX10_node_0 : decode cX10_node 0 = .ok (.aload_n 0, 1) := by decide +kernel
theorem dX10_node_1 : decode cX10_node 1 = .ok (.iload_n 1, 1) := by decide +kernel
theorem dX10_node_2 : decode cX10_node 2 = .ok (.invokevirtual 188, 3) := by decide +kernel
theorem dX10_node_5 : decode cX10_node 5 = .ok (.ifCond .ne 7, 3) := by decide +kernel
theorem dX10_node_8 : decode cX10_node 8 = .ok (.sipush (-1001), 3) := by decide +kernel
theorem dX10_node_11 : decode cX10_node 11 = .ok (.ireturn, 1) := by decide +kernel
theorem dX10_node_12 : decode cX10_node 12 = .ok (.iload_n 2, 1) := by decide +kernel
theorem dX10_node_13 : decode cX10_node 13 = .ok (.iconst 0, 1) := by decide +kernel
theorem dX10_node_14 : decode cX10_node 14 = .ok (.bipush 9, 2) := by decide +kernel
theorem dX10_node_16 : decode cX10_node 16 = .ok (.invokestatic 55, 3) := by decide +kernel
theorem dX10_node_19 : decode cX10_node 19 = .ok (.ifCond .eq 12, 3) := by decide +kernel
theorem dX10_node_22 : decode cX10_node 22 = .ok (.aload_n 0, 1) := by decide +kernel
theorem dX10_node_23 : decode cX10_node 23 = .ok (.iload_n 1, 1) := by decide +kernel
theorem dX10_node_24 : decode cX10_node 24 = .ok (.iload_n 2, 1) := by decide +kernel
theorem dX10_node_25 : decode cX10_node 25 = .ok (.invokevirtual 191, 3) := by decide +kernel
theorem dX10_node_28 : decode cX10_node 28 = .ok (.goto 6, 3) := by decide +kernel
theorem dX10_node_31 : decode cX10_node 31 = .ok (.sipush (-1002), 3) := by decide +kernel
theorem dX10_node_34 : decode cX10_node 34 = .ok (.ireturn, 1) := by decide +kernel
theorem dX10_shows_0 : decode cX10_shows 0 = .ok (.aload_n 0, 1) := by decide +kernel
theorem dX10_shows_1 : decode cX10_shows 1 = .ok (.iload_n 1, 1) := by decide +kernel
theorem dX10_shows_2 : decode cX10_shows 2 = .ok (.invokevirtual 176, 3) := by decide +kernel
theorem dX10_shows_5 : decode cX10_shows 5 = .ok (.istore_n 3, 1) := by decide +kernel
theorem dX10_shows_6 : decode cX10_shows 6 = .ok (.iload_n 3, 1) := by decide +kernel
theorem dX10_shows_7 : decode cX10_shows 7 = .ok (.iconst (-1), 1) := by decide +kernel
theorem dX10_shows_8 : decode cX10_shows 8 = .ok (.if_icmp .ne 7, 3) := by decide +kernel
theorem dX10_shows_11 : decode cX10_shows 11 = .ok (.sipush (-1001), 3) := by decide +kernel
theorem dX10_shows_14 : decode cX10_shows 14 = .ok (.ireturn, 1) := by decide +kernel
theorem dX10_shows_15 : decode cX10_shows 15 = .ok (.iload_n 2, 1) := by decide +kernel
theorem dX10_shows_16 : decode cX10_shows 16 = .ok (.ifCond .ne 12, 3) := by decide +kernel
theorem dX10_shows_19 : decode cX10_shows 19 = .ok (.aload_n 0, 1) := by decide +kernel
theorem dX10_shows_20 : decode cX10_shows 20 = .ok (.getfield 46, 3) := by decide +kernel
theorem dX10_shows_23 : decode cX10_shows 23 = .ok (.iload_n 3, 1) := by decide +kernel
theorem dX10_shows_24 : decode cX10_shows 24 = .ok (.iaload, 1) := by decide +kernel
theorem dX10_shows_25 : decode cX10_shows 25 = .ok (.goto 20, 3) := by decide +kernel
theorem dX10_shows_28 : decode cX10_shows 28 = .ok (.iload_n 2, 1) := by decide +kernel
theorem dX10_shows_29 : decode cX10_shows 29 = .ok (.iconst 1, 1) := by decide +kernel
theorem dX10_shows_30 : decode cX10_shows 30 = .ok (.if_icmp .ne 12, 3) := by decide +kernel
theorem dX10_shows_33 : decode cX10_shows 33 = .ok (.aload_n 0, 1) := by decide +kernel
theorem dX10_shows_34 : decode cX10_shows 34 = .ok (.getfield 49, 3) := by decide +kernel
theorem dX10_shows_37 : decode cX10_shows 37 = .ok (.iload_n 3, 1) := by decide +kernel
theorem dX10_shows_38 : decode cX10_shows 38 = .ok (.iaload, 1) := by decide +kernel
theorem dX10_shows_39 : decode cX10_shows 39 = .ok (.goto 6, 3) := by decide +kernel
theorem dX10_shows_42 : decode cX10_shows 42 = .ok (.sipush (-1002), 3) := by decide +kernel
theorem dX10_shows_45 : decode cX10_shows 45 = .ok (.ireturn, 1) := by decide +kernel
theorem dX10_probe_0 : decode cX10_probe 0 = .ok (.aload_n 0, 1) := by decide +kernel
theorem dX10_probe_1 : decode cX10_probe 1 = .ok (.iload_n 1, 1) := by decide +kernel
theorem dX10_probe_2 : decode cX10_probe 2 = .ok (.invokevirtual 188, 3) := by decide +kernel
theorem dX10_probe_5 : decode cX10_probe 5 = .ok (.ifCond .ne 7, 3) := by decide +kernel
theorem dX10_probe_8 : decode cX10_probe 8 = .ok (.sipush (-1001), 3) := by decide +kernel
theorem dX10_probe_11 : decode cX10_probe 11 = .ok (.ireturn, 1) := by decide +kernel
theorem dX10_probe_12 : decode cX10_probe 12 = .ok (.aload_n 0, 1) := by decide +kernel
theorem dX10_probe_13 : decode cX10_probe 13 = .ok (.getfield 161, 3) := by decide +kernel
theorem dX10_probe_16 : decode cX10_probe 16 = .ok (.iload_n 1, 1) := by decide +kernel
theorem dX10_probe_17 : decode cX10_probe 17 = .ok (.invokestatic 179, 3) := by decide +kernel
theorem dX10_probe_20 : decode cX10_probe 20 = .ok (.ifCond .eq 7, 3) := by decide +kernel
theorem dX10_probe_23 : decode cX10_probe 23 = .ok (.sipush (-1003), 3) := by decide +kernel
theorem dX10_probe_26 : decode cX10_probe 26 = .ok (.ireturn, 1) := by decide +kernel
theorem dX10_probe_27 : decode cX10_probe 27 = .ok (.aload_n 0, 1) := by decide +kernel
theorem dX10_probe_28 : decode cX10_probe 28 = .ok (.dup, 1) := by decide +kernel
theorem dX10_probe_29 : decode cX10_probe 29 = .ok (.getfield 161, 3) := by decide +kernel
theorem dX10_probe_32 : decode cX10_probe 32 = .ok (.iconst 1, 1) := by decide +kernel
theorem dX10_probe_33 : decode cX10_probe 33 = .ok (.iload_n 1, 1) := by decide +kernel
theorem dX10_probe_34 : decode cX10_probe 34 = .ok (.ishl, 1) := by decide +kernel
theorem dX10_probe_35 : decode cX10_probe 35 = .ok (.ior, 1) := by decide +kernel
theorem dX10_probe_36 : decode cX10_probe 36 = .ok (.putfield 161, 3) := by decide +kernel
theorem dX10_probe_39 : decode cX10_probe 39 = .ok (.aload_n 0, 1) := by decide +kernel
theorem dX10_probe_40 : decode cX10_probe 40 = .ok (.dup, 1) := by decide +kernel
theorem dX10_probe_41 : decode cX10_probe 41 = .ok (.getfield 164, 3) := by decide +kernel
theorem dX10_probe_44 : decode cX10_probe 44 = .ok (.aload_n 0, 1) := by decide +kernel
theorem dX10_probe_45 : decode cX10_probe 45 = .ok (.iload_n 1, 1) := by decide +kernel
theorem dX10_probe_46 : decode cX10_probe 46 = .ok (.invokevirtual 182, 3) := by decide +kernel
theorem dX10_probe_49 : decode cX10_probe 49 = .ok (.ifCond .eq 9, 3) := by decide +kernel
theorem dX10_probe_52 : decode cX10_probe 52 = .ok (.iconst 1, 1) := by decide +kernel
theorem dX10_probe_53 : decode cX10_probe 53 = .ok (.iload_n 1, 1) := by decide +kernel
theorem dX10_probe_54 : decode cX10_probe 54 = .ok (.ishl, 1) := by decide +kernel
theorem dX10_probe_55 : decode cX10_probe 55 = .ok (.goto 4, 3) := by decide +kernel
theorem dX10_probe_58 : decode cX10_probe 58 = .ok (.iconst 0, 1) := by decide +kernel
theorem dX10_probe_59 : decode cX10_probe 59 = .ok (.ior, 1) := by decide +kernel
theorem dX10_probe_60 : decode cX10_probe 60 = .ok (.putfield 164, 3) := by decide +kernel
theorem dX10_probe_63 : decode cX10_probe 63 = .ok (.aload_n 0, 1) := by decide +kernel
theorem dX10_probe_64 : decode cX10_probe 64 = .ok (.dup, 1) := by decide +kernel
theorem dX10_probe_65 : decode cX10_probe 65 = .ok (.getfield 194, 3) := by decide +kernel
theorem dX10_probe_68 : decode cX10_probe 68 = .ok (.iconst 1, 1) := by decide +kernel
theorem dX10_probe_69 : decode cX10_probe 69 = .ok (.iadd, 1) := by decide +kernel
theorem dX10_probe_70 : decode cX10_probe 70 = .ok (.putfield 194, 3) := by decide +kernel
theorem dX10_probe_73 : decode cX10_probe 73 = .ok (.aload_n 0, 1) := by decide +kernel
theorem dX10_probe_74 : decode cX10_probe 74 = .ok (.getfield 164, 3) := by decide +kernel
theorem dX10_probe_77 : decode cX10_probe 77 = .ok (.iload_n 1, 1) := by decide +kernel
theorem dX10_probe_78 : decode cX10_probe 78 = .ok (.ishr, 1) := by decide +kernel
theorem dX10_probe_79 : decode cX10_probe 79 = .ok (.iconst 1, 1) := by decide +kernel
theorem dX10_probe_80 : decode cX10_probe 80 = .ok (.iand, 1) := by decide +kernel
theorem dX10_probe_81 : decode cX10_probe 81 = .ok (.ireturn, 1) := by decide +kernel
theorem dX10_ones_0 : decode cX10_ones 0 = .ok (.iconst 0, 1) := by decide +kernel
theorem dX10_ones_1 : decode cX10_ones 1 = .ok (.istore_n 1, 1) := by decide +kernel
theorem dX10_ones_2 : decode cX10_ones 2 = .ok (.iconst 0, 1) := by decide +kernel
theorem dX10_ones_3 : decode cX10_ones 3 = .ok (.istore_n 2, 1) := by decide +kernel
theorem dX10_ones_4 : decode cX10_ones 4 = .ok (.iload_n 2, 1) := by decide +kernel
theorem dX10_ones_5 : decode cX10_ones 5 = .ok (.bipush 12, 2) := by decide +kernel
theorem dX10_ones_7 : decode cX10_ones 7 = .ok (.if_icmp .ge 17, 3) := by decide +kernel
theorem dX10_ones_10 : decode cX10_ones 10 = .ok (.iload_n 1, 1) := by decide +kernel
theorem dX10_ones_11 : decode cX10_ones 11 = .ok (.iload_n 0, 1) := by decide +kernel
theorem dX10_ones_12 : decode cX10_ones 12 = .ok (.iload_n 2, 1) := by decide +kernel
theorem dX10_ones_13 : decode cX10_ones 13 = .ok (.ishr, 1) := by decide +kernel
theorem dX10_ones_14 : decode cX10_ones 14 = .ok (.iconst 1, 1) := by decide +kernel
theorem dX10_ones_15 : decode cX10_ones 15 = .ok (.iand, 1) := by decide +kernel
theorem dX10_ones_16 : decode cX10_ones 16 = .ok (.iadd, 1) := by decide +kernel
theorem dX10_ones_17 : decode cX10_ones 17 = .ok (.istore_n 1, 1) := by decide +kernel
theorem dX10_ones_18 : decode cX10_ones 18 = .ok (.iinc 2 1, 3) := by decide +kernel
theorem dX10_ones_21 : decode cX10_ones 21 = .ok (.goto (-17), 3) := by decide +kernel
theorem dX10_ones_24 : decode cX10_ones 24 = .ok (.iload_n 1, 1) := by decide +kernel
theorem dX10_ones_25 : decode cX10_ones 25 = .ok (.ireturn, 1) := by decide +kernel
theorem dX10_forget_0 : decode cX10_forget 0 = .ok (.aload_n 0, 1) := by decide +kernel
theorem dX10_forget_1 : decode cX10_forget 1 = .ok (.getfield 161, 3) := by decide +kernel
theorem dX10_forget_4 : decode cX10_forget 4 = .ok (.invokestatic 197, 3) := by decide +kernel
theorem dX10_forget_7 : decode cX10_forget 7 = .ok (.istore_n 1, 1) := by decide +kernel
theorem dX10_forget_8 : decode cX10_forget 8 = .ok (.aload_n 0, 1) := by decide +kernel
theorem dX10_forget_9 : decode cX10_forget 9 = .ok (.iconst 0, 1) := by decide +kernel
theorem dX10_forget_10 : decode cX10_forget 10 = .ok (.putfield 161, 3) := by decide +kernel
theorem dX10_forget_13 : decode cX10_forget 13 = .ok (.aload_n 0, 1) := by decide +kernel
theorem dX10_forget_14 : decode cX10_forget 14 = .ok (.iconst 0, 1) := by decide +kernel
theorem dX10_forget_15 : decode cX10_forget 15 = .ok (.putfield 164, 3) := by decide +kernel
theorem dX10_forget_18 : decode cX10_forget 18 = .ok (.iload_n 1, 1) := by decide +kernel
theorem dX10_forget_19 : decode cX10_forget 19 = .ok (.ireturn, 1) := by decide +kernel
theorem dX10_fits_0 : decode cX10_fits 0 = .ok (.aload_n 0, 1) := by decide +kernel
theorem dX10_fits_1 : decode cX10_fits 1 = .ok (.getfield 46, 3) := by decide +kernel
theorem dX10_fits_4 : decode cX10_fits 4 = .ok (.iload_n 1, 1) := by decide +kernel
theorem dX10_fits_5 : decode cX10_fits 5 = .ok (.iaload, 1) := by decide +kernel
theorem dX10_fits_6 : decode cX10_fits 6 = .ok (.ifCond .eq 20, 3) := by decide +kernel
theorem dX10_fits_9 : decode cX10_fits 9 = .ok (.aload_n 0, 1) := by decide +kernel
theorem dX10_fits_10 : decode cX10_fits 10 = .ok (.getfield 46, 3) := by decide +kernel
theorem dX10_fits_13 : decode cX10_fits 13 = .ok (.iload_n 1, 1) := by decide +kernel
theorem dX10_fits_14 : decode cX10_fits 14 = .ok (.iaload, 1) := by decide +kernel
theorem dX10_fits_15 : decode cX10_fits 15 = .ok (.iload_n 3, 1) := by decide +kernel
theorem dX10_fits_16 : decode cX10_fits 16 = .ok (.ixor, 1) := by decide +kernel
theorem dX10_fits_17 : decode cX10_fits 17 = .ok (.iload_n 2, 1) := by decide +kernel
theorem dX10_fits_18 : decode cX10_fits 18 = .ok (.iand, 1) := by decide +kernel
theorem dX10_fits_19 : decode cX10_fits 19 = .ok (.ifCond .ne 7, 3) := by decide +kernel
theorem dX10_fits_22 : decode cX10_fits 22 = .ok (.iconst 1, 1) := by decide +kernel
theorem dX10_fits_23 : decode cX10_fits 23 = .ok (.goto 4, 3) := by decide +kernel
theorem dX10_fits_26 : decode cX10_fits 26 = .ok (.iconst 0, 1) := by decide +kernel
theorem dX10_fits_27 : decode cX10_fits 27 = .ok (.ireturn, 1) := by decide +kernel
theorem dX10_fitting_0 : decode cX10_fitting 0 = .ok (.iconst 0, 1) := by decide +kernel
theorem dX10_fitting_1 : decode cX10_fitting 1 = .ok (.istore_n 3, 1) := by decide +kernel
theorem dX10_fitting_2 : decode cX10_fitting 2 = .ok (.iconst 0, 1) := by decide +kernel
theorem dX10_fitting_3 : decode cX10_fitting 3 = .ok (.istore 4, 2) := by decide +kernel
theorem dX10_fitting_5 : decode cX10_fitting 5 = .ok (.iload 4, 2) := by decide +kernel
theorem dX10_fitting_7 : decode cX10_fitting 7 = .ok (.aload_n 0, 1) := by decide +kernel
theorem dX10_fitting_8 : decode cX10_fitting 8 = .ok (.getfield 148, 3) := by decide +kernel
theorem dX10_fitting_11 : decode cX10_fitting 11 = .ok (.if_icmp .ge 28, 3) := by decide +kernel
theorem dX10_fitting_14 : decode cX10_fitting 14 = .ok (.iload_n 3, 1) := by decide +kernel
theorem dX10_fitting_15 : decode cX10_fitting 15 = .ok (.aload_n 0, 1) := by decide +kernel
theorem dX10_fitting_16 : decode cX10_fitting 16 = .ok (.iload 4, 2) := by decide +kernel
theorem dX10_fitting_18 : decode cX10_fitting 18 = .ok (.iload_n 1, 1) := by decide +kernel
theorem dX10_fitting_19 : decode cX10_fitting 19 = .ok (.iload_n 2, 1) := by decide +kernel
theorem dX10_fitting_20 : decode cX10_fitting 20 = .ok (.invokevirtual 200, 3) := by decide +kernel
theorem dX10_fitting_23 : decode cX10_fitting 23 = .ok (.ifCond .eq 7, 3) := by decide +kernel
theorem dX10_fitting_26 : decode cX10_fitting 26 = .ok (.iconst 1, 1) := by decide +kernel
theorem dX10_fitting_27 : decode cX10_fitting 27 = .ok (.goto 4, 3) := by decide +kernel
theorem dX10_fitting_30 : decode cX10_fitting 30 = .ok (.iconst 0, 1) := by decide +kernel
theorem dX10_fitting_31 : decode cX10_fitting 31 = .ok (.iadd, 1) := by decide +kernel
theorem dX10_fitting_32 : decode cX10_fitting 32 = .ok (.istore_n 3, 1) := by decide +kernel
theorem dX10_fitting_33 : decode cX10_fitting 33 = .ok (.iinc 4 1, 3) := by decide +kernel
theorem dX10_fitting_36 : decode cX10_fitting 36 = .ok (.goto (-31), 3) := by decide +kernel
theorem dX10_fitting_39 : decode cX10_fitting 39 = .ok (.iload_n 3, 1) := by decide +kernel
theorem dX10_fitting_40 : decode cX10_fitting 40 = .ok (.ireturn, 1) := by decide +kernel
theorem dX10_nextBy_0 : decode cX10_nextBy 0 = .ok (.aload_n 0, 1) := by decide +kernel
theorem dX10_nextBy_1 : decode cX10_nextBy 1 = .ok (.iload_n 1, 1) := by decide +kernel
theorem dX10_nextBy_2 : decode cX10_nextBy 2 = .ok (.iload_n 2, 1) := by decide +kernel
theorem dX10_nextBy_3 : decode cX10_nextBy 3 = .ok (.invokevirtual 203, 3) := by decide +kernel
theorem dX10_nextBy_6 : decode cX10_nextBy 6 = .ok (.istore_n 3, 1) := by decide +kernel
theorem dX10_nextBy_7 : decode cX10_nextBy 7 = .ok (.iconst (-1), 1) := by decide +kernel
theorem dX10_nextBy_8 : decode cX10_nextBy 8 = .ok (.istore 4, 2) := by decide +kernel
theorem dX10_nextBy_10 : decode cX10_nextBy 10 = .ok (.iload_n 3, 1) := by decide +kernel
theorem dX10_nextBy_11 : decode cX10_nextBy 11 = .ok (.iload_n 3, 1) := by decide +kernel
theorem dX10_nextBy_12 : decode cX10_nextBy 12 = .ok (.imul, 1) := by decide +kernel
theorem dX10_nextBy_13 : decode cX10_nextBy 13 = .ok (.istore 5, 2) := by decide +kernel
theorem dX10_nextBy_15 : decode cX10_nextBy 15 = .ok (.iconst 0, 1) := by decide +kernel
theorem dX10_nextBy_16 : decode cX10_nextBy 16 = .ok (.istore 6, 2) := by decide +kernel
theorem dX10_nextBy_18 : decode cX10_nextBy 18 = .ok (.iload 6, 2) := by decide +kernel
theorem dX10_nextBy_20 : decode cX10_nextBy 20 = .ok (.aload_n 0, 1) := by decide +kernel
theorem dX10_nextBy_21 : decode cX10_nextBy 21 = .ok (.getfield 115, 3) := by decide +kernel
theorem dX10_nextBy_24 : decode cX10_nextBy 24 = .ok (.if_icmp .ge 85, 3) := by decide +kernel
theorem dX10_nextBy_27 : decode cX10_nextBy 27 = .ok (.iload_n 1, 1) := by decide +kernel
theorem dX10_nextBy_28 : decode cX10_nextBy 28 = .ok (.iload 6, 2) := by decide +kernel
theorem dX10_nextBy_30 : decode cX10_nextBy 30 = .ok (.invokestatic 179, 3) := by decide +kernel
theorem dX10_nextBy_33 : decode cX10_nextBy 33 = .ok (.ifCond .ne 70, 3) := by decide +kernel
theorem dX10_nextBy_36 : decode cX10_nextBy 36 = .ok (.aload_n 0, 1) := by decide +kernel
theorem dX10_nextBy_37 : decode cX10_nextBy 37 = .ok (.iload_n 1, 1) := by decide +kernel
theorem dX10_nextBy_38 : decode cX10_nextBy 38 = .ok (.iconst 1, 1) := by decide +kernel
theorem dX10_nextBy_39 : decode cX10_nextBy 39 = .ok (.iload 6, 2) := by decide +kernel
theorem dX10_nextBy_41 : decode cX10_nextBy 41 = .ok (.ishl, 1) := by decide +kernel
theorem dX10_nextBy_42 : decode cX10_nextBy 42 = .ok (.ior, 1) := by decide +kernel
theorem dX10_nextBy_43 : decode cX10_nextBy 43 = .ok (.iload_n 2, 1) := by decide +kernel
theorem dX10_nextBy_44 : decode cX10_nextBy 44 = .ok (.iconst 1, 1) := by decide +kernel
theorem dX10_nextBy_45 : decode cX10_nextBy 45 = .ok (.iload 6, 2) := by decide +kernel
theorem dX10_nextBy_47 : decode cX10_nextBy 47 = .ok (.ishl, 1) := by decide +kernel
theorem dX10_nextBy_48 : decode cX10_nextBy 48 = .ok (.ior, 1) := by decide +kernel
theorem dX10_nextBy_49 : decode cX10_nextBy 49 = .ok (.invokevirtual 203, 3) := by decide +kernel
theorem dX10_nextBy_52 : decode cX10_nextBy 52 = .ok (.istore 7, 2) := by decide +kernel
theorem dX10_nextBy_54 : decode cX10_nextBy 54 = .ok (.iload 7, 2) := by decide +kernel
theorem dX10_nextBy_56 : decode cX10_nextBy 56 = .ok (.iload 7, 2) := by decide +kernel
theorem dX10_nextBy_58 : decode cX10_nextBy 58 = .ok (.imul, 1) := by decide +kernel
theorem dX10_nextBy_59 : decode cX10_nextBy 59 = .ok (.iload_n 3, 1) := by decide +kernel
theorem dX10_nextBy_60 : decode cX10_nextBy 60 = .ok (.iload 7, 2) := by decide +kernel
theorem dX10_nextBy_62 : decode cX10_nextBy 62 = .ok (.isub, 1) := by decide +kernel
theorem dX10_nextBy_63 : decode cX10_nextBy 63 = .ok (.iload_n 3, 1) := by decide +kernel
theorem dX10_nextBy_64 : decode cX10_nextBy 64 = .ok (.iload 7, 2) := by decide +kernel
theorem dX10_nextBy_66 : decode cX10_nextBy 66 = .ok (.isub, 1) := by decide +kernel
theorem dX10_nextBy_67 : decode cX10_nextBy 67 = .ok (.imul, 1) := by decide +kernel
theorem dX10_nextBy_68 : decode cX10_nextBy 68 = .ok (.iadd, 1) := by decide +kernel
theorem dX10_nextBy_69 : decode cX10_nextBy 69 = .ok (.istore 8, 2) := by decide +kernel
theorem dX10_nextBy_71 : decode cX10_nextBy 71 = .ok (.iload 8, 2) := by decide +kernel
theorem dX10_nextBy_73 : decode cX10_nextBy 73 = .ok (.iload 5, 2) := by decide +kernel
theorem dX10_nextBy_75 : decode cX10_nextBy 75 = .ok (.if_icmp .ge 8, 3) := by decide +kernel
theorem dX10_nextBy_78 : decode cX10_nextBy 78 = .ok (.iload 6, 2) := by decide +kernel
theorem dX10_nextBy_80 : decode cX10_nextBy 80 = .ok (.goto 5, 3) := by decide +kernel
theorem dX10_nextBy_83 : decode cX10_nextBy 83 = .ok (.iload 4, 2) := by decide +kernel
theorem dX10_nextBy_85 : decode cX10_nextBy 85 = .ok (.istore 4, 2) := by decide +kernel
theorem dX10_nextBy_87 : decode cX10_nextBy 87 = .ok (.iload 8, 2) := by decide +kernel
theorem dX10_nextBy_89 : decode cX10_nextBy 89 = .ok (.iload 5, 2) := by decide +kernel
theorem dX10_nextBy_91 : decode cX10_nextBy 91 = .ok (.if_icmp .ge 8, 3) := by decide +kernel
theorem dX10_nextBy_94 : decode cX10_nextBy 94 = .ok (.iload 8, 2) := by decide +kernel
theorem dX10_nextBy_96 : decode cX10_nextBy 96 = .ok (.goto 5, 3) := by decide +kernel
theorem dX10_nextBy_99 : decode cX10_nextBy 99 = .ok (.iload 5, 2) := by decide +kernel
theorem dX10_nextBy_101 : decode cX10_nextBy 101 = .ok (.istore 5, 2) := by decide +kernel
theorem dX10_nextBy_103 : decode cX10_nextBy 103 = .ok (.iinc 6 1, 3) := by decide +kernel
theorem dX10_nextBy_106 : decode cX10_nextBy 106 = .ok (.goto (-88), 3) := by decide +kernel
theorem dX10_nextBy_109 : decode cX10_nextBy 109 = .ok (.iload 4, 2) := by decide +kernel
theorem dX10_nextBy_111 : decode cX10_nextBy 111 = .ok (.ireturn, 1) := by decide +kernel
theorem dX10_layRest_0 : decode cX10_layRest 0 = .ok (.aload_n 0, 1) := by decide +kernel
theorem dX10_layRest_1 : decode cX10_layRest 1 = .ok (.getfield 161, 3) := by decide +kernel
theorem dX10_layRest_4 : decode cX10_layRest 4 = .ok (.istore_n 2, 1) := by decide +kernel
theorem dX10_layRest_5 : decode cX10_layRest 5 = .ok (.aload_n 0, 1) := by decide +kernel
theorem dX10_layRest_6 : decode cX10_layRest 6 = .ok (.getfield 164, 3) := by decide +kernel
theorem dX10_layRest_9 : decode cX10_layRest 9 = .ok (.istore_n 3, 1) := by decide +kernel
theorem dX10_layRest_10 : decode cX10_layRest 10 = .ok (.aload_n 0, 1) := by decide +kernel
theorem dX10_layRest_11 : decode cX10_layRest 11 = .ok (.iconst 0, 1) := by decide +kernel
theorem dX10_layRest_12 : decode cX10_layRest 12 = .ok (.putfield 206, 3) := by decide +kernel
theorem dX10_layRest_15 : decode cX10_layRest 15 = .ok (.aload_n 0, 1) := by decide +kernel
theorem dX10_layRest_16 : decode cX10_layRest 16 = .ok (.iload_n 2, 1) := by decide +kernel
theorem dX10_layRest_17 : decode cX10_layRest 17 = .ok (.iload_n 3, 1) := by decide +kernel
theorem dX10_layRest_18 : decode cX10_layRest 18 = .ok (.invokevirtual 209, 3) := by decide +kernel
theorem dX10_layRest_21 : decode cX10_layRest 21 = .ok (.istore 4, 2) := by decide +kernel
theorem dX10_layRest_23 : decode cX10_layRest 23 = .ok (.iload 4, 2) := by decide +kernel
theorem dX10_layRest_25 : decode cX10_layRest 25 = .ok (.iconst (-1), 1) := by decide +kernel
theorem dX10_layRest_26 : decode cX10_layRest 26 = .ok (.if_icmp .eq 45, 3) := by decide +kernel
theorem dX10_layRest_29 : decode cX10_layRest 29 = .ok (.iload_n 2, 1) := by decide +kernel
theorem dX10_layRest_30 : decode cX10_layRest 30 = .ok (.iconst 1, 1) := by decide +kernel
theorem dX10_layRest_31 : decode cX10_layRest 31 = .ok (.iload 4, 2) := by decide +kernel
theorem dX10_layRest_33 : decode cX10_layRest 33 = .ok (.ishl, 1) := by decide +kernel
theorem dX10_layRest_34 : decode cX10_layRest 34 = .ok (.ior, 1) := by decide +kernel
theorem dX10_layRest_35 : decode cX10_layRest 35 = .ok (.istore_n 2, 1) := by decide +kernel
theorem dX10_layRest_36 : decode cX10_layRest 36 = .ok (.iload_n 3, 1) := by decide +kernel
theorem dX10_layRest_37 : decode cX10_layRest 37 = .ok (.aload_n 0, 1) := by decide +kernel
theorem dX10_layRest_38 : decode cX10_layRest 38 = .ok (.getfield 46, 3) := by decide +kernel
theorem dX10_layRest_41 : decode cX10_layRest 41 = .ok (.iload_n 1, 1) := by decide +kernel
theorem dX10_layRest_42 : decode cX10_layRest 42 = .ok (.iaload, 1) := by decide +kernel
theorem dX10_layRest_43 : decode cX10_layRest 43 = .ok (.iconst 1, 1) := by decide +kernel
theorem dX10_layRest_44 : decode cX10_layRest 44 = .ok (.iload 4, 2) := by decide +kernel
theorem dX10_layRest_46 : decode cX10_layRest 46 = .ok (.ishl, 1) := by decide +kernel
theorem dX10_layRest_47 : decode cX10_layRest 47 = .ok (.iand, 1) := by decide +kernel
theorem dX10_layRest_48 : decode cX10_layRest 48 = .ok (.ior, 1) := by decide +kernel
theorem dX10_layRest_49 : decode cX10_layRest 49 = .ok (.istore_n 3, 1) := by decide +kernel
theorem dX10_layRest_50 : decode cX10_layRest 50 = .ok (.aload_n 0, 1) := by decide +kernel
theorem dX10_layRest_51 : decode cX10_layRest 51 = .ok (.dup, 1) := by decide +kernel
theorem dX10_layRest_52 : decode cX10_layRest 52 = .ok (.getfield 206, 3) := by decide +kernel
theorem dX10_layRest_55 : decode cX10_layRest 55 = .ok (.iconst 1, 1) := by decide +kernel
theorem dX10_layRest_56 : decode cX10_layRest 56 = .ok (.iadd, 1) := by decide +kernel
theorem dX10_layRest_57 : decode cX10_layRest 57 = .ok (.putfield 206, 3) := by decide +kernel
theorem dX10_layRest_60 : decode cX10_layRest 60 = .ok (.aload_n 0, 1) := by decide +kernel
theorem dX10_layRest_61 : decode cX10_layRest 61 = .ok (.iload_n 2, 1) := by decide +kernel
theorem dX10_layRest_62 : decode cX10_layRest 62 = .ok (.iload_n 3, 1) := by decide +kernel
theorem dX10_layRest_63 : decode cX10_layRest 63 = .ok (.invokevirtual 209, 3) := by decide +kernel
theorem dX10_layRest_66 : decode cX10_layRest 66 = .ok (.istore 4, 2) := by decide +kernel
theorem dX10_layRest_68 : decode cX10_layRest 68 = .ok (.goto (-45), 3) := by decide +kernel
theorem dX10_layRest_71 : decode cX10_layRest 71 = .ok (.aload_n 0, 1) := by decide +kernel
theorem dX10_layRest_72 : decode cX10_layRest 72 = .ok (.aload_n 0, 1) := by decide +kernel
theorem dX10_layRest_73 : decode cX10_layRest 73 = .ok (.iload_n 2, 1) := by decide +kernel
theorem dX10_layRest_74 : decode cX10_layRest 74 = .ok (.iload_n 3, 1) := by decide +kernel
theorem dX10_layRest_75 : decode cX10_layRest 75 = .ok (.invokevirtual 203, 3) := by decide +kernel
theorem dX10_layRest_78 : decode cX10_layRest 78 = .ok (.putfield 212, 3) := by decide +kernel
theorem dX10_layRest_81 : decode cX10_layRest 81 = .ok (.return_, 1) := by decide +kernel
theorem dX10_layRests_0 : decode cX10_layRests 0 = .ok (.aload_n 0, 1) := by decide +kernel
theorem dX10_layRests_1 : decode cX10_layRests 1 = .ok (.iconst 0, 1) := by decide +kernel
theorem dX10_layRests_2 : decode cX10_layRests 2 = .ok (.putfield 215, 3) := by decide +kernel
theorem dX10_layRests_5 : decode cX10_layRests 5 = .ok (.aload_n 0, 1) := by decide +kernel
theorem dX10_layRests_6 : decode cX10_layRests 6 = .ok (.iconst 0, 1) := by decide +kernel
theorem dX10_layRests_7 : decode cX10_layRests 7 = .ok (.putfield 218, 3) := by decide +kernel
theorem dX10_layRests_10 : decode cX10_layRests 10 = .ok (.aload_n 0, 1) := by decide +kernel
theorem dX10_layRests_11 : decode cX10_layRests 11 = .ok (.iconst 0, 1) := by decide +kernel
theorem dX10_layRests_12 : decode cX10_layRests 12 = .ok (.putfield 221, 3) := by decide +kernel
theorem dX10_layRests_15 : decode cX10_layRests 15 = .ok (.iconst 0, 1) := by decide +kernel
theorem dX10_layRests_16 : decode cX10_layRests 16 = .ok (.istore_n 1, 1) := by decide +kernel
theorem dX10_layRests_17 : decode cX10_layRests 17 = .ok (.iload_n 1, 1) := by decide +kernel
theorem dX10_layRests_18 : decode cX10_layRests 18 = .ok (.aload_n 0, 1) := by decide +kernel
theorem dX10_layRests_19 : decode cX10_layRests 19 = .ok (.getfield 148, 3) := by decide +kernel
theorem dX10_layRests_22 : decode cX10_layRests 22 = .ok (.if_icmp .ge 95, 3) := by decide +kernel
theorem dX10_layRests_25 : decode cX10_layRests 25 = .ok (.aload_n 0, 1) := by decide +kernel
theorem dX10_layRests_26 : decode cX10_layRests 26 = .ok (.iload_n 1, 1) := by decide +kernel
theorem dX10_layRests_27 : decode cX10_layRests 27 = .ok (.aload_n 0, 1) := by decide +kernel
theorem dX10_layRests_28 : decode cX10_layRests 28 = .ok (.getfield 161, 3) := by decide +kernel
theorem dX10_layRests_31 : decode cX10_layRests 31 = .ok (.aload_n 0, 1) := by decide +kernel
theorem dX10_layRests_32 : decode cX10_layRests 32 = .ok (.getfield 164, 3) := by decide +kernel
theorem dX10_layRests_35 : decode cX10_layRests 35 = .ok (.invokevirtual 200, 3) := by decide +kernel
theorem dX10_layRests_38 : decode cX10_layRests 38 = .ok (.ifCond .eq 73, 3) := by decide +kernel
theorem dX10_layRests_41 : decode cX10_layRests 41 = .ok (.aload_n 0, 1) := by decide +kernel
theorem dX10_layRests_42 : decode cX10_layRests 42 = .ok (.iload_n 1, 1) := by decide +kernel
theorem dX10_layRests_43 : decode cX10_layRests 43 = .ok (.invokevirtual 224, 3) := by decide +kernel
theorem dX10_layRests_46 : decode cX10_layRests 46 = .ok (.aload_n 0, 1) := by decide +kernel
theorem dX10_layRests_47 : decode cX10_layRests 47 = .ok (.aload_n 0, 1) := by decide +kernel
theorem dX10_layRests_48 : decode cX10_layRests 48 = .ok (.getfield 206, 3) := by decide +kernel
theorem dX10_layRests_51 : decode cX10_layRests 51 = .ok (.aload_n 0, 1) := by decide +kernel
theorem dX10_layRests_52 : decode cX10_layRests 52 = .ok (.getfield 215, 3) := by decide +kernel
theorem dX10_layRests_55 : decode cX10_layRests 55 = .ok (.if_icmp .le 10, 3) := by decide +kernel
theorem dX10_layRests_58 : decode cX10_layRests 58 = .ok (.aload_n 0, 1) := by decide +kernel
theorem dX10_layRests_59 : decode cX10_layRests 59 = .ok (.getfield 206, 3) := by decide +kernel
theorem dX10_layRests_62 : decode cX10_layRests 62 = .ok (.goto 7, 3) := by decide +kernel
theorem dX10_layRests_65 : decode cX10_layRests 65 = .ok (.aload_n 0, 1) := by decide +kernel
theorem dX10_layRests_66 : decode cX10_layRests 66 = .ok (.getfield 215, 3) := by decide +kernel
theorem dX10_layRests_69 : decode cX10_layRests 69 = .ok (.putfield 215, 3) := by decide +kernel
theorem dX10_layRests_72 : decode cX10_layRests 72 = .ok (.aload_n 0, 1) := by decide +kernel
theorem dX10_layRests_73 : decode cX10_layRests 73 = .ok (.dup, 1) := by decide +kernel
theorem dX10_layRests_74 : decode cX10_layRests 74 = .ok (.getfield 218, 3) := by decide +kernel
theorem dX10_layRests_77 : decode cX10_layRests 77 = .ok (.aload_n 0, 1) := by decide +kernel
theorem dX10_layRests_78 : decode cX10_layRests 78 = .ok (.getfield 206, 3) := by decide +kernel
theorem dX10_layRests_81 : decode cX10_layRests 81 = .ok (.iadd, 1) := by decide +kernel
theorem dX10_layRests_82 : decode cX10_layRests 82 = .ok (.putfield 218, 3) := by decide +kernel
theorem dX10_layRests_85 : decode cX10_layRests 85 = .ok (.aload_n 0, 1) := by decide +kernel
theorem dX10_layRests_86 : decode cX10_layRests 86 = .ok (.aload_n 0, 1) := by decide +kernel
theorem dX10_layRests_87 : decode cX10_layRests 87 = .ok (.getfield 212, 3) := by decide +kernel
theorem dX10_layRests_90 : decode cX10_layRests 90 = .ok (.aload_n 0, 1) := by decide +kernel
theorem dX10_layRests_91 : decode cX10_layRests 91 = .ok (.getfield 221, 3) := by decide +kernel
theorem dX10_layRests_94 : decode cX10_layRests 94 = .ok (.if_icmp .le 10, 3) := by decide +kernel
theorem dX10_layRests_97 : decode cX10_layRests 97 = .ok (.aload_n 0, 1) := by decide +kernel
theorem dX10_layRests_98 : decode cX10_layRests 98 = .ok (.getfield 212, 3) := by decide +kernel
theorem dX10_layRests_101 : decode cX10_layRests 101 = .ok (.goto 7, 3) := by decide +kernel
theorem dX10_layRests_104 : decode cX10_layRests 104 = .ok (.aload_n 0, 1) := by decide +kernel
theorem dX10_layRests_105 : decode cX10_layRests 105 = .ok (.getfield 221, 3) := by decide +kernel
theorem dX10_layRests_108 : decode cX10_layRests 108 = .ok (.putfield 221, 3) := by decide +kernel
theorem dX10_layRests_111 : decode cX10_layRests 111 = .ok (.iinc 1 1, 3) := by decide +kernel
theorem dX10_layRests_114 : decode cX10_layRests 114 = .ok (.goto (-97), 3) := by decide +kernel
theorem dX10_layRests_117 : decode cX10_layRests 117 = .ok (.return_, 1) := by decide +kernel
theorem dX10_suspectsNow_0 : decode cX10_suspectsNow 0 = .ok (.iload_n 1, 1) := by decide +kernel
theorem dX10_suspectsNow_1 : decode cX10_suspectsNow 1 = .ok (.iconst 2, 1) := by decide +kernel
theorem dX10_suspectsNow_2 : decode cX10_suspectsNow 2 = .ok (.if_icmp .ge 35, 3) := by decide +kernel
theorem dX10_suspectsNow_5 : decode cX10_suspectsNow 5 = .ok (.iload_n 1, 1) := by decide +kernel
theorem dX10_suspectsNow_6 : decode cX10_suspectsNow 6 = .ok (.ifCond .ne 18, 3) := by decide +kernel
theorem dX10_suspectsNow_9 : decode cX10_suspectsNow 9 = .ok (.aload_n 0, 1) := by decide +kernel
theorem dX10_suspectsNow_10 : decode cX10_suspectsNow 10 = .ok (.aload_n 0, 1) := by decide +kernel
theorem dX10_suspectsNow_11 : decode cX10_suspectsNow 11 = .ok (.getfield 161, 3) := by decide +kernel
theorem dX10_suspectsNow_14 : decode cX10_suspectsNow 14 = .ok (.aload_n 0, 1) := by decide +kernel
theorem dX10_suspectsNow_15 : decode cX10_suspectsNow 15 = .ok (.getfield 164, 3) := by decide +kernel
theorem dX10_suspectsNow_18 : decode cX10_suspectsNow 18 = .ok (.invokevirtual 203, 3) := by decide +kernel
theorem dX10_suspectsNow_21 : decode cX10_suspectsNow 21 = .ok (.goto 15, 3) := by decide +kernel
theorem dX10_suspectsNow_24 : decode cX10_suspectsNow 24 = .ok (.aload_n 0, 1) := by decide +kernel
theorem dX10_suspectsNow_25 : decode cX10_suspectsNow 25 = .ok (.aload_n 0, 1) := by decide +kernel
theorem dX10_suspectsNow_26 : decode cX10_suspectsNow 26 = .ok (.getfield 161, 3) := by decide +kernel
theorem dX10_suspectsNow_29 : decode cX10_suspectsNow 29 = .ok (.aload_n 0, 1) := by decide +kernel
theorem dX10_suspectsNow_30 : decode cX10_suspectsNow 30 = .ok (.getfield 164, 3) := by decide +kernel
theorem dX10_suspectsNow_33 : decode cX10_suspectsNow 33 = .ok (.invokevirtual 209, 3) := by decide +kernel
theorem dX10_suspectsNow_36 : decode cX10_suspectsNow 36 = .ok (.ireturn, 1) := by decide +kernel
theorem dX10_suspectsNow_37 : decode cX10_suspectsNow 37 = .ok (.aload_n 0, 1) := by decide +kernel
theorem dX10_suspectsNow_38 : decode cX10_suspectsNow 38 = .ok (.invokevirtual 227, 3) := by decide +kernel
theorem dX10_suspectsNow_41 : decode cX10_suspectsNow 41 = .ok (.iload_n 1, 1) := by decide +kernel
theorem dX10_suspectsNow_42 : decode cX10_suspectsNow 42 = .ok (.iconst 2, 1) := by decide +kernel
theorem dX10_suspectsNow_43 : decode cX10_suspectsNow 43 = .ok (.if_icmp .ne 10, 3) := by decide +kernel
theorem dX10_suspectsNow_46 : decode cX10_suspectsNow 46 = .ok (.aload_n 0, 1) := by decide +kernel
theorem dX10_suspectsNow_47 : decode cX10_suspectsNow 47 = .ok (.getfield 215, 3) := by decide +kernel
theorem dX10_suspectsNow_50 : decode cX10_suspectsNow 50 = .ok (.goto 19, 3) := by decide +kernel
theorem dX10_suspectsNow_53 : decode cX10_suspectsNow 53 = .ok (.iload_n 1, 1) := by decide +kernel
theorem dX10_suspectsNow_54 : decode cX10_suspectsNow 54 = .ok (.iconst 3, 1) := by decide +kernel
theorem dX10_suspectsNow_55 : decode cX10_suspectsNow 55 = .ok (.if_icmp .ne 10, 3) := by decide +kernel
theorem dX10_suspectsNow_58 : decode cX10_suspectsNow 58 = .ok (.aload_n 0, 1) := by decide +kernel
theorem dX10_suspectsNow_59 : decode cX10_suspectsNow 59 = .ok (.getfield 218, 3) := by decide +kernel
theorem dX10_suspectsNow_62 : decode cX10_suspectsNow 62 = .ok (.goto 7, 3) := by decide +kernel
theorem dX10_suspectsNow_65 : decode cX10_suspectsNow 65 = .ok (.aload_n 0, 1) := by decide +kernel
theorem dX10_suspectsNow_66 : decode cX10_suspectsNow 66 = .ok (.getfield 221, 3) := by decide +kernel
theorem dX10_suspectsNow_69 : decode cX10_suspectsNow 69 = .ok (.ireturn, 1) := by decide +kernel
theorem dX10_suspects_0 : decode cX10_suspects 0 = .ok (.iload_n 1, 1) := by decide +kernel
theorem dX10_suspects_1 : decode cX10_suspects 1 = .ok (.iconst 0, 1) := by decide +kernel
theorem dX10_suspects_2 : decode cX10_suspects 2 = .ok (.iconst 4, 1) := by decide +kernel
theorem dX10_suspects_3 : decode cX10_suspects 3 = .ok (.invokestatic 55, 3) := by decide +kernel
theorem dX10_suspects_6 : decode cX10_suspects 6 = .ok (.ifCond .eq 11, 3) := by decide +kernel
theorem dX10_suspects_9 : decode cX10_suspects 9 = .ok (.aload_n 0, 1) := by decide +kernel
theorem dX10_suspects_10 : decode cX10_suspects 10 = .ok (.iload_n 1, 1) := by decide +kernel
theorem dX10_suspects_11 : decode cX10_suspects 11 = .ok (.invokevirtual 230, 3) := by decide +kernel
theorem dX10_suspects_14 : decode cX10_suspects 14 = .ok (.goto 6, 3) := by decide +kernel
theorem dX10_suspects_17 : decode cX10_suspects 17 = .ok (.sipush (-1002), 3) := by decide +kernel
theorem dX10_suspects_20 : decode cX10_suspects 20 = .ok (.ireturn, 1) := by decide +kernel
theorem dX10_suspectAt_0 : decode cX10_suspectAt 0 = .ok (.iload_n 1, 1) := by decide +kernel
theorem dX10_suspectAt_1 : decode cX10_suspectAt 1 = .ok (.istore_n 2, 1) := by decide +kernel
theorem dX10_suspectAt_2 : decode cX10_suspectAt 2 = .ok (.iconst 0, 1) := by decide +kernel
theorem dX10_suspectAt_3 : decode cX10_suspectAt 3 = .ok (.istore_n 3, 1) := by decide +kernel
theorem dX10_suspectAt_4 : decode cX10_suspectAt 4 = .ok (.iload_n 3, 1) := by decide +kernel
theorem dX10_suspectAt_5 : decode cX10_suspectAt 5 = .ok (.aload_n 0, 1) := by decide +kernel
theorem dX10_suspectAt_6 : decode cX10_suspectAt 6 = .ok (.getfield 148, 3) := by decide +kernel
theorem dX10_suspectAt_9 : decode cX10_suspectAt 9 = .ok (.if_icmp .ge 38, 3) := by decide +kernel
theorem dX10_suspectAt_12 : decode cX10_suspectAt 12 = .ok (.iload_n 2, 1) := by decide +kernel
theorem dX10_suspectAt_13 : decode cX10_suspectAt 13 = .ok (.ifCond .lt 34, 3) := by decide +kernel
theorem dX10_suspectAt_16 : decode cX10_suspectAt 16 = .ok (.aload_n 0, 1) := by decide +kernel
theorem dX10_suspectAt_17 : decode cX10_suspectAt 17 = .ok (.iload_n 3, 1) := by decide +kernel
theorem dX10_suspectAt_18 : decode cX10_suspectAt 18 = .ok (.aload_n 0, 1) := by decide +kernel
theorem dX10_suspectAt_19 : decode cX10_suspectAt 19 = .ok (.getfield 161, 3) := by decide +kernel
theorem dX10_suspectAt_22 : decode cX10_suspectAt 22 = .ok (.aload_n 0, 1) := by decide +kernel
theorem dX10_suspectAt_23 : decode cX10_suspectAt 23 = .ok (.getfield 164, 3) := by decide +kernel
theorem dX10_suspectAt_26 : decode cX10_suspectAt 26 = .ok (.invokevirtual 200, 3) := by decide +kernel
theorem dX10_suspectAt_29 : decode cX10_suspectAt 29 = .ok (.ifCond .eq 12, 3) := by decide +kernel
theorem dX10_suspectAt_32 : decode cX10_suspectAt 32 = .ok (.iload_n 2, 1) := by decide +kernel
theorem dX10_suspectAt_33 : decode cX10_suspectAt 33 = .ok (.ifCond .ne 5, 3) := by decide +kernel
theorem dX10_suspectAt_36 : decode cX10_suspectAt 36 = .ok (.iload_n 3, 1) := by decide +kernel
theorem dX10_suspectAt_37 : decode cX10_suspectAt 37 = .ok (.ireturn, 1) := by decide +kernel
theorem dX10_suspectAt_38 : decode cX10_suspectAt 38 = .ok (.iinc 2 (-1), 3) := by decide +kernel
theorem dX10_suspectAt_41 : decode cX10_suspectAt 41 = .ok (.iinc 3 1, 3) := by decide +kernel
theorem dX10_suspectAt_44 : decode cX10_suspectAt 44 = .ok (.goto (-40), 3) := by decide +kernel
theorem dX10_suspectAt_47 : decode cX10_suspectAt 47 = .ok (.iconst (-1), 1) := by decide +kernel
theorem dX10_suspectAt_48 : decode cX10_suspectAt 48 = .ok (.ireturn, 1) := by decide +kernel
theorem dX10_suspectNow_0 : decode cX10_suspectNow 0 = .ok (.iload_n 2, 1) := by decide +kernel
theorem dX10_suspectNow_1 : decode cX10_suspectNow 1 = .ok (.ifCond .ne 10, 3) := by decide +kernel
theorem dX10_suspectNow_4 : decode cX10_suspectNow 4 = .ok (.aload_n 0, 1) := by decide +kernel
theorem dX10_suspectNow_5 : decode cX10_suspectNow 5 = .ok (.getfield 43, 3) := by decide +kernel
theorem dX10_suspectNow_8 : decode cX10_suspectNow 8 = .ok (.iload_n 1, 1) := by decide +kernel
theorem dX10_suspectNow_9 : decode cX10_suspectNow 9 = .ok (.iaload, 1) := by decide +kernel
theorem dX10_suspectNow_10 : decode cX10_suspectNow 10 = .ok (.ireturn, 1) := by decide +kernel
theorem dX10_suspectNow_11 : decode cX10_suspectNow 11 = .ok (.aload_n 0, 1) := by decide +kernel
theorem dX10_suspectNow_12 : decode cX10_suspectNow 12 = .ok (.iload_n 1, 1) := by decide +kernel
theorem dX10_suspectNow_13 : decode cX10_suspectNow 13 = .ok (.invokevirtual 224, 3) := by decide +kernel
theorem dX10_suspectNow_16 : decode cX10_suspectNow 16 = .ok (.iload_n 2, 1) := by decide +kernel
theorem dX10_suspectNow_17 : decode cX10_suspectNow 17 = .ok (.iconst 1, 1) := by decide +kernel
theorem dX10_suspectNow_18 : decode cX10_suspectNow 18 = .ok (.if_icmp .ne 10, 3) := by decide +kernel
theorem dX10_suspectNow_21 : decode cX10_suspectNow 21 = .ok (.aload_n 0, 1) := by decide +kernel
theorem dX10_suspectNow_22 : decode cX10_suspectNow 22 = .ok (.getfield 212, 3) := by decide +kernel
theorem dX10_suspectNow_25 : decode cX10_suspectNow 25 = .ok (.goto 7, 3) := by decide +kernel
theorem dX10_suspectNow_28 : decode cX10_suspectNow 28 = .ok (.aload_n 0, 1) := by decide +kernel
theorem dX10_suspectNow_29 : decode cX10_suspectNow 29 = .ok (.getfield 206, 3) := by decide +kernel
theorem dX10_suspectNow_32 : decode cX10_suspectNow 32 = .ok (.ireturn, 1) := by decide +kernel
theorem dX10_suspect_0 : decode cX10_suspect 0 = .ok (.aload_n 0, 1) := by decide +kernel
theorem dX10_suspect_1 : decode cX10_suspect 1 = .ok (.iload_n 1, 1) := by decide +kernel
theorem dX10_suspect_2 : decode cX10_suspect 2 = .ok (.invokevirtual 233, 3) := by decide +kernel
theorem dX10_suspect_5 : decode cX10_suspect 5 = .ok (.istore_n 3, 1) := by decide +kernel
theorem dX10_suspect_6 : decode cX10_suspect 6 = .ok (.iload_n 3, 1) := by decide +kernel
theorem dX10_suspect_7 : decode cX10_suspect 7 = .ok (.iconst (-1), 1) := by decide +kernel
theorem dX10_suspect_8 : decode cX10_suspect 8 = .ok (.if_icmp .ne 7, 3) := by decide +kernel
theorem dX10_suspect_11 : decode cX10_suspect 11 = .ok (.sipush (-1001), 3) := by decide +kernel
theorem dX10_suspect_14 : decode cX10_suspect 14 = .ok (.ireturn, 1) := by decide +kernel
theorem dX10_suspect_15 : decode cX10_suspect 15 = .ok (.iload_n 2, 1) := by decide +kernel
theorem dX10_suspect_16 : decode cX10_suspect 16 = .ok (.iconst 0, 1) := by decide +kernel
theorem dX10_suspect_17 : decode cX10_suspect 17 = .ok (.iconst 2, 1) := by decide +kernel
theorem dX10_suspect_18 : decode cX10_suspect 18 = .ok (.invokestatic 55, 3) := by decide +kernel
theorem dX10_suspect_21 : decode cX10_suspect 21 = .ok (.ifCond .eq 12, 3) := by decide +kernel
theorem dX10_suspect_24 : decode cX10_suspect 24 = .ok (.aload_n 0, 1) := by decide +kernel
theorem dX10_suspect_25 : decode cX10_suspect 25 = .ok (.iload_n 3, 1) := by decide +kernel
theorem dX10_suspect_26 : decode cX10_suspect 26 = .ok (.iload_n 2, 1) := by decide +kernel
theorem dX10_suspect_27 : decode cX10_suspect 27 = .ok (.invokevirtual 236, 3) := by decide +kernel
theorem dX10_suspect_30 : decode cX10_suspect 30 = .ok (.goto 6, 3) := by decide +kernel
theorem dX10_suspect_33 : decode cX10_suspect 33 = .ok (.sipush (-1002), 3) := by decide +kernel
theorem dX10_suspect_36 : decode cX10_suspect 36 = .ok (.ireturn, 1) := by decide +kernel
theorem dX10_isBetter_0 : decode cX10_isBetter 0 = .ok (.iload_n 2, 1) := by decide +kernel
theorem dX10_isBetter_1 : decode cX10_isBetter 1 = .ok (.iconst (-1), 1) := by decide +kernel
theorem dX10_isBetter_2 : decode cX10_isBetter 2 = .ok (.if_icmp .eq 34, 3) := by decide +kernel
theorem dX10_isBetter_5 : decode cX10_isBetter 5 = .ok (.aload_n 0, 1) := by decide +kernel
theorem dX10_isBetter_6 : decode cX10_isBetter 6 = .ok (.iload_n 1, 1) := by decide +kernel
theorem dX10_isBetter_7 : decode cX10_isBetter 7 = .ok (.invokevirtual 185, 3) := by decide +kernel
theorem dX10_isBetter_10 : decode cX10_isBetter 10 = .ok (.aload_n 0, 1) := by decide +kernel
theorem dX10_isBetter_11 : decode cX10_isBetter 11 = .ok (.iload_n 2, 1) := by decide +kernel
theorem dX10_isBetter_12 : decode cX10_isBetter 12 = .ok (.invokevirtual 185, 3) := by decide +kernel
theorem dX10_isBetter_15 : decode cX10_isBetter 15 = .ok (.if_icmp .lt 21, 3) := by decide +kernel
theorem dX10_isBetter_18 : decode cX10_isBetter 18 = .ok (.aload_n 0, 1) := by decide +kernel
theorem dX10_isBetter_19 : decode cX10_isBetter 19 = .ok (.iload_n 1, 1) := by decide +kernel
theorem dX10_isBetter_20 : decode cX10_isBetter 20 = .ok (.invokevirtual 185, 3) := by decide +kernel
theorem dX10_isBetter_23 : decode cX10_isBetter 23 = .ok (.aload_n 0, 1) := by decide +kernel
theorem dX10_isBetter_24 : decode cX10_isBetter 24 = .ok (.iload_n 2, 1) := by decide +kernel
theorem dX10_isBetter_25 : decode cX10_isBetter 25 = .ok (.invokevirtual 185, 3) := by decide +kernel
theorem dX10_isBetter_28 : decode cX10_isBetter 28 = .ok (.if_icmp .ne 12, 3) := by decide +kernel
theorem dX10_isBetter_31 : decode cX10_isBetter 31 = .ok (.iload_n 1, 1) := by decide +kernel
theorem dX10_isBetter_32 : decode cX10_isBetter 32 = .ok (.iload_n 2, 1) := by decide +kernel
theorem dX10_isBetter_33 : decode cX10_isBetter 33 = .ok (.if_icmp .ge 7, 3) := by decide +kernel
theorem dX10_isBetter_36 : decode cX10_isBetter 36 = .ok (.iconst 1, 1) := by decide +kernel
theorem dX10_isBetter_37 : decode cX10_isBetter 37 = .ok (.goto 4, 3) := by decide +kernel
theorem dX10_isBetter_40 : decode cX10_isBetter 40 = .ok (.iconst 0, 1) := by decide +kernel
theorem dX10_isBetter_41 : decode cX10_isBetter 41 = .ok (.ireturn, 1) := by decide +kernel
theorem dX10_goesOn_0 : decode cX10_goesOn 0 = .ok (.iconst (-1), 1) := by decide +kernel
theorem dX10_goesOn_1 : decode cX10_goesOn 1 = .ok (.istore_n 3, 1) := by decide +kernel
theorem dX10_goesOn_2 : decode cX10_goesOn 2 = .ok (.iconst 0, 1) := by decide +kernel
theorem dX10_goesOn_3 : decode cX10_goesOn 3 = .ok (.istore 4, 2) := by decide +kernel
theorem dX10_goesOn_5 : decode cX10_goesOn 5 = .ok (.iload 4, 2) := by decide +kernel
theorem dX10_goesOn_7 : decode cX10_goesOn 7 = .ok (.aload_n 0, 1) := by decide +kernel
theorem dX10_goesOn_8 : decode cX10_goesOn 8 = .ok (.getfield 13, 3) := by decide +kernel
theorem dX10_goesOn_11 : decode cX10_goesOn 11 = .ok (.iload_n 1, 1) := by decide +kernel
theorem dX10_goesOn_12 : decode cX10_goesOn 12 = .ok (.iaload, 1) := by decide +kernel
theorem dX10_goesOn_13 : decode cX10_goesOn 13 = .ok (.invokestatic 76, 3) := by decide +kernel
theorem dX10_goesOn_16 : decode cX10_goesOn 16 = .ok (.if_icmp .ge 107, 3) := by decide +kernel
theorem dX10_goesOn_19 : decode cX10_goesOn 19 = .ok (.aload_n 0, 1) := by decide +kernel
theorem dX10_goesOn_20 : decode cX10_goesOn 20 = .ok (.getfield 16, 3) := by decide +kernel
theorem dX10_goesOn_23 : decode cX10_goesOn 23 = .ok (.iconst 2, 1) := by decide +kernel
theorem dX10_goesOn_24 : decode cX10_goesOn 24 = .ok (.iload_n 1, 1) := by decide +kernel
theorem dX10_goesOn_25 : decode cX10_goesOn 25 = .ok (.imul, 1) := by decide +kernel
theorem dX10_goesOn_26 : decode cX10_goesOn 26 = .ok (.iload 4, 2) := by decide +kernel
theorem dX10_goesOn_28 : decode cX10_goesOn 28 = .ok (.iadd, 1) := by decide +kernel
theorem dX10_goesOn_29 : decode cX10_goesOn 29 = .ok (.iaload, 1) := by decide +kernel
theorem dX10_goesOn_30 : decode cX10_goesOn 30 = .ok (.istore 5, 2) := by decide +kernel
theorem dX10_goesOn_32 : decode cX10_goesOn 32 = .ok (.aload_n 0, 1) := by decide +kernel
theorem dX10_goesOn_33 : decode cX10_goesOn 33 = .ok (.iload 5, 2) := by decide +kernel
theorem dX10_goesOn_35 : decode cX10_goesOn 35 = .ok (.invokevirtual 185, 3) := by decide +kernel
theorem dX10_goesOn_38 : decode cX10_goesOn 38 = .ok (.istore 6, 2) := by decide +kernel
theorem dX10_goesOn_40 : decode cX10_goesOn 40 = .ok (.iload 6, 2) := by decide +kernel
theorem dX10_goesOn_42 : decode cX10_goesOn 42 = .ok (.iconst (-1), 1) := by decide +kernel
theorem dX10_goesOn_43 : decode cX10_goesOn 43 = .ok (.if_icmp .eq 40, 3) := by decide +kernel
theorem dX10_goesOn_46 : decode cX10_goesOn 46 = .ok (.aload_n 0, 1) := by decide +kernel
theorem dX10_goesOn_47 : decode cX10_goesOn 47 = .ok (.getfield 13, 3) := by decide +kernel
theorem dX10_goesOn_50 : decode cX10_goesOn 50 = .ok (.iload_n 1, 1) := by decide +kernel
theorem dX10_goesOn_51 : decode cX10_goesOn 51 = .ok (.iaload, 1) := by decide +kernel
theorem dX10_goesOn_52 : decode cX10_goesOn 52 = .ok (.iconst 5, 1) := by decide +kernel
theorem dX10_goesOn_53 : decode cX10_goesOn 53 = .ok (.if_icmp .ne 16, 3) := by decide +kernel
theorem dX10_goesOn_56 : decode cX10_goesOn 56 = .ok (.iload 6, 2) := by decide +kernel
theorem dX10_goesOn_58 : decode cX10_goesOn 58 = .ok (.aload_n 0, 1) := by decide +kernel
theorem dX10_goesOn_59 : decode cX10_goesOn 59 = .ok (.iload_n 1, 1) := by decide +kernel
theorem dX10_goesOn_60 : decode cX10_goesOn 60 = .ok (.invokevirtual 185, 3) := by decide +kernel
theorem dX10_goesOn_63 : decode cX10_goesOn 63 = .ok (.if_icmp .ge 20, 3) := by decide +kernel
theorem dX10_goesOn_66 : decode cX10_goesOn 66 = .ok (.goto 13, 3) := by decide +kernel
theorem dX10_goesOn_69 : decode cX10_goesOn 69 = .ok (.iload 6, 2) := by decide +kernel
theorem dX10_goesOn_71 : decode cX10_goesOn 71 = .ok (.aload_n 0, 1) := by decide +kernel
theorem dX10_goesOn_72 : decode cX10_goesOn 72 = .ok (.iload_n 1, 1) := by decide +kernel
theorem dX10_goesOn_73 : decode cX10_goesOn 73 = .ok (.invokevirtual 185, 3) := by decide +kernel
theorem dX10_goesOn_76 : decode cX10_goesOn 76 = .ok (.if_icmp .gt 7, 3) := by decide +kernel
theorem dX10_goesOn_79 : decode cX10_goesOn 79 = .ok (.iconst 1, 1) := by decide +kernel
theorem dX10_goesOn_80 : decode cX10_goesOn 80 = .ok (.goto 4, 3) := by decide +kernel
theorem dX10_goesOn_83 : decode cX10_goesOn 83 = .ok (.iconst 0, 1) := by decide +kernel
theorem dX10_goesOn_84 : decode cX10_goesOn 84 = .ok (.istore 7, 2) := by decide +kernel
theorem dX10_goesOn_86 : decode cX10_goesOn 86 = .ok (.iload 7, 2) := by decide +kernel
theorem dX10_goesOn_88 : decode cX10_goesOn 88 = .ok (.ifCond .eq 27, 3) := by decide +kernel
theorem dX10_goesOn_91 : decode cX10_goesOn 91 = .ok (.iload_n 2, 1) := by decide +kernel
theorem dX10_goesOn_92 : decode cX10_goesOn 92 = .ok (.iload 5, 2) := by decide +kernel
theorem dX10_goesOn_94 : decode cX10_goesOn 94 = .ok (.invokestatic 179, 3) := by decide +kernel
theorem dX10_goesOn_97 : decode cX10_goesOn 97 = .ok (.ifCond .ne 18, 3) := by decide +kernel
theorem dX10_goesOn_100 : decode cX10_goesOn 100 = .ok (.aload_n 0, 1) := by decide +kernel
theorem dX10_goesOn_101 : decode cX10_goesOn 101 = .ok (.iload 5, 2) := by decide +kernel
theorem dX10_goesOn_103 : decode cX10_goesOn 103 = .ok (.iload_n 3, 1) := by decide +kernel
theorem dX10_goesOn_104 : decode cX10_goesOn 104 = .ok (.invokevirtual 239, 3) := by decide +kernel
theorem dX10_goesOn_107 : decode cX10_goesOn 107 = .ok (.ifCond .eq 8, 3) := by decide +kernel
theorem dX10_goesOn_110 : decode cX10_goesOn 110 = .ok (.iload 5, 2) := by decide +kernel
theorem dX10_goesOn_112 : decode cX10_goesOn 112 = .ok (.goto 4, 3) := by decide +kernel
theorem dX10_goesOn_115 : decode cX10_goesOn 115 = .ok (.iload_n 3, 1) := by decide +kernel
theorem dX10_goesOn_116 : decode cX10_goesOn 116 = .ok (.istore_n 3, 1) := by decide +kernel
theorem dX10_goesOn_117 : decode cX10_goesOn 117 = .ok (.iinc 4 1, 3) := by decide +kernel
theorem dX10_goesOn_120 : decode cX10_goesOn 120 = .ok (.goto (-115), 3) := by decide +kernel
theorem dX10_goesOn_123 : decode cX10_goesOn 123 = .ok (.iload_n 3, 1) := by decide +kernel
theorem dX10_goesOn_124 : decode cX10_goesOn 124 = .ok (.ireturn, 1) := by decide +kernel
theorem dX10_layWay_0 : decode cX10_layWay 0 = .ok (.aload_n 0, 1) := by decide +kernel
theorem dX10_layWay_1 : decode cX10_layWay 1 = .ok (.iconst 0, 1) := by decide +kernel
theorem dX10_layWay_2 : decode cX10_layWay 2 = .ok (.putfield 242, 3) := by decide +kernel
theorem dX10_layWay_5 : decode cX10_layWay 5 = .ok (.iconst 0, 1) := by decide +kernel
theorem dX10_layWay_6 : decode cX10_layWay 6 = .ok (.istore_n 2, 1) := by decide +kernel
theorem dX10_layWay_7 : decode cX10_layWay 7 = .ok (.aload_n 0, 1) := by decide +kernel
theorem dX10_layWay_8 : decode cX10_layWay 8 = .ok (.iload_n 1, 1) := by decide +kernel
theorem dX10_layWay_9 : decode cX10_layWay 9 = .ok (.invokevirtual 185, 3) := by decide +kernel
theorem dX10_layWay_12 : decode cX10_layWay 12 = .ok (.iconst (-1), 1) := by decide +kernel
theorem dX10_layWay_13 : decode cX10_layWay 13 = .ok (.if_icmp .ne 7, 3) := by decide +kernel
theorem dX10_layWay_16 : decode cX10_layWay 16 = .ok (.iconst (-1), 1) := by decide +kernel
theorem dX10_layWay_17 : decode cX10_layWay 17 = .ok (.goto 4, 3) := by decide +kernel
theorem dX10_layWay_20 : decode cX10_layWay 20 = .ok (.iload_n 1, 1) := by decide +kernel
theorem dX10_layWay_21 : decode cX10_layWay 21 = .ok (.istore_n 3, 1) := by decide +kernel
theorem dX10_layWay_22 : decode cX10_layWay 22 = .ok (.iload_n 3, 1) := by decide +kernel
theorem dX10_layWay_23 : decode cX10_layWay 23 = .ok (.iconst (-1), 1) := by decide +kernel
theorem dX10_layWay_24 : decode cX10_layWay 24 = .ok (.if_icmp .eq 39, 3) := by decide +kernel
theorem dX10_layWay_27 : decode cX10_layWay 27 = .ok (.aload_n 0, 1) := by decide +kernel
theorem dX10_layWay_28 : decode cX10_layWay 28 = .ok (.getfield 52, 3) := by decide +kernel
theorem dX10_layWay_31 : decode cX10_layWay 31 = .ok (.aload_n 0, 1) := by decide +kernel
theorem dX10_layWay_32 : decode cX10_layWay 32 = .ok (.getfield 242, 3) := by decide +kernel
theorem dX10_layWay_35 : decode cX10_layWay 35 = .ok (.iload_n 3, 1) := by decide +kernel
theorem dX10_layWay_36 : decode cX10_layWay 36 = .ok (.iastore, 1) := by decide +kernel
theorem dX10_layWay_37 : decode cX10_layWay 37 = .ok (.aload_n 0, 1) := by decide +kernel
theorem dX10_layWay_38 : decode cX10_layWay 38 = .ok (.dup, 1) := by decide +kernel
theorem dX10_layWay_39 : decode cX10_layWay 39 = .ok (.getfield 242, 3) := by decide +kernel
theorem dX10_layWay_42 : decode cX10_layWay 42 = .ok (.iconst 1, 1) := by decide +kernel
theorem dX10_layWay_43 : decode cX10_layWay 43 = .ok (.iadd, 1) := by decide +kernel
theorem dX10_layWay_44 : decode cX10_layWay 44 = .ok (.putfield 242, 3) := by decide +kernel
theorem dX10_layWay_47 : decode cX10_layWay 47 = .ok (.iload_n 2, 1) := by decide +kernel
theorem dX10_layWay_48 : decode cX10_layWay 48 = .ok (.iconst 1, 1) := by decide +kernel
theorem dX10_layWay_49 : decode cX10_layWay 49 = .ok (.iload_n 3, 1) := by decide +kernel
theorem dX10_layWay_50 : decode cX10_layWay 50 = .ok (.ishl, 1) := by decide +kernel
theorem dX10_layWay_51 : decode cX10_layWay 51 = .ok (.ior, 1) := by decide +kernel
theorem dX10_layWay_52 : decode cX10_layWay 52 = .ok (.istore_n 2, 1) := by decide +kernel
theorem dX10_layWay_53 : decode cX10_layWay 53 = .ok (.aload_n 0, 1) := by decide +kernel
theorem dX10_layWay_54 : decode cX10_layWay 54 = .ok (.iload_n 3, 1) := by decide +kernel
theorem dX10_layWay_55 : decode cX10_layWay 55 = .ok (.iload_n 2, 1) := by decide +kernel
theorem dX10_layWay_56 : decode cX10_layWay 56 = .ok (.invokevirtual 245, 3) := by decide +kernel
theorem dX10_layWay_59 : decode cX10_layWay 59 = .ok (.istore_n 3, 1) := by decide +kernel
theorem dX10_layWay_60 : decode cX10_layWay 60 = .ok (.goto (-38), 3) := by decide +kernel
theorem dX10_layWay_63 : decode cX10_layWay 63 = .ok (.return_, 1) := by decide +kernel
theorem dX10_placeOf_0 : decode cX10_placeOf 0 = .ok (.aload_n 0, 1) := by decide +kernel
theorem dX10_placeOf_1 : decode cX10_placeOf 1 = .ok (.iload_n 1, 1) := by decide +kernel
theorem dX10_placeOf_2 : decode cX10_placeOf 2 = .ok (.invokevirtual 248, 3) := by decide +kernel
theorem dX10_placeOf_5 : decode cX10_placeOf 5 = .ok (.aload_n 0, 1) := by decide +kernel
theorem dX10_placeOf_6 : decode cX10_placeOf 6 = .ok (.getfield 242, 3) := by decide +kernel
theorem dX10_placeOf_9 : decode cX10_placeOf 9 = .ok (.ifCond .ne 7, 3) := by decide +kernel
theorem dX10_placeOf_12 : decode cX10_placeOf 12 = .ok (.iconst (-1), 1) := by decide +kernel
theorem dX10_placeOf_13 : decode cX10_placeOf 13 = .ok (.goto 14, 3) := by decide +kernel
theorem dX10_placeOf_16 : decode cX10_placeOf 16 = .ok (.aload_n 0, 1) := by decide +kernel
theorem dX10_placeOf_17 : decode cX10_placeOf 17 = .ok (.getfield 52, 3) := by decide +kernel
theorem dX10_placeOf_20 : decode cX10_placeOf 20 = .ok (.aload_n 0, 1) := by decide +kernel
theorem dX10_placeOf_21 : decode cX10_placeOf 21 = .ok (.getfield 242, 3) := by decide +kernel
theorem dX10_placeOf_24 : decode cX10_placeOf 24 = .ok (.iconst 1, 1) := by decide +kernel
theorem dX10_placeOf_25 : decode cX10_placeOf 25 = .ok (.isub, 1) := by decide +kernel
theorem dX10_placeOf_26 : decode cX10_placeOf 26 = .ok (.iaload, 1) := by decide +kernel
theorem dX10_placeOf_27 : decode cX10_placeOf 27 = .ok (.ireturn, 1) := by decide +kernel
theorem dX10_way_0 : decode cX10_way 0 = .ok (.aload_n 0, 1) := by decide +kernel
theorem dX10_way_1 : decode cX10_way 1 = .ok (.iload_n 1, 1) := by decide +kernel
theorem dX10_way_2 : decode cX10_way 2 = .ok (.invokevirtual 188, 3) := by decide +kernel
theorem dX10_way_5 : decode cX10_way 5 = .ok (.ifCond .ne 7, 3) := by decide +kernel
theorem dX10_way_8 : decode cX10_way 8 = .ok (.sipush (-1001), 3) := by decide +kernel
theorem dX10_way_11 : decode cX10_way 11 = .ok (.ireturn, 1) := by decide +kernel
theorem dX10_way_12 : decode cX10_way 12 = .ok (.aload_n 0, 1) := by decide +kernel
theorem dX10_way_13 : decode cX10_way 13 = .ok (.iload_n 1, 1) := by decide +kernel
theorem dX10_way_14 : decode cX10_way 14 = .ok (.invokevirtual 248, 3) := by decide +kernel
theorem dX10_way_17 : decode cX10_way 17 = .ok (.iload_n 2, 1) := by decide +kernel
theorem dX10_way_18 : decode cX10_way 18 = .ok (.iconst 0, 1) := by decide +kernel
theorem dX10_way_19 : decode cX10_way 19 = .ok (.aload_n 0, 1) := by decide +kernel
theorem dX10_way_20 : decode cX10_way 20 = .ok (.getfield 242, 3) := by decide +kernel
theorem dX10_way_23 : decode cX10_way 23 = .ok (.iconst 1, 1) := by decide +kernel
theorem dX10_way_24 : decode cX10_way 24 = .ok (.isub, 1) := by decide +kernel
theorem dX10_way_25 : decode cX10_way 25 = .ok (.invokestatic 55, 3) := by decide +kernel
theorem dX10_way_28 : decode cX10_way 28 = .ok (.ifCond .eq 12, 3) := by decide +kernel
theorem dX10_way_31 : decode cX10_way 31 = .ok (.aload_n 0, 1) := by decide +kernel
theorem dX10_way_32 : decode cX10_way 32 = .ok (.getfield 52, 3) := by decide +kernel
theorem dX10_way_35 : decode cX10_way 35 = .ok (.iload_n 2, 1) := by decide +kernel
theorem dX10_way_36 : decode cX10_way 36 = .ok (.iaload, 1) := by decide +kernel
theorem dX10_way_37 : decode cX10_way 37 = .ok (.goto 4, 3) := by decide +kernel
theorem dX10_way_40 : decode cX10_way 40 = .ok (.iconst (-1), 1) := by decide +kernel
theorem dX10_way_41 : decode cX10_way 41 = .ok (.ireturn, 1) := by decide +kernel
theorem dX10_place_0 : decode cX10_place 0 = .ok (.aload_n 0, 1) := by decide +kernel
theorem dX10_place_1 : decode cX10_place 1 = .ok (.iload_n 1, 1) := by decide +kernel
theorem dX10_place_2 : decode cX10_place 2 = .ok (.invokevirtual 188, 3) := by decide +kernel
theorem dX10_place_5 : decode cX10_place 5 = .ok (.ifCond .eq 11, 3) := by decide +kernel
theorem dX10_place_8 : decode cX10_place 8 = .ok (.aload_n 0, 1) := by decide +kernel
theorem dX10_place_9 : decode cX10_place 9 = .ok (.iload_n 1, 1) := by decide +kernel
theorem dX10_place_10 : decode cX10_place 10 = .ok (.invokevirtual 251, 3) := by decide +kernel
theorem dX10_place_13 : decode cX10_place 13 = .ok (.goto 6, 3) := by decide +kernel
theorem dX10_place_16 : decode cX10_place 16 = .ok (.sipush (-1001), 3) := by decide +kernel
theorem dX10_place_19 : decode cX10_place 19 = .ok (.ireturn, 1) := by decide +kernel
theorem dX10_howMany_0 : decode cX10_howMany 0 = .ok (.iload_n 1, 1) := by decide +kernel
theorem dX10_howMany_1 : decode cX10_howMany 1 = .ok (.tableswitch 113 0 9 #[55, 60, 70, 75, 80, 85, 93, 98, 103, 108], 55) := by decide +kernel
theorem dX10_howMany_56 : decode cX10_howMany 56 = .ok (.aload_n 0, 1) := by decide +kernel
theorem dX10_howMany_57 : decode cX10_howMany 57 = .ok (.getfield 112, 3) := by decide +kernel
theorem dX10_howMany_60 : decode cX10_howMany 60 = .ok (.ireturn, 1) := by decide +kernel
theorem dX10_howMany_61 : decode cX10_howMany 61 = .ok (.aload_n 0, 1) := by decide +kernel
theorem dX10_howMany_62 : decode cX10_howMany 62 = .ok (.getfield 115, 3) := by decide +kernel
theorem dX10_howMany_65 : decode cX10_howMany 65 = .ok (.aload_n 0, 1) := by decide +kernel
theorem dX10_howMany_66 : decode cX10_howMany 66 = .ok (.getfield 112, 3) := by decide +kernel
theorem dX10_howMany_69 : decode cX10_howMany 69 = .ok (.isub, 1) := by decide +kernel
theorem dX10_howMany_70 : decode cX10_howMany 70 = .ok (.ireturn, 1) := by decide +kernel
theorem dX10_howMany_71 : decode cX10_howMany 71 = .ok (.aload_n 0, 1) := by decide +kernel
theorem dX10_howMany_72 : decode cX10_howMany 72 = .ok (.getfield 59, 3) := by decide +kernel
theorem dX10_howMany_75 : decode cX10_howMany 75 = .ok (.ireturn, 1) := by decide +kernel
theorem dX10_howMany_76 : decode cX10_howMany 76 = .ok (.aload_n 0, 1) := by decide +kernel
theorem dX10_howMany_77 : decode cX10_howMany 77 = .ok (.getfield 127, 3) := by decide +kernel
theorem dX10_howMany_80 : decode cX10_howMany 80 = .ok (.ireturn, 1) := by decide +kernel
theorem dX10_howMany_81 : decode cX10_howMany 81 = .ok (.aload_n 0, 1) := by decide +kernel
theorem dX10_howMany_82 : decode cX10_howMany 82 = .ok (.getfield 118, 3) := by decide +kernel
theorem dX10_howMany_85 : decode cX10_howMany 85 = .ok (.ireturn, 1) := by decide +kernel
theorem dX10_howMany_86 : decode cX10_howMany 86 = .ok (.aload_n 0, 1) := by decide +kernel
theorem dX10_howMany_87 : decode cX10_howMany 87 = .ok (.getfield 161, 3) := by decide +kernel
theorem dX10_howMany_90 : decode cX10_howMany 90 = .ok (.invokestatic 197, 3) := by decide +kernel
theorem dX10_howMany_93 : decode cX10_howMany 93 = .ok (.ireturn, 1) := by decide +kernel
theorem dX10_howMany_94 : decode cX10_howMany 94 = .ok (.aload_n 0, 1) := by decide +kernel
theorem dX10_howMany_95 : decode cX10_howMany 95 = .ok (.getfield 148, 3) := by decide +kernel
theorem dX10_howMany_98 : decode cX10_howMany 98 = .ok (.ireturn, 1) := by decide +kernel
theorem dX10_howMany_99 : decode cX10_howMany 99 = .ok (.aload_n 0, 1) := by decide +kernel
theorem dX10_howMany_100 : decode cX10_howMany 100 = .ok (.getfield 121, 3) := by decide +kernel
theorem dX10_howMany_103 : decode cX10_howMany 103 = .ok (.ireturn, 1) := by decide +kernel
theorem dX10_howMany_104 : decode cX10_howMany 104 = .ok (.aload_n 0, 1) := by decide +kernel
theorem dX10_howMany_105 : decode cX10_howMany 105 = .ok (.getfield 130, 3) := by decide +kernel
theorem dX10_howMany_108 : decode cX10_howMany 108 = .ok (.ireturn, 1) := by decide +kernel
theorem dX10_howMany_109 : decode cX10_howMany 109 = .ok (.aload_n 0, 1) := by decide +kernel
theorem dX10_howMany_110 : decode cX10_howMany 110 = .ok (.getfield 194, 3) := by decide +kernel
theorem dX10_howMany_113 : decode cX10_howMany 113 = .ok (.ireturn, 1) := by decide +kernel
theorem dX10_howMany_114 : decode cX10_howMany 114 = .ok (.sipush (-1002), 3) := by decide +kernel
theorem dX10_howMany_117 : decode cX10_howMany 117 = .ok (.ireturn, 1) := by decide +kernel
theorem dX10_count_0 : decode cX10_count 0 = .ok (.aload_n 0, 1) := by decide +kernel
theorem dX10_count_1 : decode cX10_count 1 = .ok (.iload_n 1, 1) := by decide +kernel
theorem dX10_count_2 : decode cX10_count 2 = .ok (.invokevirtual 254, 3) := by decide +kernel
theorem dX10_count_5 : decode cX10_count 5 = .ok (.ireturn, 1) := by decide +kernel
theorem dX10_mix_0 : decode cX10_mix 0 = .ok (.aload_n 0, 1) := by decide +kernel
theorem dX10_mix_1 : decode cX10_mix 1 = .ok (.ldc2_w 257, 3) := by decide +kernel
theorem dX10_mix_4 : decode cX10_mix 4 = .ok (.aload_n 0, 1) := by decide +kernel
theorem dX10_mix_5 : decode cX10_mix 5 = .ok (.getfield 259, 3) := by decide +kernel
theorem dX10_mix_8 : decode cX10_mix 8 = .ok (.lmul, 1) := by decide +kernel
theorem dX10_mix_9 : decode cX10_mix 9 = .ok (.lload_n 1, 1) := by decide +kernel
theorem dX10_mix_10 : decode cX10_mix 10 = .ok (.ladd, 1) := by decide +kernel
theorem dX10_mix_11 : decode cX10_mix 11 = .ok (.putfield 259, 3) := by decide +kernel
theorem dX10_mix_14 : decode cX10_mix 14 = .ok (.return_, 1) := by decide +kernel
theorem dX10_mixSuspects_0 : decode cX10_mixSuspects 0 = .ok (.iconst 0, 1) := by decide +kernel
theorem dX10_mixSuspects_1 : decode cX10_mixSuspects 1 = .ok (.istore_n 1, 1) := by decide +kernel
theorem dX10_mixSuspects_2 : decode cX10_mixSuspects 2 = .ok (.iload_n 1, 1) := by decide +kernel
theorem dX10_mixSuspects_3 : decode cX10_mixSuspects 3 = .ok (.iconst 5, 1) := by decide +kernel
theorem dX10_mixSuspects_4 : decode cX10_mixSuspects 4 = .ok (.if_icmp .ge 19, 3) := by decide +kernel
theorem dX10_mixSuspects_7 : decode cX10_mixSuspects 7 = .ok (.aload_n 0, 1) := by decide +kernel
theorem dX10_mixSuspects_8 : decode cX10_mixSuspects 8 = .ok (.aload_n 0, 1) := by decide +kernel
theorem dX10_mixSuspects_9 : decode cX10_mixSuspects 9 = .ok (.iload_n 1, 1) := by decide +kernel
theorem dX10_mixSuspects_10 : decode cX10_mixSuspects 10 = .ok (.invokevirtual 230, 3) := by decide +kernel
theorem dX10_mixSuspects_13 : decode cX10_mixSuspects 13 = .ok (.i2l, 1) := by decide +kernel
theorem dX10_mixSuspects_14 : decode cX10_mixSuspects 14 = .ok (.invokevirtual 263, 3) := by decide +kernel
theorem dX10_mixSuspects_17 : decode cX10_mixSuspects 17 = .ok (.iinc 1 1, 3) := by decide +kernel
theorem dX10_mixSuspects_20 : decode cX10_mixSuspects 20 = .ok (.goto (-18), 3) := by decide +kernel
theorem dX10_mixSuspects_23 : decode cX10_mixSuspects 23 = .ok (.iconst 0, 1) := by decide +kernel
theorem dX10_mixSuspects_24 : decode cX10_mixSuspects 24 = .ok (.istore_n 1, 1) := by decide +kernel
theorem dX10_mixSuspects_25 : decode cX10_mixSuspects 25 = .ok (.iload_n 1, 1) := by decide +kernel
theorem dX10_mixSuspects_26 : decode cX10_mixSuspects 26 = .ok (.aload_n 0, 1) := by decide +kernel
theorem dX10_mixSuspects_27 : decode cX10_mixSuspects 27 = .ok (.getfield 148, 3) := by decide +kernel
theorem dX10_mixSuspects_30 : decode cX10_mixSuspects 30 = .ok (.if_icmp .ge 49, 3) := by decide +kernel
theorem dX10_mixSuspects_33 : decode cX10_mixSuspects 33 = .ok (.aload_n 0, 1) := by decide +kernel
theorem dX10_mixSuspects_34 : decode cX10_mixSuspects 34 = .ok (.iload_n 1, 1) := by decide +kernel
theorem dX10_mixSuspects_35 : decode cX10_mixSuspects 35 = .ok (.aload_n 0, 1) := by decide +kernel
theorem dX10_mixSuspects_36 : decode cX10_mixSuspects 36 = .ok (.getfield 161, 3) := by decide +kernel
theorem dX10_mixSuspects_39 : decode cX10_mixSuspects 39 = .ok (.aload_n 0, 1) := by decide +kernel
theorem dX10_mixSuspects_40 : decode cX10_mixSuspects 40 = .ok (.getfield 164, 3) := by decide +kernel
theorem dX10_mixSuspects_43 : decode cX10_mixSuspects 43 = .ok (.invokevirtual 200, 3) := by decide +kernel
theorem dX10_mixSuspects_46 : decode cX10_mixSuspects 46 = .ok (.ifCond .eq 27, 3) := by decide +kernel
theorem dX10_mixSuspects_49 : decode cX10_mixSuspects 49 = .ok (.iconst 0, 1) := by decide +kernel
theorem dX10_mixSuspects_50 : decode cX10_mixSuspects 50 = .ok (.istore_n 2, 1) := by decide +kernel
theorem dX10_mixSuspects_51 : decode cX10_mixSuspects 51 = .ok (.iload_n 2, 1) := by decide +kernel
theorem dX10_mixSuspects_52 : decode cX10_mixSuspects 52 = .ok (.iconst 3, 1) := by decide +kernel
theorem dX10_mixSuspects_53 : decode cX10_mixSuspects 53 = .ok (.if_icmp .ge 20, 3) := by decide +kernel
theorem dX10_mixSuspects_56 : decode cX10_mixSuspects 56 = .ok (.aload_n 0, 1) := by decide +kernel
theorem dX10_mixSuspects_57 : decode cX10_mixSuspects 57 = .ok (.aload_n 0, 1) := by decide +kernel
theorem dX10_mixSuspects_58 : decode cX10_mixSuspects 58 = .ok (.iload_n 1, 1) := by decide +kernel
theorem dX10_mixSuspects_59 : decode cX10_mixSuspects 59 = .ok (.iload_n 2, 1) := by decide +kernel
theorem dX10_mixSuspects_60 : decode cX10_mixSuspects 60 = .ok (.invokevirtual 236, 3) := by decide +kernel
theorem dX10_mixSuspects_63 : decode cX10_mixSuspects 63 = .ok (.i2l, 1) := by decide +kernel
theorem dX10_mixSuspects_64 : decode cX10_mixSuspects 64 = .ok (.invokevirtual 263, 3) := by decide +kernel
theorem dX10_mixSuspects_67 : decode cX10_mixSuspects 67 = .ok (.iinc 2 1, 3) := by decide +kernel
theorem dX10_mixSuspects_70 : decode cX10_mixSuspects 70 = .ok (.goto (-19), 3) := by decide +kernel
theorem dX10_mixSuspects_73 : decode cX10_mixSuspects 73 = .ok (.iinc 1 1, 3) := by decide +kernel
theorem dX10_mixSuspects_76 : decode cX10_mixSuspects 76 = .ok (.goto (-51), 3) := by decide +kernel
theorem dX10_mixSuspects_79 : decode cX10_mixSuspects 79 = .ok (.return_, 1) := by decide +kernel
theorem dX10_digest_0 : decode cX10_digest 0 = .ok (.aload_n 0, 1) := by decide +kernel
theorem dX10_digest_1 : decode cX10_digest 1 = .ok (.ldc2_w 267, 3) := by decide +kernel
theorem dX10_digest_4 : decode cX10_digest 4 = .ok (.putfield 259, 3) := by decide +kernel
theorem dX10_digest_7 : decode cX10_digest 7 = .ok (.iconst 0, 1) := by decide +kernel
theorem dX10_digest_8 : decode cX10_digest 8 = .ok (.istore_n 1, 1) := by decide +kernel
theorem dX10_digest_9 : decode cX10_digest 9 = .ok (.iload_n 1, 1) := by decide +kernel
theorem dX10_digest_10 : decode cX10_digest 10 = .ok (.aload_n 0, 1) := by decide +kernel
theorem dX10_digest_11 : decode cX10_digest 11 = .ok (.getfield 115, 3) := by decide +kernel
theorem dX10_digest_14 : decode cX10_digest 14 = .ok (.if_icmp .ge 44, 3) := by decide +kernel
theorem dX10_digest_17 : decode cX10_digest 17 = .ok (.iconst 0, 1) := by decide +kernel
theorem dX10_digest_18 : decode cX10_digest 18 = .ok (.istore_n 2, 1) := by decide +kernel
theorem dX10_digest_19 : decode cX10_digest 19 = .ok (.iload_n 2, 1) := by decide +kernel
theorem dX10_digest_20 : decode cX10_digest 20 = .ok (.bipush 10, 2) := by decide +kernel
theorem dX10_digest_22 : decode cX10_digest 22 = .ok (.if_icmp .ge 20, 3) := by decide +kernel
theorem dX10_digest_25 : decode cX10_digest 25 = .ok (.aload_n 0, 1) := by decide +kernel
theorem dX10_digest_26 : decode cX10_digest 26 = .ok (.aload_n 0, 1) := by decide +kernel
theorem dX10_digest_27 : decode cX10_digest 27 = .ok (.iload_n 1, 1) := by decide +kernel
theorem dX10_digest_28 : decode cX10_digest 28 = .ok (.iload_n 2, 1) := by decide +kernel
theorem dX10_digest_29 : decode cX10_digest 29 = .ok (.invokevirtual 191, 3) := by decide +kernel
theorem dX10_digest_32 : decode cX10_digest 32 = .ok (.i2l, 1) := by decide +kernel
theorem dX10_digest_33 : decode cX10_digest 33 = .ok (.invokevirtual 263, 3) := by decide +kernel
theorem dX10_digest_36 : decode cX10_digest 36 = .ok (.iinc 2 1, 3) := by decide +kernel
theorem dX10_digest_39 : decode cX10_digest 39 = .ok (.goto (-20), 3) := by decide +kernel
theorem dX10_digest_42 : decode cX10_digest 42 = .ok (.aload_n 0, 1) := by decide +kernel
theorem dX10_digest_43 : decode cX10_digest 43 = .ok (.aload_n 0, 1) := by decide +kernel
theorem dX10_digest_44 : decode cX10_digest 44 = .ok (.iload_n 1, 1) := by decide +kernel
theorem dX10_digest_45 : decode cX10_digest 45 = .ok (.invokevirtual 251, 3) := by decide +kernel
theorem dX10_digest_48 : decode cX10_digest 48 = .ok (.i2l, 1) := by decide +kernel
theorem dX10_digest_49 : decode cX10_digest 49 = .ok (.invokevirtual 263, 3) := by decide +kernel
theorem dX10_digest_52 : decode cX10_digest 52 = .ok (.iinc 1 1, 3) := by decide +kernel
theorem dX10_digest_55 : decode cX10_digest 55 = .ok (.goto (-46), 3) := by decide +kernel
theorem dX10_digest_58 : decode cX10_digest 58 = .ok (.iconst 0, 1) := by decide +kernel
theorem dX10_digest_59 : decode cX10_digest 59 = .ok (.istore_n 1, 1) := by decide +kernel
theorem dX10_digest_60 : decode cX10_digest 60 = .ok (.iload_n 1, 1) := by decide +kernel
theorem dX10_digest_61 : decode cX10_digest 61 = .ok (.aload_n 0, 1) := by decide +kernel
theorem dX10_digest_62 : decode cX10_digest 62 = .ok (.getfield 148, 3) := by decide +kernel
theorem dX10_digest_65 : decode cX10_digest 65 = .ok (.if_icmp .ge 42, 3) := by decide +kernel
theorem dX10_digest_68 : decode cX10_digest 68 = .ok (.aload_n 0, 1) := by decide +kernel
theorem dX10_digest_69 : decode cX10_digest 69 = .ok (.aload_n 0, 1) := by decide +kernel
theorem dX10_digest_70 : decode cX10_digest 70 = .ok (.getfield 43, 3) := by decide +kernel
theorem dX10_digest_73 : decode cX10_digest 73 = .ok (.iload_n 1, 1) := by decide +kernel
theorem dX10_digest_74 : decode cX10_digest 74 = .ok (.iaload, 1) := by decide +kernel
theorem dX10_digest_75 : decode cX10_digest 75 = .ok (.i2l, 1) := by decide +kernel
theorem dX10_digest_76 : decode cX10_digest 76 = .ok (.invokevirtual 263, 3) := by decide +kernel
theorem dX10_digest_79 : decode cX10_digest 79 = .ok (.aload_n 0, 1) := by decide +kernel
theorem dX10_digest_80 : decode cX10_digest 80 = .ok (.aload_n 0, 1) := by decide +kernel
theorem dX10_digest_81 : decode cX10_digest 81 = .ok (.getfield 46, 3) := by decide +kernel
theorem dX10_digest_84 : decode cX10_digest 84 = .ok (.iload_n 1, 1) := by decide +kernel
theorem dX10_digest_85 : decode cX10_digest 85 = .ok (.iaload, 1) := by decide +kernel
theorem dX10_digest_86 : decode cX10_digest 86 = .ok (.i2l, 1) := by decide +kernel
theorem dX10_digest_87 : decode cX10_digest 87 = .ok (.invokevirtual 263, 3) := by decide +kernel
theorem dX10_digest_90 : decode cX10_digest 90 = .ok (.aload_n 0, 1) := by decide +kernel
theorem dX10_digest_91 : decode cX10_digest 91 = .ok (.aload_n 0, 1) := by decide +kernel
theorem dX10_digest_92 : decode cX10_digest 92 = .ok (.getfield 49, 3) := by decide +kernel
theorem dX10_digest_95 : decode cX10_digest 95 = .ok (.iload_n 1, 1) := by decide +kernel
theorem dX10_digest_96 : decode cX10_digest 96 = .ok (.iaload, 1) := by decide +kernel
theorem dX10_digest_97 : decode cX10_digest 97 = .ok (.i2l, 1) := by decide +kernel
theorem dX10_digest_98 : decode cX10_digest 98 = .ok (.invokevirtual 263, 3) := by decide +kernel
theorem dX10_digest_101 : decode cX10_digest 101 = .ok (.iinc 1 1, 3) := by decide +kernel
theorem dX10_digest_104 : decode cX10_digest 104 = .ok (.goto (-44), 3) := by decide +kernel
theorem dX10_digest_107 : decode cX10_digest 107 = .ok (.aload_n 0, 1) := by decide +kernel
theorem dX10_digest_108 : decode cX10_digest 108 = .ok (.invokevirtual 269, 3) := by decide +kernel
theorem dX10_digest_111 : decode cX10_digest 111 = .ok (.iconst 0, 1) := by decide +kernel
theorem dX10_digest_112 : decode cX10_digest 112 = .ok (.istore_n 1, 1) := by decide +kernel
theorem dX10_digest_113 : decode cX10_digest 113 = .ok (.iload_n 1, 1) := by decide +kernel
theorem dX10_digest_114 : decode cX10_digest 114 = .ok (.aload_n 0, 1) := by decide +kernel
theorem dX10_digest_115 : decode cX10_digest 115 = .ok (.getfield 59, 3) := by decide +kernel
theorem dX10_digest_118 : decode cX10_digest 118 = .ok (.if_icmp .ge 20, 3) := by decide +kernel
theorem dX10_digest_121 : decode cX10_digest 121 = .ok (.aload_n 0, 1) := by decide +kernel
theorem dX10_digest_122 : decode cX10_digest 122 = .ok (.aload_n 0, 1) := by decide +kernel
theorem dX10_digest_123 : decode cX10_digest 123 = .ok (.getfield 7, 3) := by decide +kernel
theorem dX10_digest_126 : decode cX10_digest 126 = .ok (.iload_n 1, 1) := by decide +kernel
theorem dX10_digest_127 : decode cX10_digest 127 = .ok (.iaload, 1) := by decide +kernel
theorem dX10_digest_128 : decode cX10_digest 128 = .ok (.i2l, 1) := by decide +kernel
theorem dX10_digest_129 : decode cX10_digest 129 = .ok (.invokevirtual 263, 3) := by decide +kernel
theorem dX10_digest_132 : decode cX10_digest 132 = .ok (.iinc 1 1, 3) := by decide +kernel
theorem dX10_digest_135 : decode cX10_digest 135 = .ok (.goto (-22), 3) := by decide +kernel
theorem dX10_digest_138 : decode cX10_digest 138 = .ok (.iconst 0, 1) := by decide +kernel
theorem dX10_digest_139 : decode cX10_digest 139 = .ok (.istore_n 1, 1) := by decide +kernel
theorem dX10_digest_140 : decode cX10_digest 140 = .ok (.iload_n 1, 1) := by decide +kernel
theorem dX10_digest_141 : decode cX10_digest 141 = .ok (.bipush 10, 2) := by decide +kernel
theorem dX10_digest_143 : decode cX10_digest 143 = .ok (.if_icmp .ge 19, 3) := by decide +kernel
theorem dX10_digest_146 : decode cX10_digest 146 = .ok (.aload_n 0, 1) := by decide +kernel
theorem dX10_digest_147 : decode cX10_digest 147 = .ok (.aload_n 0, 1) := by decide +kernel
theorem dX10_digest_148 : decode cX10_digest 148 = .ok (.iload_n 1, 1) := by decide +kernel
theorem dX10_digest_149 : decode cX10_digest 149 = .ok (.invokevirtual 254, 3) := by decide +kernel
theorem dX10_digest_152 : decode cX10_digest 152 = .ok (.i2l, 1) := by decide +kernel
theorem dX10_digest_153 : decode cX10_digest 153 = .ok (.invokevirtual 263, 3) := by decide +kernel
theorem dX10_digest_156 : decode cX10_digest 156 = .ok (.iinc 1 1, 3) := by decide +kernel
theorem dX10_digest_159 : decode cX10_digest 159 = .ok (.goto (-19), 3) := by decide +kernel
theorem dX10_digest_162 : decode cX10_digest 162 = .ok (.aload_n 0, 1) := by decide +kernel
theorem dX10_digest_163 : decode cX10_digest 163 = .ok (.getfield 259, 3) := by decide +kernel
theorem dX10_digest_166 : decode cX10_digest 166 = .ok (.lreturn, 1) := by decide +kernel
